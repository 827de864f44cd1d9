theorem dX9_feed_0 : decode cX9_feed 0 = .ok (.aload_n 0, 1) := by decide +kernel
theorem dX9_feed_1 : decode cX9_feed 1 = .ok (.getfield 13, 3) := by decide +kernel
theorem dX9_feed_4 : decode cX9_feed 4 = .ok (.bipush 20, 2) := by decide +kernel
theorem dX9_feed_6 : decode cX9_feed 6 = .ok (.iadd, 1) := by decide +kernel
theorem dX9_feed_7 : decode cX9_feed 7 = .ok (.sipush 2000, 3) := by decide +kernel
theorem dX9_feed_10 : decode cX9_feed 10 = .ok (.if_icmp .le 5, 3) := by decide +kernel
theorem dX9_feed_13 : decode cX9_feed 13 = .ok (.iconst (-1), 1) := by decide +kernel
theorem dX9_feed_14 : decode cX9_feed 14 = .ok (.ireturn, 1) := by decide +kernel
theorem dX9_feed_15 : decode cX9_feed 15 = .ok (.aload_n 0, 1) := by decide +kernel
theorem dX9_feed_16 : decode cX9_feed 16 = .ok (.iload_n 1, 1) := by decide +kernel
theorem dX9_feed_17 : decode cX9_feed 17 = .ok (.invokevirtual 89, 3) := by decide +kernel
theorem dX9_feed_20 : decode cX9_feed 20 = .ok (.aload_n 0, 1) := by decide +kernel
theorem dX9_feed_21 : decode cX9_feed 21 = .ok (.iload_n 2, 1) := by decide +kernel
theorem dX9_feed_22 : decode cX9_feed 22 = .ok (.invokevirtual 89, 3) := by decide +kernel
theorem dX9_feed_25 : decode cX9_feed 25 = .ok (.aload_n 0, 1) := by decide +kernel
theorem dX9_feed_26 : decode cX9_feed 26 = .ok (.iload_n 3, 1) := by decide +kernel
theorem dX9_feed_27 : decode cX9_feed 27 = .ok (.invokevirtual 89, 3) := by decide +kernel
theorem dX9_feed_30 : decode cX9_feed 30 = .ok (.aload_n 0, 1) := by decide +kernel
theorem dX9_feed_31 : decode cX9_feed 31 = .ok (.iload 4, 2) := by decide +kernel
theorem dX9_feed_33 : decode cX9_feed 33 = .ok (.invokevirtual 89, 3) := by decide +kernel
theorem dX9_feed_36 : decode cX9_feed 36 = .ok (.aload_n 0, 1) := by decide +kernel
theorem dX9_feed_37 : decode cX9_feed 37 = .ok (.iload 5, 2) := by decide +kernel
theorem dX9_feed_39 : decode cX9_feed 39 = .ok (.invokevirtual 89, 3) := by decide +kernel
theorem dX9_feed_42 : decode cX9_feed 42 = .ok (.aload_n 0, 1) := by decide +kernel
theorem dX9_feed_43 : decode cX9_feed 43 = .ok (.getfield 13, 3) := by decide +kernel
theorem dX9_feed_46 : decode cX9_feed 46 = .ok (.ireturn, 1) := by decide +kernel
theorem dX9_putFour_0 : decode cX9_putFour 0 = .ok (.bipush 24, 2) := by decide +kernel
theorem dX9_putFour_2 : decode cX9_putFour 2 = .ok (.istore_n 2, 1) := by decide +kernel
theorem dX9_putFour_3 : decode cX9_putFour 3 = .ok (.iload_n 2, 1) := by decide +kernel
theorem dX9_putFour_4 : decode cX9_putFour 4 = .ok (.ifCond .lt 42, 3) := by decide +kernel
theorem dX9_putFour_7 : decode cX9_putFour 7 = .ok (.aload_n 0, 1) := by decide +kernel
theorem dX9_putFour_8 : decode cX9_putFour 8 = .ok (.getfield 13, 3) := by decide +kernel
theorem dX9_putFour_11 : decode cX9_putFour 11 = .ok (.sipush 2000, 3) := by decide +kernel
theorem dX9_putFour_14 : decode cX9_putFour 14 = .ok (.if_icmp .ge 32, 3) := by decide +kernel
theorem dX9_putFour_17 : decode cX9_putFour 17 = .ok (.aload_n 0, 1) := by decide +kernel
theorem dX9_putFour_18 : decode cX9_putFour 18 = .ok (.getfield 9, 3) := by decide +kernel
theorem dX9_putFour_21 : decode cX9_putFour 21 = .ok (.aload_n 0, 1) := by decide +kernel
theorem dX9_putFour_22 : decode cX9_putFour 22 = .ok (.getfield 13, 3) := by decide +kernel
theorem dX9_putFour_25 : decode cX9_putFour 25 = .ok (.iload_n 1, 1) := by decide +kernel
theorem dX9_putFour_26 : decode cX9_putFour 26 = .ok (.iload_n 2, 1) := by decide +kernel
theorem dX9_putFour_27 : decode cX9_putFour 27 = .ok (.iushr, 1) := by decide +kernel
theorem dX9_putFour_28 : decode cX9_putFour 28 = .ok (.i2b, 1) := by decide +kernel
theorem dX9_putFour_29 : decode cX9_putFour 29 = .ok (.bastore, 1) := by decide +kernel
theorem dX9_putFour_30 : decode cX9_putFour 30 = .ok (.aload_n 0, 1) := by decide +kernel
theorem dX9_putFour_31 : decode cX9_putFour 31 = .ok (.dup, 1) := by decide +kernel
theorem dX9_putFour_32 : decode cX9_putFour 32 = .ok (.getfield 13, 3) := by decide +kernel
theorem dX9_putFour_35 : decode cX9_putFour 35 = .ok (.iconst 1, 1) := by decide +kernel
theorem dX9_putFour_36 : decode cX9_putFour 36 = .ok (.iadd, 1) := by decide +kernel
theorem dX9_putFour_37 : decode cX9_putFour 37 = .ok (.putfield 13, 3) := by decide +kernel
theorem dX9_putFour_40 : decode cX9_putFour 40 = .ok (.iinc 2 (-8), 3) := by decide +kernel
theorem dX9_putFour_43 : decode cX9_putFour 43 = .ok (.goto (-40), 3) := by decide +kernel
theorem dX9_putFour_46 : decode cX9_putFour 46 = .ok (.return_, 1) := by decide +kernel
theorem dX9_back_0 : decode cX9_back 0 = .ok (.iload_n 1, 1) := by decide +kernel
theorem dX9_back_1 : decode cX9_back 1 = .ok (.ifCond .lt 11, 3) := by decide +kernel
theorem dX9_back_4 : decode cX9_back 4 = .ok (.iload_n 1, 1) := by decide +kernel
theorem dX9_back_5 : decode cX9_back 5 = .ok (.aload_n 0, 1) := by decide +kernel
theorem dX9_back_6 : decode cX9_back 6 = .ok (.getfield 13, 3) := by decide +kernel
theorem dX9_back_9 : decode cX9_back 9 = .ok (.if_icmp .le 5, 3) := by decide +kernel
theorem dX9_back_12 : decode cX9_back 12 = .ok (.iconst (-1), 1) := by decide +kernel
theorem dX9_back_13 : decode cX9_back 13 = .ok (.ireturn, 1) := by decide +kernel
theorem dX9_back_14 : decode cX9_back 14 = .ok (.aload_n 0, 1) := by decide +kernel
theorem dX9_back_15 : decode cX9_back 15 = .ok (.dup, 1) := by decide +kernel
theorem dX9_back_16 : decode cX9_back 16 = .ok (.getfield 13, 3) := by decide +kernel
theorem dX9_back_19 : decode cX9_back 19 = .ok (.iload_n 1, 1) := by decide +kernel
theorem dX9_back_20 : decode cX9_back 20 = .ok (.isub, 1) := by decide +kernel
theorem dX9_back_21 : decode cX9_back 21 = .ok (.putfield 13, 3) := by decide +kernel
theorem dX9_back_24 : decode cX9_back 24 = .ok (.aload_n 0, 1) := by decide +kernel
theorem dX9_back_25 : decode cX9_back 25 = .ok (.getfield 13, 3) := by decide +kernel
theorem dX9_back_28 : decode cX9_back 28 = .ok (.ireturn, 1) := by decide +kernel
theorem dX9_read_0 : decode cX9_read 0 = .ok (.aload_n 0, 1) := by decide +kernel
theorem dX9_read_1 : decode cX9_read 1 = .ok (.getfield 23, 3) := by decide +kernel
theorem dX9_read_4 : decode cX9_read 4 = .ok (.aload_n 0, 1) := by decide +kernel
theorem dX9_read_5 : decode cX9_read 5 = .ok (.getfield 9, 3) := by decide +kernel
theorem dX9_read_8 : decode cX9_read 8 = .ok (.aload_n 0, 1) := by decide +kernel
theorem dX9_read_9 : decode cX9_read 9 = .ok (.getfield 13, 3) := by decide +kernel
theorem dX9_read_12 : decode cX9_read 12 = .ok (.invokevirtual 93, 3) := by decide +kernel
theorem dX9_read_15 : decode cX9_read 15 = .ok (.istore_n 1, 1) := by decide +kernel
theorem dX9_read_16 : decode cX9_read 16 = .ok (.aload_n 0, 1) := by decide +kernel
theorem dX9_read_17 : decode cX9_read 17 = .ok (.iconst 0, 1) := by decide +kernel
theorem dX9_read_18 : decode cX9_read 18 = .ok (.putfield 13, 3) := by decide +kernel
theorem dX9_read_21 : decode cX9_read 21 = .ok (.aload_n 0, 1) := by decide +kernel
theorem dX9_read_22 : decode cX9_read 22 = .ok (.aload_n 0, 1) := by decide +kernel
theorem dX9_read_23 : decode cX9_read 23 = .ok (.getfield 23, 3) := by decide +kernel
theorem dX9_read_26 : decode cX9_read 26 = .ok (.getfield 97, 3) := by decide +kernel
theorem dX9_read_29 : decode cX9_read 29 = .ok (.putfield 17, 3) := by decide +kernel
theorem dX9_read_32 : decode cX9_read 32 = .ok (.iload_n 1, 1) := by decide +kernel
theorem dX9_read_33 : decode cX9_read 33 = .ok (.ifCond .ne 31, 3) := by decide +kernel
theorem dX9_read_36 : decode cX9_read 36 = .ok (.aload_n 0, 1) := by decide +kernel
theorem dX9_read_37 : decode cX9_read 37 = .ok (.getfield 30, 3) := by decide +kernel
theorem dX9_read_40 : decode cX9_read 40 = .ok (.astore_n 2, 1) := by decide +kernel
theorem dX9_read_41 : decode cX9_read 41 = .ok (.aload_n 0, 1) := by decide +kernel
theorem dX9_read_42 : decode cX9_read 42 = .ok (.aload_n 0, 1) := by decide +kernel
theorem dX9_read_43 : decode cX9_read 43 = .ok (.getfield 23, 3) := by decide +kernel
theorem dX9_read_46 : decode cX9_read 46 = .ok (.getfield 98, 3) := by decide +kernel
theorem dX9_read_49 : decode cX9_read 49 = .ok (.putfield 30, 3) := by decide +kernel
theorem dX9_read_52 : decode cX9_read 52 = .ok (.aload_n 0, 1) := by decide +kernel
theorem dX9_read_53 : decode cX9_read 53 = .ok (.getfield 23, 3) := by decide +kernel
theorem dX9_read_56 : decode cX9_read 56 = .ok (.aload_n 2, 1) := by decide +kernel
theorem dX9_read_57 : decode cX9_read 57 = .ok (.putfield 98, 3) := by decide +kernel
theorem dX9_read_60 : decode cX9_read 60 = .ok (.aload_n 0, 1) := by decide +kernel
theorem dX9_read_61 : decode cX9_read 61 = .ok (.invokevirtual 99, 3) := by decide +kernel
theorem dX9_read_64 : decode cX9_read 64 = .ok (.iload_n 1, 1) := by decide +kernel
theorem dX9_read_65 : decode cX9_read 65 = .ok (.ireturn, 1) := by decide +kernel
theorem dX9_beginAnew_0 : decode cX9_beginAnew 0 = .ok (.aload_n 0, 1) := by decide +kernel
theorem dX9_beginAnew_1 : decode cX9_beginAnew 1 = .ok (.getfield 39, 3) := by decide +kernel
theorem dX9_beginAnew_4 : decode cX9_beginAnew 4 = .ok (.aload_n 0, 1) := by decide +kernel
theorem dX9_beginAnew_5 : decode cX9_beginAnew 5 = .ok (.getfield 30, 3) := by decide +kernel
theorem dX9_beginAnew_8 : decode cX9_beginAnew 8 = .ok (.invokevirtual 102, 3) := by decide +kernel
theorem dX9_beginAnew_11 : decode cX9_beginAnew 11 = .ok (.aload_n 0, 1) := by decide +kernel
theorem dX9_beginAnew_12 : decode cX9_beginAnew 12 = .ok (.getfield 46, 3) := by decide +kernel
theorem dX9_beginAnew_15 : decode cX9_beginAnew 15 = .ok (.aload_n 0, 1) := by decide +kernel
theorem dX9_beginAnew_16 : decode cX9_beginAnew 16 = .ok (.getfield 30, 3) := by decide +kernel
theorem dX9_beginAnew_19 : decode cX9_beginAnew 19 = .ok (.invokevirtual 86, 3) := by decide +kernel
theorem dX9_beginAnew_22 : decode cX9_beginAnew 22 = .ok (.aload_n 0, 1) := by decide +kernel
theorem dX9_beginAnew_23 : decode cX9_beginAnew 23 = .ok (.getfield 56, 3) := by decide +kernel
theorem dX9_beginAnew_26 : decode cX9_beginAnew 26 = .ok (.invokevirtual 103, 3) := by decide +kernel
theorem dX9_beginAnew_29 : decode cX9_beginAnew 29 = .ok (.aload_n 0, 1) := by decide +kernel
theorem dX9_beginAnew_30 : decode cX9_beginAnew 30 = .ok (.getfield 71, 3) := by decide +kernel
theorem dX9_beginAnew_33 : decode cX9_beginAnew 33 = .ok (.invokevirtual 106, 3) := by decide +kernel
theorem dX9_beginAnew_36 : decode cX9_beginAnew 36 = .ok (.iconst 0, 1) := by decide +kernel
theorem dX9_beginAnew_37 : decode cX9_beginAnew 37 = .ok (.istore_n 1, 1) := by decide +kernel
theorem dX9_beginAnew_38 : decode cX9_beginAnew 38 = .ok (.iload_n 1, 1) := by decide +kernel
theorem dX9_beginAnew_39 : decode cX9_beginAnew 39 = .ok (.iconst 3, 1) := by decide +kernel
theorem dX9_beginAnew_40 : decode cX9_beginAnew 40 = .ok (.if_icmp .ge 16, 3) := by decide +kernel
theorem dX9_beginAnew_43 : decode cX9_beginAnew 43 = .ok (.aload_n 0, 1) := by decide +kernel
theorem dX9_beginAnew_44 : decode cX9_beginAnew 44 = .ok (.getfield 64, 3) := by decide +kernel
theorem dX9_beginAnew_47 : decode cX9_beginAnew 47 = .ok (.iload_n 1, 1) := by decide +kernel
theorem dX9_beginAnew_48 : decode cX9_beginAnew 48 = .ok (.iconst 0, 1) := by decide +kernel
theorem dX9_beginAnew_49 : decode cX9_beginAnew 49 = .ok (.bastore, 1) := by decide +kernel
theorem dX9_beginAnew_50 : decode cX9_beginAnew 50 = .ok (.iinc 1 1, 3) := by decide +kernel
theorem dX9_beginAnew_53 : decode cX9_beginAnew 53 = .ok (.goto (-15), 3) := by decide +kernel
theorem dX9_beginAnew_56 : decode cX9_beginAnew 56 = .ok (.return_, 1) := by decide +kernel
theorem dX9_place_0 : decode cX9_place 0 = .ok (.aload_n 0, 1) := by decide +kernel
theorem dX9_place_1 : decode cX9_place 1 = .ok (.getfield 17, 3) := by decide +kernel
theorem dX9_place_4 : decode cX9_place 4 = .ok (.ireturn, 1) := by decide +kernel
theorem dX9_cell_0 : decode cX9_cell 0 = .ok (.aload_n 0, 1) := by decide +kernel
theorem dX9_cell_1 : decode cX9_cell 1 = .ok (.getfield 30, 3) := by decide +kernel
theorem dX9_cell_4 : decode cX9_cell 4 = .ok (.iload_n 1, 1) := by decide +kernel
theorem dX9_cell_5 : decode cX9_cell 5 = .ok (.iload_n 2, 1) := by decide +kernel
theorem dX9_cell_6 : decode cX9_cell 6 = .ok (.invokevirtual 107, 3) := by decide +kernel
theorem dX9_cell_9 : decode cX9_cell 9 = .ok (.ifCond .eq 12, 3) := by decide +kernel
theorem dX9_cell_12 : decode cX9_cell 12 = .ok (.iload_n 3, 1) := by decide +kernel
theorem dX9_cell_13 : decode cX9_cell 13 = .ok (.ifCond .lt 8, 3) := by decide +kernel
theorem dX9_cell_16 : decode cX9_cell 16 = .ok (.iload_n 3, 1) := by decide +kernel
theorem dX9_cell_17 : decode cX9_cell 17 = .ok (.iconst 3, 1) := by decide +kernel
theorem dX9_cell_18 : decode cX9_cell 18 = .ok (.if_icmp .le 5, 3) := by decide +kernel
theorem dX9_cell_21 : decode cX9_cell 21 = .ok (.iconst (-1), 1) := by decide +kernel
theorem dX9_cell_22 : decode cX9_cell 22 = .ok (.ireturn, 1) := by decide +kernel
theorem dX9_cell_23 : decode cX9_cell 23 = .ok (.aload_n 0, 1) := by decide +kernel
theorem dX9_cell_24 : decode cX9_cell 24 = .ok (.getfield 30, 3) := by decide +kernel
theorem dX9_cell_27 : decode cX9_cell 27 = .ok (.iload_n 1, 1) := by decide +kernel
theorem dX9_cell_28 : decode cX9_cell 28 = .ok (.iload_n 2, 1) := by decide +kernel
theorem dX9_cell_29 : decode cX9_cell 29 = .ok (.invokevirtual 111, 3) := by decide +kernel
theorem dX9_cell_32 : decode cX9_cell 32 = .ok (.istore 4, 2) := by decide +kernel
theorem dX9_cell_34 : decode cX9_cell 34 = .ok (.aload_n 0, 1) := by decide +kernel
theorem dX9_cell_35 : decode cX9_cell 35 = .ok (.getfield 46, 3) := by decide +kernel
theorem dX9_cell_38 : decode cX9_cell 38 = .ok (.iload_n 1, 1) := by decide +kernel
theorem dX9_cell_39 : decode cX9_cell 39 = .ok (.iload_n 2, 1) := by decide +kernel
theorem dX9_cell_40 : decode cX9_cell 40 = .ok (.invokevirtual 115, 3) := by decide +kernel
theorem dX9_cell_43 : decode cX9_cell 43 = .ok (.istore 5, 2) := by decide +kernel
theorem dX9_cell_45 : decode cX9_cell 45 = .ok (.iload_n 3, 1) := by decide +kernel
theorem dX9_cell_46 : decode cX9_cell 46 = .ok (.tableswitch 52 0 2 #[26, 29, 32], 26) := by decide +kernel
theorem dX9_cell_72 : decode cX9_cell 72 = .ok (.iload 4, 2) := by decide +kernel
theorem dX9_cell_74 : decode cX9_cell 74 = .ok (.ireturn, 1) := by decide +kernel
theorem dX9_cell_75 : decode cX9_cell 75 = .ok (.iload 5, 2) := by decide +kernel
theorem dX9_cell_77 : decode cX9_cell 77 = .ok (.ireturn, 1) := by decide +kernel
theorem dX9_cell_78 : decode cX9_cell 78 = .ok (.aload_n 0, 1) := by decide +kernel
theorem dX9_cell_79 : decode cX9_cell 79 = .ok (.getfield 30, 3) := by decide +kernel
theorem dX9_cell_82 : decode cX9_cell 82 = .ok (.iload 4, 2) := by decide +kernel
theorem dX9_cell_84 : decode cX9_cell 84 = .ok (.iload 5, 2) := by decide +kernel
theorem dX9_cell_86 : decode cX9_cell 86 = .ok (.invokevirtual 118, 3) := by decide +kernel
theorem dX9_cell_89 : decode cX9_cell 89 = .ok (.ifCond .eq 7, 3) := by decide +kernel
theorem dX9_cell_92 : decode cX9_cell 92 = .ok (.iconst 1, 1) := by decide +kernel
theorem dX9_cell_93 : decode cX9_cell 93 = .ok (.goto 4, 3) := by decide +kernel
theorem dX9_cell_96 : decode cX9_cell 96 = .ok (.iconst 0, 1) := by decide +kernel
theorem dX9_cell_97 : decode cX9_cell 97 = .ok (.ireturn, 1) := by decide +kernel
theorem dX9_cell_98 : decode cX9_cell 98 = .ok (.aload_n 0, 1) := by decide +kernel
theorem dX9_cell_99 : decode cX9_cell 99 = .ok (.getfield 30, 3) := by decide +kernel
theorem dX9_cell_102 : decode cX9_cell 102 = .ok (.iload 4, 2) := by decide +kernel
theorem dX9_cell_104 : decode cX9_cell 104 = .ok (.iload 5, 2) := by decide +kernel
theorem dX9_cell_106 : decode cX9_cell 106 = .ok (.invokevirtual 121, 3) := by decide +kernel
theorem dX9_cell_109 : decode cX9_cell 109 = .ok (.ifCond .eq 7, 3) := by decide +kernel
theorem dX9_cell_112 : decode cX9_cell 112 = .ok (.iconst 1, 1) := by decide +kernel
theorem dX9_cell_113 : decode cX9_cell 113 = .ok (.goto 4, 3) := by decide +kernel
theorem dX9_cell_116 : decode cX9_cell 116 = .ok (.iconst 0, 1) := by decide +kernel
theorem dX9_cell_117 : decode cX9_cell 117 = .ok (.ireturn, 1) := by decide +kernel
theorem dX9_field_0 : decode cX9_field 0 = .ok (.aload_n 0, 1) := by decide +kernel
theorem dX9_field_1 : decode cX9_field 1 = .ok (.getfield 30, 3) := by decide +kernel
theorem dX9_field_4 : decode cX9_field 4 = .ok (.iload_n 1, 1) := by decide +kernel
theorem dX9_field_5 : decode cX9_field 5 = .ok (.invokevirtual 124, 3) := by decide +kernel
theorem dX9_field_8 : decode cX9_field 8 = .ok (.ifCond .ne 5, 3) := by decide +kernel
theorem dX9_field_11 : decode cX9_field 11 = .ok (.iconst (-1), 1) := by decide +kernel
theorem dX9_field_12 : decode cX9_field 12 = .ok (.ireturn, 1) := by decide +kernel
theorem dX9_field_13 : decode cX9_field 13 = .ok (.iload_n 2, 1) := by decide +kernel
theorem dX9_field_14 : decode cX9_field 14 = .ok (.tableswitch 86 0 4 #[34, 44, 57, 67, 77], 34) := by decide +kernel
theorem dX9_field_48 : decode cX9_field 48 = .ok (.aload_n 0, 1) := by decide +kernel
theorem dX9_field_49 : decode cX9_field 49 = .ok (.getfield 30, 3) := by decide +kernel
theorem dX9_field_52 : decode cX9_field 52 = .ok (.getfield 128, 3) := by decide +kernel
theorem dX9_field_55 : decode cX9_field 55 = .ok (.iload_n 1, 1) := by decide +kernel
theorem dX9_field_56 : decode cX9_field 56 = .ok (.iaload, 1) := by decide +kernel
theorem dX9_field_57 : decode cX9_field 57 = .ok (.ireturn, 1) := by decide +kernel
theorem dX9_field_58 : decode cX9_field 58 = .ok (.aload_n 0, 1) := by decide +kernel
theorem dX9_field_59 : decode cX9_field 59 = .ok (.getfield 46, 3) := by decide +kernel
theorem dX9_field_62 : decode cX9_field 62 = .ok (.aload_n 0, 1) := by decide +kernel
theorem dX9_field_63 : decode cX9_field 63 = .ok (.getfield 30, 3) := by decide +kernel
theorem dX9_field_66 : decode cX9_field 66 = .ok (.iload_n 1, 1) := by decide +kernel
theorem dX9_field_67 : decode cX9_field 67 = .ok (.invokevirtual 131, 3) := by decide +kernel
theorem dX9_field_70 : decode cX9_field 70 = .ok (.ireturn, 1) := by decide +kernel
theorem dX9_field_71 : decode cX9_field 71 = .ok (.aload_n 0, 1) := by decide +kernel
theorem dX9_field_72 : decode cX9_field 72 = .ok (.getfield 46, 3) := by decide +kernel
theorem dX9_field_75 : decode cX9_field 75 = .ok (.getfield 135, 3) := by decide +kernel
theorem dX9_field_78 : decode cX9_field 78 = .ok (.iload_n 1, 1) := by decide +kernel
theorem dX9_field_79 : decode cX9_field 79 = .ok (.iaload, 1) := by decide +kernel
theorem dX9_field_80 : decode cX9_field 80 = .ok (.ireturn, 1) := by decide +kernel
theorem dX9_field_81 : decode cX9_field 81 = .ok (.aload_n 0, 1) := by decide +kernel
theorem dX9_field_82 : decode cX9_field 82 = .ok (.getfield 46, 3) := by decide +kernel
theorem dX9_field_85 : decode cX9_field 85 = .ok (.getfield 138, 3) := by decide +kernel
theorem dX9_field_88 : decode cX9_field 88 = .ok (.iload_n 1, 1) := by decide +kernel
theorem dX9_field_89 : decode cX9_field 89 = .ok (.iaload, 1) := by decide +kernel
theorem dX9_field_90 : decode cX9_field 90 = .ok (.ireturn, 1) := by decide +kernel
theorem dX9_field_91 : decode cX9_field 91 = .ok (.aload_n 0, 1) := by decide +kernel
theorem dX9_field_92 : decode cX9_field 92 = .ok (.getfield 30, 3) := by decide +kernel
theorem dX9_field_95 : decode cX9_field 95 = .ok (.iload_n 1, 1) := by decide +kernel
theorem dX9_field_96 : decode cX9_field 96 = .ok (.invokevirtual 141, 3) := by decide +kernel
theorem dX9_field_99 : decode cX9_field 99 = .ok (.ireturn, 1) := by decide +kernel
theorem dX9_field_100 : decode cX9_field 100 = .ok (.iconst (-1), 1) := by decide +kernel
theorem dX9_field_101 : decode cX9_field 101 = .ok (.ireturn, 1) := by decide +kernel
theorem dX9_loom_0 : decode cX9_loom 0 = .ok (.aload_n 0, 1) := by decide +kernel
theorem dX9_loom_1 : decode cX9_loom 1 = .ok (.getfield 30, 3) := by decide +kernel
theorem dX9_loom_4 : decode cX9_loom 4 = .ok (.iload_n 1, 1) := by decide +kernel
theorem dX9_loom_5 : decode cX9_loom 5 = .ok (.invokevirtual 145, 3) := by decide +kernel
theorem dX9_loom_8 : decode cX9_loom 8 = .ok (.ifCond .eq 13, 3) := by decide +kernel
theorem dX9_loom_11 : decode cX9_loom 11 = .ok (.iload_n 2, 1) := by decide +kernel
theorem dX9_loom_12 : decode cX9_loom 12 = .ok (.ifCond .lt 9, 3) := by decide +kernel
theorem dX9_loom_15 : decode cX9_loom 15 = .ok (.iload_n 2, 1) := by decide +kernel
theorem dX9_loom_16 : decode cX9_loom 16 = .ok (.bipush 8, 2) := by decide +kernel
theorem dX9_loom_18 : decode cX9_loom 18 = .ok (.if_icmp .lt 5, 3) := by decide +kernel
theorem dX9_loom_21 : decode cX9_loom 21 = .ok (.iconst (-1), 1) := by decide +kernel
theorem dX9_loom_22 : decode cX9_loom 22 = .ok (.ireturn, 1) := by decide +kernel
theorem dX9_loom_23 : decode cX9_loom 23 = .ok (.aload_n 0, 1) := by decide +kernel
theorem dX9_loom_24 : decode cX9_loom 24 = .ok (.getfield 46, 3) := by decide +kernel
theorem dX9_loom_27 : decode cX9_loom 27 = .ok (.iload_n 1, 1) := by decide +kernel
theorem dX9_loom_28 : decode cX9_loom 28 = .ok (.iload_n 2, 1) := by decide +kernel
theorem dX9_loom_29 : decode cX9_loom 29 = .ok (.invokevirtual 148, 3) := by decide +kernel
theorem dX9_loom_32 : decode cX9_loom 32 = .ok (.ireturn, 1) := by decide +kernel
theorem dX9_thread_0 : decode cX9_thread 0 = .ok (.aload_n 0, 1) := by decide +kernel
theorem dX9_thread_1 : decode cX9_thread 1 = .ok (.getfield 30, 3) := by decide +kernel
theorem dX9_thread_4 : decode cX9_thread 4 = .ok (.iload_n 1, 1) := by decide +kernel
theorem dX9_thread_5 : decode cX9_thread 5 = .ok (.invokevirtual 145, 3) := by decide +kernel
theorem dX9_thread_8 : decode cX9_thread 8 = .ok (.ifCond .eq 31, 3) := by decide +kernel
theorem dX9_thread_11 : decode cX9_thread 11 = .ok (.iload_n 2, 1) := by decide +kernel
theorem dX9_thread_12 : decode cX9_thread 12 = .ok (.ifCond .lt 27, 3) := by decide +kernel
theorem dX9_thread_15 : decode cX9_thread 15 = .ok (.iload_n 2, 1) := by decide +kernel
theorem dX9_thread_16 : decode cX9_thread 16 = .ok (.aload_n 0, 1) := by decide +kernel
theorem dX9_thread_17 : decode cX9_thread 17 = .ok (.getfield 30, 3) := by decide +kernel
theorem dX9_thread_20 : decode cX9_thread 20 = .ok (.getfield 151, 3) := by decide +kernel
theorem dX9_thread_23 : decode cX9_thread 23 = .ok (.iload_n 1, 1) := by decide +kernel
theorem dX9_thread_24 : decode cX9_thread 24 = .ok (.iaload, 1) := by decide +kernel
theorem dX9_thread_25 : decode cX9_thread 25 = .ok (.if_icmp .ge 14, 3) := by decide +kernel
theorem dX9_thread_28 : decode cX9_thread 28 = .ok (.iload_n 3, 1) := by decide +kernel
theorem dX9_thread_29 : decode cX9_thread 29 = .ok (.ifCond .lt 10, 3) := by decide +kernel
theorem dX9_thread_32 : decode cX9_thread 32 = .ok (.iload_n 3, 1) := by decide +kernel
theorem dX9_thread_33 : decode cX9_thread 33 = .ok (.sipush 9999, 3) := by decide +kernel
theorem dX9_thread_36 : decode cX9_thread 36 = .ok (.if_icmp .le 5, 3) := by decide +kernel
theorem dX9_thread_39 : decode cX9_thread 39 = .ok (.iconst (-1), 1) := by decide +kernel
theorem dX9_thread_40 : decode cX9_thread 40 = .ok (.ireturn, 1) := by decide +kernel
theorem dX9_thread_41 : decode cX9_thread 41 = .ok (.aload_n 0, 1) := by decide +kernel
theorem dX9_thread_42 : decode cX9_thread 42 = .ok (.getfield 39, 3) := by decide +kernel
theorem dX9_thread_45 : decode cX9_thread 45 = .ok (.iload_n 1, 1) := by decide +kernel
theorem dX9_thread_46 : decode cX9_thread 46 = .ok (.iload_n 3, 1) := by decide +kernel
theorem dX9_thread_47 : decode cX9_thread 47 = .ok (.invokevirtual 154, 3) := by decide +kernel
theorem dX9_thread_50 : decode cX9_thread 50 = .ok (.iload_n 2, 1) := by decide +kernel
theorem dX9_thread_51 : decode cX9_thread 51 = .ok (.invokestatic 157, 3) := by decide +kernel
theorem dX9_thread_54 : decode cX9_thread 54 = .ok (.ireturn, 1) := by decide +kernel
theorem dX9_now_0 : decode cX9_now 0 = .ok (.aload_n 0, 1) := by decide +kernel
theorem dX9_now_1 : decode cX9_now 1 = .ok (.getfield 30, 3) := by decide +kernel
theorem dX9_now_4 : decode cX9_now 4 = .ok (.iload_n 1, 1) := by decide +kernel
theorem dX9_now_5 : decode cX9_now 5 = .ok (.invokevirtual 124, 3) := by decide +kernel
theorem dX9_now_8 : decode cX9_now 8 = .ok (.ifCond .ne 5, 3) := by decide +kernel
theorem dX9_now_11 : decode cX9_now 11 = .ok (.iconst (-1), 1) := by decide +kernel
theorem dX9_now_12 : decode cX9_now 12 = .ok (.ireturn, 1) := by decide +kernel
theorem dX9_now_13 : decode cX9_now 13 = .ok (.iconst 0, 1) := by decide +kernel
theorem dX9_now_14 : decode cX9_now 14 = .ok (.istore_n 3, 1) := by decide +kernel
theorem dX9_now_15 : decode cX9_now 15 = .ok (.iconst 0, 1) := by decide +kernel
theorem dX9_now_16 : decode cX9_now 16 = .ok (.istore 4, 2) := by decide +kernel
theorem dX9_now_18 : decode cX9_now 18 = .ok (.iload 4, 2) := by decide +kernel
theorem dX9_now_20 : decode cX9_now 20 = .ok (.bipush 48, 2) := by decide +kernel
theorem dX9_now_22 : decode cX9_now 22 = .ok (.if_icmp .ge 76, 3) := by decide +kernel
theorem dX9_now_25 : decode cX9_now 25 = .ok (.iload_n 2, 1) := by decide +kernel
theorem dX9_now_26 : decode cX9_now 26 = .ok (.ifCond .eq 24, 3) := by decide +kernel
theorem dX9_now_29 : decode cX9_now 29 = .ok (.aload_n 0, 1) := by decide +kernel
theorem dX9_now_30 : decode cX9_now 30 = .ok (.getfield 30, 3) := by decide +kernel
theorem dX9_now_33 : decode cX9_now 33 = .ok (.iload_n 1, 1) := by decide +kernel
theorem dX9_now_34 : decode cX9_now 34 = .ok (.aload_n 0, 1) := by decide +kernel
theorem dX9_now_35 : decode cX9_now 35 = .ok (.getfield 46, 3) := by decide +kernel
theorem dX9_now_38 : decode cX9_now 38 = .ok (.getfield 160, 3) := by decide +kernel
theorem dX9_now_41 : decode cX9_now 41 = .ok (.iload 4, 2) := by decide +kernel
theorem dX9_now_43 : decode cX9_now 43 = .ok (.iaload, 1) := by decide +kernel
theorem dX9_now_44 : decode cX9_now 44 = .ok (.invokevirtual 121, 3) := by decide +kernel
theorem dX9_now_47 : decode cX9_now 47 = .ok (.goto 21, 3) := by decide +kernel
theorem dX9_now_50 : decode cX9_now 50 = .ok (.aload_n 0, 1) := by decide +kernel
theorem dX9_now_51 : decode cX9_now 51 = .ok (.getfield 30, 3) := by decide +kernel
theorem dX9_now_54 : decode cX9_now 54 = .ok (.iload_n 1, 1) := by decide +kernel
theorem dX9_now_55 : decode cX9_now 55 = .ok (.aload_n 0, 1) := by decide +kernel
theorem dX9_now_56 : decode cX9_now 56 = .ok (.getfield 46, 3) := by decide +kernel
theorem dX9_now_59 : decode cX9_now 59 = .ok (.getfield 160, 3) := by decide +kernel
theorem dX9_now_62 : decode cX9_now 62 = .ok (.iload 4, 2) := by decide +kernel
theorem dX9_now_64 : decode cX9_now 64 = .ok (.iaload, 1) := by decide +kernel
theorem dX9_now_65 : decode cX9_now 65 = .ok (.invokevirtual 118, 3) := by decide +kernel
theorem dX9_now_68 : decode cX9_now 68 = .ok (.istore 5, 2) := by decide +kernel
theorem dX9_now_70 : decode cX9_now 70 = .ok (.aload_n 0, 1) := by decide +kernel
theorem dX9_now_71 : decode cX9_now 71 = .ok (.getfield 30, 3) := by decide +kernel
theorem dX9_now_74 : decode cX9_now 74 = .ok (.getfield 163, 3) := by decide +kernel
theorem dX9_now_77 : decode cX9_now 77 = .ok (.iload 4, 2) := by decide +kernel
theorem dX9_now_79 : decode cX9_now 79 = .ok (.iaload, 1) := by decide +kernel
theorem dX9_now_80 : decode cX9_now 80 = .ok (.iload_n 1, 1) := by decide +kernel
theorem dX9_now_81 : decode cX9_now 81 = .ok (.if_icmp .ne 11, 3) := by decide +kernel
theorem dX9_now_84 : decode cX9_now 84 = .ok (.iload 5, 2) := by decide +kernel
theorem dX9_now_86 : decode cX9_now 86 = .ok (.ifCond .eq 6, 3) := by decide +kernel
theorem dX9_now_89 : decode cX9_now 89 = .ok (.iinc 3 1, 3) := by decide +kernel
theorem dX9_now_92 : decode cX9_now 92 = .ok (.iinc 4 1, 3) := by decide +kernel
theorem dX9_now_95 : decode cX9_now 95 = .ok (.goto (-77), 3) := by decide +kernel
theorem dX9_now_98 : decode cX9_now 98 = .ok (.iload_n 3, 1) := by decide +kernel
theorem dX9_now_99 : decode cX9_now 99 = .ok (.ireturn, 1) := by decide +kernel
theorem dX9_count_0 : decode cX9_count 0 = .ok (.iload_n 1, 1) := by decide +kernel
theorem dX9_count_1 : decode cX9_count 1 = .ok (.tableswitch 186 0 13 #[71, 79, 87, 95, 103, 111, 119, 130, 138, 143, 151, 159, 164, 175], 71) := by decide +kernel
theorem dX9_count_72 : decode cX9_count 72 = .ok (.aload_n 0, 1) := by decide +kernel
theorem dX9_count_73 : decode cX9_count 73 = .ok (.getfield 30, 3) := by decide +kernel
theorem dX9_count_76 : decode cX9_count 76 = .ok (.getfield 166, 3) := by decide +kernel
theorem dX9_count_79 : decode cX9_count 79 = .ok (.ireturn, 1) := by decide +kernel
theorem dX9_count_80 : decode cX9_count 80 = .ok (.aload_n 0, 1) := by decide +kernel
theorem dX9_count_81 : decode cX9_count 81 = .ok (.getfield 30, 3) := by decide +kernel
theorem dX9_count_84 : decode cX9_count 84 = .ok (.getfield 169, 3) := by decide +kernel
theorem dX9_count_87 : decode cX9_count 87 = .ok (.ireturn, 1) := by decide +kernel
theorem dX9_count_88 : decode cX9_count 88 = .ok (.aload_n 0, 1) := by decide +kernel
theorem dX9_count_89 : decode cX9_count 89 = .ok (.getfield 30, 3) := by decide +kernel
theorem dX9_count_92 : decode cX9_count 92 = .ok (.getfield 172, 3) := by decide +kernel
theorem dX9_count_95 : decode cX9_count 95 = .ok (.ireturn, 1) := by decide +kernel
theorem dX9_count_96 : decode cX9_count 96 = .ok (.aload_n 0, 1) := by decide +kernel
theorem dX9_count_97 : decode cX9_count 97 = .ok (.getfield 30, 3) := by decide +kernel
theorem dX9_count_100 : decode cX9_count 100 = .ok (.getfield 175, 3) := by decide +kernel
theorem dX9_count_103 : decode cX9_count 103 = .ok (.ireturn, 1) := by decide +kernel
theorem dX9_count_104 : decode cX9_count 104 = .ok (.aload_n 0, 1) := by decide +kernel
theorem dX9_count_105 : decode cX9_count 105 = .ok (.getfield 46, 3) := by decide +kernel
theorem dX9_count_108 : decode cX9_count 108 = .ok (.getfield 178, 3) := by decide +kernel
theorem dX9_count_111 : decode cX9_count 111 = .ok (.ireturn, 1) := by decide +kernel
theorem dX9_count_112 : decode cX9_count 112 = .ok (.aload_n 0, 1) := by decide +kernel
theorem dX9_count_113 : decode cX9_count 113 = .ok (.getfield 46, 3) := by decide +kernel
theorem dX9_count_116 : decode cX9_count 116 = .ok (.getfield 181, 3) := by decide +kernel
theorem dX9_count_119 : decode cX9_count 119 = .ok (.ireturn, 1) := by decide +kernel
theorem dX9_count_120 : decode cX9_count 120 = .ok (.aload_n 0, 1) := by decide +kernel
theorem dX9_count_121 : decode cX9_count 121 = .ok (.getfield 46, 3) := by decide +kernel
theorem dX9_count_124 : decode cX9_count 124 = .ok (.getfield 160, 3) := by decide +kernel
theorem dX9_count_127 : decode cX9_count 127 = .ok (.invokestatic 184, 3) := by decide +kernel
theorem dX9_count_130 : decode cX9_count 130 = .ok (.ireturn, 1) := by decide +kernel
theorem dX9_count_131 : decode cX9_count 131 = .ok (.aload_n 0, 1) := by decide +kernel
theorem dX9_count_132 : decode cX9_count 132 = .ok (.getfield 46, 3) := by decide +kernel
theorem dX9_count_135 : decode cX9_count 135 = .ok (.invokevirtual 188, 3) := by decide +kernel
theorem dX9_count_138 : decode cX9_count 138 = .ok (.ireturn, 1) := by decide +kernel
theorem dX9_count_139 : decode cX9_count 139 = .ok (.aload_n 0, 1) := by decide +kernel
theorem dX9_count_140 : decode cX9_count 140 = .ok (.getfield 13, 3) := by decide +kernel
theorem dX9_count_143 : decode cX9_count 143 = .ok (.ireturn, 1) := by decide +kernel
theorem dX9_count_144 : decode cX9_count 144 = .ok (.aload_n 0, 1) := by decide +kernel
theorem dX9_count_145 : decode cX9_count 145 = .ok (.getfield 56, 3) := by decide +kernel
theorem dX9_count_148 : decode cX9_count 148 = .ok (.getfield 192, 3) := by decide +kernel
theorem dX9_count_151 : decode cX9_count 151 = .ok (.ireturn, 1) := by decide +kernel
theorem dX9_count_152 : decode cX9_count 152 = .ok (.aload_n 0, 1) := by decide +kernel
theorem dX9_count_153 : decode cX9_count 153 = .ok (.getfield 71, 3) := by decide +kernel
theorem dX9_count_156 : decode cX9_count 156 = .ok (.getfield 195, 3) := by decide +kernel
theorem dX9_count_159 : decode cX9_count 159 = .ok (.ireturn, 1) := by decide +kernel
theorem dX9_count_160 : decode cX9_count 160 = .ok (.aload_n 0, 1) := by decide +kernel
theorem dX9_count_161 : decode cX9_count 161 = .ok (.invokevirtual 198, 3) := by decide +kernel
theorem dX9_count_164 : decode cX9_count 164 = .ok (.ireturn, 1) := by decide +kernel
theorem dX9_count_165 : decode cX9_count 165 = .ok (.aload_n 0, 1) := by decide +kernel
theorem dX9_count_166 : decode cX9_count 166 = .ok (.getfield 46, 3) := by decide +kernel
theorem dX9_count_169 : decode cX9_count 169 = .ok (.getfield 135, 3) := by decide +kernel
theorem dX9_count_172 : decode cX9_count 172 = .ok (.invokestatic 184, 3) := by decide +kernel
theorem dX9_count_175 : decode cX9_count 175 = .ok (.ireturn, 1) := by decide +kernel
theorem dX9_count_176 : decode cX9_count 176 = .ok (.aload_n 0, 1) := by decide +kernel
theorem dX9_count_177 : decode cX9_count 177 = .ok (.getfield 46, 3) := by decide +kernel
theorem dX9_count_180 : decode cX9_count 180 = .ok (.getfield 138, 3) := by decide +kernel
theorem dX9_count_183 : decode cX9_count 183 = .ok (.invokestatic 184, 3) := by decide +kernel
theorem dX9_count_186 : decode cX9_count 186 = .ok (.ireturn, 1) := by decide +kernel
theorem dX9_count_187 : decode cX9_count 187 = .ok (.iconst (-1), 1) := by decide +kernel
theorem dX9_count_188 : decode cX9_count 188 = .ok (.ireturn, 1) := by decide +kernel
theorem dX9_heldSlots_0 : decode cX9_heldSlots 0 = .ok (.iconst 0, 1) := by decide +kernel
theorem dX9_heldSlots_1 : decode cX9_heldSlots 1 = .ok (.istore_n 1, 1) := by decide +kernel
theorem dX9_heldSlots_2 : decode cX9_heldSlots 2 = .ok (.iconst 0, 1) := by decide +kernel
theorem dX9_heldSlots_3 : decode cX9_heldSlots 3 = .ok (.istore_n 2, 1) := by decide +kernel
theorem dX9_heldSlots_4 : decode cX9_heldSlots 4 = .ok (.iload_n 2, 1) := by decide +kernel
theorem dX9_heldSlots_5 : decode cX9_heldSlots 5 = .ok (.iconst 3, 1) := by decide +kernel
theorem dX9_heldSlots_6 : decode cX9_heldSlots 6 = .ok (.if_icmp .ge 21, 3) := by decide +kernel
theorem dX9_heldSlots_9 : decode cX9_heldSlots 9 = .ok (.aload_n 0, 1) := by decide +kernel
theorem dX9_heldSlots_10 : decode cX9_heldSlots 10 = .ok (.getfield 64, 3) := by decide +kernel
theorem dX9_heldSlots_13 : decode cX9_heldSlots 13 = .ok (.iload_n 2, 1) := by decide +kernel
theorem dX9_heldSlots_14 : decode cX9_heldSlots 14 = .ok (.baload, 1) := by decide +kernel
theorem dX9_heldSlots_15 : decode cX9_heldSlots 15 = .ok (.ifCond .eq 6, 3) := by decide +kernel
theorem dX9_heldSlots_18 : decode cX9_heldSlots 18 = .ok (.iinc 1 1, 3) := by decide +kernel
theorem dX9_heldSlots_21 : decode cX9_heldSlots 21 = .ok (.iinc 2 1, 3) := by decide +kernel
theorem dX9_heldSlots_24 : decode cX9_heldSlots 24 = .ok (.goto (-20), 3) := by decide +kernel
theorem dX9_heldSlots_27 : decode cX9_heldSlots 27 = .ok (.iload_n 1, 1) := by decide +kernel
theorem dX9_heldSlots_28 : decode cX9_heldSlots 28 = .ok (.ireturn, 1) := by decide +kernel
theorem dX9_isPiece_0 : decode cX9_isPiece 0 = .ok (.aload_n 0, 1) := by decide +kernel
theorem dX9_isPiece_1 : decode cX9_isPiece 1 = .ok (.getfield 30, 3) := by decide +kernel
theorem dX9_isPiece_4 : decode cX9_isPiece 4 = .ok (.iload_n 1, 1) := by decide +kernel
theorem dX9_isPiece_5 : decode cX9_isPiece 5 = .ok (.invokevirtual 145, 3) := by decide +kernel
theorem dX9_isPiece_8 : decode cX9_isPiece 8 = .ok (.ifCond .eq 36, 3) := by decide +kernel
theorem dX9_isPiece_11 : decode cX9_isPiece 11 = .ok (.iload_n 2, 1) := by decide +kernel
theorem dX9_isPiece_12 : decode cX9_isPiece 12 = .ok (.iconst 1, 1) := by decide +kernel
theorem dX9_isPiece_13 : decode cX9_isPiece 13 = .ok (.if_icmp .lt 31, 3) := by decide +kernel
theorem dX9_isPiece_16 : decode cX9_isPiece 16 = .ok (.iload_n 2, 1) := by decide +kernel
theorem dX9_isPiece_17 : decode cX9_isPiece 17 = .ok (.aload_n 0, 1) := by decide +kernel
theorem dX9_isPiece_18 : decode cX9_isPiece 18 = .ok (.getfield 30, 3) := by decide +kernel
theorem dX9_isPiece_21 : decode cX9_isPiece 21 = .ok (.getfield 151, 3) := by decide +kernel
theorem dX9_isPiece_24 : decode cX9_isPiece 24 = .ok (.iload_n 1, 1) := by decide +kernel
theorem dX9_isPiece_25 : decode cX9_isPiece 25 = .ok (.iaload, 1) := by decide +kernel
theorem dX9_isPiece_26 : decode cX9_isPiece 26 = .ok (.if_icmp .gt 18, 3) := by decide +kernel
theorem dX9_isPiece_29 : decode cX9_isPiece 29 = .ok (.iload_n 3, 1) := by decide +kernel
theorem dX9_isPiece_30 : decode cX9_isPiece 30 = .ok (.iconst 1, 1) := by decide +kernel
theorem dX9_isPiece_31 : decode cX9_isPiece 31 = .ok (.if_icmp .lt 13, 3) := by decide +kernel
theorem dX9_isPiece_34 : decode cX9_isPiece 34 = .ok (.iload_n 3, 1) := by decide +kernel
theorem dX9_isPiece_35 : decode cX9_isPiece 35 = .ok (.bipush 6, 2) := by decide +kernel
theorem dX9_isPiece_37 : decode cX9_isPiece 37 = .ok (.if_icmp .gt 7, 3) := by decide +kernel
theorem dX9_isPiece_40 : decode cX9_isPiece 40 = .ok (.iconst 1, 1) := by decide +kernel
theorem dX9_isPiece_41 : decode cX9_isPiece 41 = .ok (.goto 4, 3) := by decide +kernel
theorem dX9_isPiece_44 : decode cX9_isPiece 44 = .ok (.iconst 0, 1) := by decide +kernel
theorem dX9_isPiece_45 : decode cX9_isPiece 45 = .ok (.ireturn, 1) := by decide +kernel
theorem dX9_isSize_0 : decode cX9_isSize 0 = .ok (.iload_n 0, 1) := by decide +kernel
theorem dX9_isSize_1 : decode cX9_isSize 1 = .ok (.iconst 1, 1) := by decide +kernel
theorem dX9_isSize_2 : decode cX9_isSize 2 = .ok (.if_icmp .lt 24, 3) := by decide +kernel
theorem dX9_isSize_5 : decode cX9_isSize 5 = .ok (.iload_n 0, 1) := by decide +kernel
theorem dX9_isSize_6 : decode cX9_isSize 6 = .ok (.bipush 8, 2) := by decide +kernel
theorem dX9_isSize_8 : decode cX9_isSize 8 = .ok (.if_icmp .gt 18, 3) := by decide +kernel
theorem dX9_isSize_11 : decode cX9_isSize 11 = .ok (.iload_n 1, 1) := by decide +kernel
theorem dX9_isSize_12 : decode cX9_isSize 12 = .ok (.iconst 1, 1) := by decide +kernel
theorem dX9_isSize_13 : decode cX9_isSize 13 = .ok (.if_icmp .lt 13, 3) := by decide +kernel
theorem dX9_isSize_16 : decode cX9_isSize 16 = .ok (.iload_n 1, 1) := by decide +kernel
theorem dX9_isSize_17 : decode cX9_isSize 17 = .ok (.bipush 6, 2) := by decide +kernel
theorem dX9_isSize_19 : decode cX9_isSize 19 = .ok (.if_icmp .gt 7, 3) := by decide +kernel
theorem dX9_isSize_22 : decode cX9_isSize 22 = .ok (.iconst 1, 1) := by decide +kernel
theorem dX9_isSize_23 : decode cX9_isSize 23 = .ok (.goto 4, 3) := by decide +kernel
theorem dX9_isSize_26 : decode cX9_isSize 26 = .ok (.iconst 0, 1) := by decide +kernel
theorem dX9_isSize_27 : decode cX9_isSize 27 = .ok (.ireturn, 1) := by decide +kernel
theorem dX9_order_0 : decode cX9_order 0 = .ok (.aload_n 0, 1) := by decide +kernel
theorem dX9_order_1 : decode cX9_order 1 = .ok (.iload_n 1, 1) := by decide +kernel
theorem dX9_order_2 : decode cX9_order 2 = .ok (.iload_n 2, 1) := by decide +kernel
theorem dX9_order_3 : decode cX9_order 3 = .ok (.iload_n 3, 1) := by decide +kernel
theorem dX9_order_4 : decode cX9_order 4 = .ok (.invokevirtual 201, 3) := by decide +kernel
theorem dX9_order_7 : decode cX9_order 7 = .ok (.ifCond .eq 34, 3) := by decide +kernel
theorem dX9_order_10 : decode cX9_order 10 = .ok (.aload_n 0, 1) := by decide +kernel
theorem dX9_order_11 : decode cX9_order 11 = .ok (.getfield 30, 3) := by decide +kernel
theorem dX9_order_14 : decode cX9_order 14 = .ok (.iload 4, 2) := by decide +kernel
theorem dX9_order_16 : decode cX9_order 16 = .ok (.iload 5, 2) := by decide +kernel
theorem dX9_order_18 : decode cX9_order 18 = .ok (.invokevirtual 107, 3) := by decide +kernel
theorem dX9_order_21 : decode cX9_order 21 = .ok (.ifCond .eq 20, 3) := by decide +kernel
theorem dX9_order_24 : decode cX9_order 24 = .ok (.aload_n 0, 1) := by decide +kernel
theorem dX9_order_25 : decode cX9_order 25 = .ok (.getfield 46, 3) := by decide +kernel
theorem dX9_order_28 : decode cX9_order 28 = .ok (.iload_n 1, 1) := by decide +kernel
theorem dX9_order_29 : decode cX9_order 29 = .ok (.iload_n 2, 1) := by decide +kernel
theorem dX9_order_30 : decode cX9_order 30 = .ok (.iload_n 3, 1) := by decide +kernel
theorem dX9_order_31 : decode cX9_order 31 = .ok (.iload 4, 2) := by decide +kernel
theorem dX9_order_33 : decode cX9_order 33 = .ok (.iload 5, 2) := by decide +kernel
theorem dX9_order_35 : decode cX9_order 35 = .ok (.invokevirtual 205, 3) := by decide +kernel
theorem dX9_order_38 : decode cX9_order 38 = .ok (.ifCond .eq 5, 3) := by decide +kernel
theorem dX9_order_41 : decode cX9_order 41 = .ok (.iconst 0, 1) := by decide +kernel
theorem dX9_order_42 : decode cX9_order 42 = .ok (.ireturn, 1) := by decide +kernel
theorem dX9_order_43 : decode cX9_order 43 = .ok (.aload_n 0, 1) := by decide +kernel
theorem dX9_order_44 : decode cX9_order 44 = .ok (.getfield 56, 3) := by decide +kernel
theorem dX9_order_47 : decode cX9_order 47 = .ok (.aload_n 0, 1) := by decide +kernel
theorem dX9_order_48 : decode cX9_order 48 = .ok (.getfield 46, 3) := by decide +kernel
theorem dX9_order_51 : decode cX9_order 51 = .ok (.invokevirtual 209, 3) := by decide +kernel
theorem dX9_order_54 : decode cX9_order 54 = .ok (.aload_n 0, 1) := by decide +kernel
theorem dX9_order_55 : decode cX9_order 55 = .ok (.getfield 46, 3) := by decide +kernel
theorem dX9_order_58 : decode cX9_order 58 = .ok (.iload_n 1, 1) := by decide +kernel
theorem dX9_order_59 : decode cX9_order 59 = .ok (.iload_n 2, 1) := by decide +kernel
theorem dX9_order_60 : decode cX9_order 60 = .ok (.iload_n 3, 1) := by decide +kernel
theorem dX9_order_61 : decode cX9_order 61 = .ok (.iload 4, 2) := by decide +kernel
theorem dX9_order_63 : decode cX9_order 63 = .ok (.iload 5, 2) := by decide +kernel
theorem dX9_order_65 : decode cX9_order 65 = .ok (.invokevirtual 213, 3) := by decide +kernel
theorem dX9_order_68 : decode cX9_order 68 = .ok (.iconst 1, 1) := by decide +kernel
theorem dX9_order_69 : decode cX9_order 69 = .ok (.ireturn, 1) := by decide +kernel
theorem dX9_stop_0 : decode cX9_stop 0 = .ok (.aload_n 0, 1) := by decide +kernel
theorem dX9_stop_1 : decode cX9_stop 1 = .ok (.getfield 30, 3) := by decide +kernel
theorem dX9_stop_4 : decode cX9_stop 4 = .ok (.iload_n 1, 1) := by decide +kernel
theorem dX9_stop_5 : decode cX9_stop 5 = .ok (.invokevirtual 145, 3) := by decide +kernel
theorem dX9_stop_8 : decode cX9_stop 8 = .ok (.ifCond .eq 14, 3) := by decide +kernel
theorem dX9_stop_11 : decode cX9_stop 11 = .ok (.aload_n 0, 1) := by decide +kernel
theorem dX9_stop_12 : decode cX9_stop 12 = .ok (.getfield 46, 3) := by decide +kernel
theorem dX9_stop_15 : decode cX9_stop 15 = .ok (.iload_n 1, 1) := by decide +kernel
theorem dX9_stop_16 : decode cX9_stop 16 = .ok (.invokevirtual 217, 3) := by decide +kernel
theorem dX9_stop_19 : decode cX9_stop 19 = .ok (.ifCond .ne 5, 3) := by decide +kernel
theorem dX9_stop_22 : decode cX9_stop 22 = .ok (.iconst 0, 1) := by decide +kernel
theorem dX9_stop_23 : decode cX9_stop 23 = .ok (.ireturn, 1) := by decide +kernel
theorem dX9_stop_24 : decode cX9_stop 24 = .ok (.aload_n 0, 1) := by decide +kernel
theorem dX9_stop_25 : decode cX9_stop 25 = .ok (.getfield 56, 3) := by decide +kernel
theorem dX9_stop_28 : decode cX9_stop 28 = .ok (.aload_n 0, 1) := by decide +kernel
theorem dX9_stop_29 : decode cX9_stop 29 = .ok (.getfield 46, 3) := by decide +kernel
theorem dX9_stop_32 : decode cX9_stop 32 = .ok (.invokevirtual 209, 3) := by decide +kernel
theorem dX9_stop_35 : decode cX9_stop 35 = .ok (.aload_n 0, 1) := by decide +kernel
theorem dX9_stop_36 : decode cX9_stop 36 = .ok (.getfield 46, 3) := by decide +kernel
theorem dX9_stop_39 : decode cX9_stop 39 = .ok (.iload_n 1, 1) := by decide +kernel
theorem dX9_stop_40 : decode cX9_stop 40 = .ok (.bipush (-2), 2) := by decide +kernel
theorem dX9_stop_42 : decode cX9_stop 42 = .ok (.bipush (-2), 2) := by decide +kernel
theorem dX9_stop_44 : decode cX9_stop 44 = .ok (.bipush (-2), 2) := by decide +kernel
theorem dX9_stop_46 : decode cX9_stop 46 = .ok (.bipush (-2), 2) := by decide +kernel
theorem dX9_stop_48 : decode cX9_stop 48 = .ok (.invokevirtual 213, 3) := by decide +kernel
theorem dX9_stop_51 : decode cX9_stop 51 = .ok (.iconst 1, 1) := by decide +kernel
theorem dX9_stop_52 : decode cX9_stop 52 = .ok (.ireturn, 1) := by decide +kernel
theorem dX9_fall_0 : decode cX9_fall 0 = .ok (.aload_n 0, 1) := by decide +kernel
theorem dX9_fall_1 : decode cX9_fall 1 = .ok (.iload_n 1, 1) := by decide +kernel
theorem dX9_fall_2 : decode cX9_fall 2 = .ok (.iload_n 2, 1) := by decide +kernel
theorem dX9_fall_3 : decode cX9_fall 3 = .ok (.iload_n 3, 1) := by decide +kernel
theorem dX9_fall_4 : decode cX9_fall 4 = .ok (.invokevirtual 201, 3) := by decide +kernel
theorem dX9_fall_7 : decode cX9_fall 7 = .ok (.ifCond .eq 17, 3) := by decide +kernel
theorem dX9_fall_10 : decode cX9_fall 10 = .ok (.aload_n 0, 1) := by decide +kernel
theorem dX9_fall_11 : decode cX9_fall 11 = .ok (.getfield 30, 3) := by decide +kernel
theorem dX9_fall_14 : decode cX9_fall 14 = .ok (.iload 4, 2) := by decide +kernel
theorem dX9_fall_16 : decode cX9_fall 16 = .ok (.iload 5, 2) := by decide +kernel
theorem dX9_fall_18 : decode cX9_fall 18 = .ok (.invokevirtual 107, 3) := by decide +kernel
theorem dX9_fall_21 : decode cX9_fall 21 = .ok (.ifCond .ne 5, 3) := by decide +kernel
theorem dX9_fall_24 : decode cX9_fall 24 = .ok (.iconst (-1), 1) := by decide +kernel
theorem dX9_fall_25 : decode cX9_fall 25 = .ok (.ireturn, 1) := by decide +kernel
theorem dX9_fall_26 : decode cX9_fall 26 = .ok (.aload_n 0, 1) := by decide +kernel
theorem dX9_fall_27 : decode cX9_fall 27 = .ok (.getfield 56, 3) := by decide +kernel
theorem dX9_fall_30 : decode cX9_fall 30 = .ok (.aload_n 0, 1) := by decide +kernel
theorem dX9_fall_31 : decode cX9_fall 31 = .ok (.getfield 46, 3) := by decide +kernel
theorem dX9_fall_34 : decode cX9_fall 34 = .ok (.invokevirtual 209, 3) := by decide +kernel
theorem dX9_fall_37 : decode cX9_fall 37 = .ok (.aload_n 0, 1) := by decide +kernel
theorem dX9_fall_38 : decode cX9_fall 38 = .ok (.getfield 39, 3) := by decide +kernel
theorem dX9_fall_41 : decode cX9_fall 41 = .ok (.aload_n 0, 1) := by decide +kernel
theorem dX9_fall_42 : decode cX9_fall 42 = .ok (.getfield 46, 3) := by decide +kernel
theorem dX9_fall_45 : decode cX9_fall 45 = .ok (.iload_n 1, 1) := by decide +kernel
theorem dX9_fall_46 : decode cX9_fall 46 = .ok (.iload_n 2, 1) := by decide +kernel
theorem dX9_fall_47 : decode cX9_fall 47 = .ok (.iload_n 3, 1) := by decide +kernel
theorem dX9_fall_48 : decode cX9_fall 48 = .ok (.iload 4, 2) := by decide +kernel
theorem dX9_fall_50 : decode cX9_fall 50 = .ok (.iload 5, 2) := by decide +kernel
theorem dX9_fall_52 : decode cX9_fall 52 = .ok (.invokevirtual 220, 3) := by decide +kernel
theorem dX9_fall_55 : decode cX9_fall 55 = .ok (.ireturn, 1) := by decide +kernel
theorem dX9_turn_0 : decode cX9_turn 0 = .ok (.aload_n 0, 1) := by decide +kernel
theorem dX9_turn_1 : decode cX9_turn 1 = .ok (.getfield 30, 3) := by decide +kernel
theorem dX9_turn_4 : decode cX9_turn 4 = .ok (.iload_n 1, 1) := by decide +kernel
theorem dX9_turn_5 : decode cX9_turn 5 = .ok (.invokevirtual 145, 3) := by decide +kernel
theorem dX9_turn_8 : decode cX9_turn 8 = .ok (.ifCond .eq 14, 3) := by decide +kernel
theorem dX9_turn_11 : decode cX9_turn 11 = .ok (.iload_n 2, 1) := by decide +kernel
theorem dX9_turn_12 : decode cX9_turn 12 = .ok (.iconst 1, 1) := by decide +kernel
theorem dX9_turn_13 : decode cX9_turn 13 = .ok (.if_icmp .lt 9, 3) := by decide +kernel
theorem dX9_turn_16 : decode cX9_turn 16 = .ok (.iload_n 2, 1) := by decide +kernel
theorem dX9_turn_17 : decode cX9_turn 17 = .ok (.bipush 99, 2) := by decide +kernel
theorem dX9_turn_19 : decode cX9_turn 19 = .ok (.if_icmp .le 5, 3) := by decide +kernel
theorem dX9_turn_22 : decode cX9_turn 22 = .ok (.iconst (-1), 1) := by decide +kernel
theorem dX9_turn_23 : decode cX9_turn 23 = .ok (.ireturn, 1) := by decide +kernel
theorem dX9_turn_24 : decode cX9_turn 24 = .ok (.aload_n 0, 1) := by decide +kernel
theorem dX9_turn_25 : decode cX9_turn 25 = .ok (.getfield 56, 3) := by decide +kernel
theorem dX9_turn_28 : decode cX9_turn 28 = .ok (.aload_n 0, 1) := by decide +kernel
theorem dX9_turn_29 : decode cX9_turn 29 = .ok (.getfield 46, 3) := by decide +kernel
theorem dX9_turn_32 : decode cX9_turn 32 = .ok (.invokevirtual 209, 3) := by decide +kernel
theorem dX9_turn_35 : decode cX9_turn 35 = .ok (.aload_n 0, 1) := by decide +kernel
theorem dX9_turn_36 : decode cX9_turn 36 = .ok (.getfield 46, 3) := by decide +kernel
theorem dX9_turn_39 : decode cX9_turn 39 = .ok (.iload_n 1, 1) := by decide +kernel
theorem dX9_turn_40 : decode cX9_turn 40 = .ok (.iconst 1, 1) := by decide +kernel
theorem dX9_turn_41 : decode cX9_turn 41 = .ok (.iload_n 2, 1) := by decide +kernel
theorem dX9_turn_42 : decode cX9_turn 42 = .ok (.invokevirtual 224, 3) := by decide +kernel
theorem dX9_turn_45 : decode cX9_turn 45 = .ok (.aload_n 0, 1) := by decide +kernel
theorem dX9_turn_46 : decode cX9_turn 46 = .ok (.getfield 46, 3) := by decide +kernel
theorem dX9_turn_49 : decode cX9_turn 49 = .ok (.iload_n 1, 1) := by decide +kernel
theorem dX9_turn_50 : decode cX9_turn 50 = .ok (.iconst 1, 1) := by decide +kernel
theorem dX9_turn_51 : decode cX9_turn 51 = .ok (.invokevirtual 148, 3) := by decide +kernel
theorem dX9_turn_54 : decode cX9_turn 54 = .ok (.ireturn, 1) := by decide +kernel
theorem dX9_days_0 : decode cX9_days 0 = .ok (.iload_n 1, 1) := by decide +kernel
theorem dX9_days_1 : decode cX9_days 1 = .ok (.ifCond .lt 9, 3) := by decide +kernel
theorem dX9_days_4 : decode cX9_days 4 = .ok (.iload_n 1, 1) := by decide +kernel
theorem dX9_days_5 : decode cX9_days 5 = .ok (.bipush 30, 2) := by decide +kernel
theorem dX9_days_7 : decode cX9_days 7 = .ok (.if_icmp .le 5, 3) := by decide +kernel
theorem dX9_days_10 : decode cX9_days 10 = .ok (.iconst (-1), 1) := by decide +kernel
theorem dX9_days_11 : decode cX9_days 11 = .ok (.ireturn, 1) := by decide +kernel
theorem dX9_days_12 : decode cX9_days 12 = .ok (.iload_n 1, 1) := by decide +kernel
theorem dX9_days_13 : decode cX9_days 13 = .ok (.ifCond .le 33, 3) := by decide +kernel
theorem dX9_days_16 : decode cX9_days 16 = .ok (.aload_n 0, 1) := by decide +kernel
theorem dX9_days_17 : decode cX9_days 17 = .ok (.getfield 56, 3) := by decide +kernel
theorem dX9_days_20 : decode cX9_days 20 = .ok (.aload_n 0, 1) := by decide +kernel
theorem dX9_days_21 : decode cX9_days 21 = .ok (.getfield 46, 3) := by decide +kernel
theorem dX9_days_24 : decode cX9_days 24 = .ok (.invokevirtual 209, 3) := by decide +kernel
theorem dX9_days_27 : decode cX9_days 27 = .ok (.aload_n 0, 1) := by decide +kernel
theorem dX9_days_28 : decode cX9_days 28 = .ok (.getfield 39, 3) := by decide +kernel
theorem dX9_days_31 : decode cX9_days 31 = .ok (.aload_n 0, 1) := by decide +kernel
theorem dX9_days_32 : decode cX9_days 32 = .ok (.getfield 46, 3) := by decide +kernel
theorem dX9_days_35 : decode cX9_days 35 = .ok (.iload_n 1, 1) := by decide +kernel
theorem dX9_days_36 : decode cX9_days 36 = .ok (.aload_n 0, 1) := by decide +kernel
theorem dX9_days_37 : decode cX9_days 37 = .ok (.getfield 30, 3) := by decide +kernel
theorem dX9_days_40 : decode cX9_days 40 = .ok (.getfield 228, 3) := by decide +kernel
theorem dX9_days_43 : decode cX9_days 43 = .ok (.invokevirtual 231, 3) := by decide +kernel
theorem dX9_days_46 : decode cX9_days 46 = .ok (.aload_n 0, 1) := by decide +kernel
theorem dX9_days_47 : decode cX9_days 47 = .ok (.getfield 46, 3) := by decide +kernel
theorem dX9_days_50 : decode cX9_days 50 = .ok (.getfield 178, 3) := by decide +kernel
theorem dX9_days_53 : decode cX9_days 53 = .ok (.ireturn, 1) := by decide +kernel
theorem dX9_undo_0 : decode cX9_undo 0 = .ok (.aload_n 0, 1) := by decide +kernel
theorem dX9_undo_1 : decode cX9_undo 1 = .ok (.getfield 56, 3) := by decide +kernel
theorem dX9_undo_4 : decode cX9_undo 4 = .ok (.aload_n 0, 1) := by decide +kernel
theorem dX9_undo_5 : decode cX9_undo 5 = .ok (.getfield 46, 3) := by decide +kernel
theorem dX9_undo_8 : decode cX9_undo 8 = .ok (.invokevirtual 235, 3) := by decide +kernel
theorem dX9_undo_11 : decode cX9_undo 11 = .ok (.ireturn, 1) := by decide +kernel
theorem dX9_holds_0 : decode cX9_holds 0 = .ok (.aload_n 0, 1) := by decide +kernel
theorem dX9_holds_1 : decode cX9_holds 1 = .ok (.iload_n 1, 1) := by decide +kernel
theorem dX9_holds_2 : decode cX9_holds 2 = .ok (.iload_n 2, 1) := by decide +kernel
theorem dX9_holds_3 : decode cX9_holds 3 = .ok (.iload_n 3, 1) := by decide +kernel
theorem dX9_holds_4 : decode cX9_holds 4 = .ok (.invokevirtual 201, 3) := by decide +kernel
theorem dX9_holds_7 : decode cX9_holds 7 = .ok (.ifCond .ne 5, 3) := by decide +kernel
theorem dX9_holds_10 : decode cX9_holds 10 = .ok (.iconst (-1), 1) := by decide +kernel
theorem dX9_holds_11 : decode cX9_holds 11 = .ok (.ireturn, 1) := by decide +kernel
theorem dX9_holds_12 : decode cX9_holds 12 = .ok (.aload_n 0, 1) := by decide +kernel
theorem dX9_holds_13 : decode cX9_holds 13 = .ok (.iload_n 1, 1) := by decide +kernel
theorem dX9_holds_14 : decode cX9_holds 14 = .ok (.iload_n 2, 1) := by decide +kernel
theorem dX9_holds_15 : decode cX9_holds 15 = .ok (.iload_n 3, 1) := by decide +kernel
theorem dX9_holds_16 : decode cX9_holds 16 = .ok (.invokevirtual 239, 3) := by decide +kernel
theorem dX9_holds_19 : decode cX9_holds 19 = .ok (.iload 4, 2) := by decide +kernel
theorem dX9_holds_21 : decode cX9_holds 21 = .ok (.ifCond .eq 15, 3) := by decide +kernel
theorem dX9_holds_24 : decode cX9_holds 24 = .ok (.aload_n 0, 1) := by decide +kernel
theorem dX9_holds_25 : decode cX9_holds 25 = .ok (.getfield 39, 3) := by decide +kernel
theorem dX9_holds_28 : decode cX9_holds 28 = .ok (.iload_n 2, 1) := by decide +kernel
theorem dX9_holds_29 : decode cX9_holds 29 = .ok (.iload_n 3, 1) := by decide +kernel
theorem dX9_holds_30 : decode cX9_holds 30 = .ok (.invokevirtual 242, 3) := by decide +kernel
theorem dX9_holds_33 : decode cX9_holds 33 = .ok (.goto 10, 3) := by decide +kernel
theorem dX9_holds_36 : decode cX9_holds 36 = .ok (.aload_n 0, 1) := by decide +kernel
theorem dX9_holds_37 : decode cX9_holds 37 = .ok (.getfield 39, 3) := by decide +kernel
theorem dX9_holds_40 : decode cX9_holds 40 = .ok (.getfield 245, 3) := by decide +kernel
theorem dX9_holds_43 : decode cX9_holds 43 = .ok (.ireturn, 1) := by decide +kernel
theorem dX9_heldBy_0 : decode cX9_heldBy 0 = .ok (.aload_n 0, 1) := by decide +kernel
theorem dX9_heldBy_1 : decode cX9_heldBy 1 = .ok (.iload_n 1, 1) := by decide +kernel
theorem dX9_heldBy_2 : decode cX9_heldBy 2 = .ok (.iload_n 2, 1) := by decide +kernel
theorem dX9_heldBy_3 : decode cX9_heldBy 3 = .ok (.iload_n 3, 1) := by decide +kernel
theorem dX9_heldBy_4 : decode cX9_heldBy 4 = .ok (.invokevirtual 239, 3) := by decide +kernel
theorem dX9_heldBy_7 : decode cX9_heldBy 7 = .ok (.aload_n 0, 1) := by decide +kernel
theorem dX9_heldBy_8 : decode cX9_heldBy 8 = .ok (.getfield 39, 3) := by decide +kernel
theorem dX9_heldBy_11 : decode cX9_heldBy 11 = .ok (.getfield 245, 3) := by decide +kernel
theorem dX9_heldBy_14 : decode cX9_heldBy 14 = .ok (.ireturn, 1) := by decide +kernel
theorem dX9_weaveWhole_0 : decode cX9_weaveWhole 0 = .ok (.aload_n 0, 1) := by decide +kernel
theorem dX9_weaveWhole_1 : decode cX9_weaveWhole 1 = .ok (.getfield 39, 3) := by decide +kernel
theorem dX9_weaveWhole_4 : decode cX9_weaveWhole 4 = .ok (.iload_n 1, 1) := by decide +kernel
theorem dX9_weaveWhole_5 : decode cX9_weaveWhole 5 = .ok (.aload_n 0, 1) := by decide +kernel
theorem dX9_weaveWhole_6 : decode cX9_weaveWhole 6 = .ok (.getfield 46, 3) := by decide +kernel
theorem dX9_weaveWhole_9 : decode cX9_weaveWhole 9 = .ok (.iload_n 1, 1) := by decide +kernel
theorem dX9_weaveWhole_10 : decode cX9_weaveWhole 10 = .ok (.iconst 1, 1) := by decide +kernel
theorem dX9_weaveWhole_11 : decode cX9_weaveWhole 11 = .ok (.invokevirtual 148, 3) := by decide +kernel
theorem dX9_weaveWhole_14 : decode cX9_weaveWhole 14 = .ok (.iload_n 2, 1) := by decide +kernel
theorem dX9_weaveWhole_15 : decode cX9_weaveWhole 15 = .ok (.iload_n 3, 1) := by decide +kernel
theorem dX9_weaveWhole_16 : decode cX9_weaveWhole 16 = .ok (.sipush 9999, 3) := by decide +kernel
theorem dX9_weaveWhole_19 : decode cX9_weaveWhole 19 = .ok (.invokevirtual 247, 3) := by decide +kernel
theorem dX9_weaveWhole_22 : decode cX9_weaveWhole 22 = .ok (.return_, 1) := by decide +kernel
theorem dX9_comes_0 : decode cX9_comes 0 = .ok (.aload_n 0, 1) := by decide +kernel
theorem dX9_comes_1 : decode cX9_comes 1 = .ok (.iload_n 1, 1) := by decide +kernel
theorem dX9_comes_2 : decode cX9_comes 2 = .ok (.iload_n 2, 1) := by decide +kernel
theorem dX9_comes_3 : decode cX9_comes 3 = .ok (.iconst 1, 1) := by decide +kernel
theorem dX9_comes_4 : decode cX9_comes 4 = .ok (.invokevirtual 201, 3) := by decide +kernel
theorem dX9_comes_7 : decode cX9_comes 7 = .ok (.ifCond .eq 14, 3) := by decide +kernel
theorem dX9_comes_10 : decode cX9_comes 10 = .ok (.iload_n 3, 1) := by decide +kernel
theorem dX9_comes_11 : decode cX9_comes 11 = .ok (.ifCond .lt 10, 3) := by decide +kernel
theorem dX9_comes_14 : decode cX9_comes 14 = .ok (.iload_n 3, 1) := by decide +kernel
theorem dX9_comes_15 : decode cX9_comes 15 = .ok (.iconst 1, 1) := by decide +kernel
theorem dX9_comes_16 : decode cX9_comes 16 = .ok (.iload_n 2, 1) := by decide +kernel
theorem dX9_comes_17 : decode cX9_comes 17 = .ok (.ishl, 1) := by decide +kernel
theorem dX9_comes_18 : decode cX9_comes 18 = .ok (.if_icmp .lt 5, 3) := by decide +kernel
theorem dX9_comes_21 : decode cX9_comes 21 = .ok (.iconst (-1), 1) := by decide +kernel
theorem dX9_comes_22 : decode cX9_comes 22 = .ok (.ireturn, 1) := by decide +kernel
theorem dX9_comes_23 : decode cX9_comes 23 = .ok (.aload_n 0, 1) := by decide +kernel
theorem dX9_comes_24 : decode cX9_comes 24 = .ok (.getfield 46, 3) := by decide +kernel
theorem dX9_comes_27 : decode cX9_comes 27 = .ok (.iload_n 1, 1) := by decide +kernel
theorem dX9_comes_28 : decode cX9_comes 28 = .ok (.iconst 1, 1) := by decide +kernel
theorem dX9_comes_29 : decode cX9_comes 29 = .ok (.invokevirtual 148, 3) := by decide +kernel
theorem dX9_comes_32 : decode cX9_comes 32 = .ok (.istore 4, 2) := by decide +kernel
theorem dX9_comes_34 : decode cX9_comes 34 = .ok (.iconst 0, 1) := by decide +kernel
theorem dX9_comes_35 : decode cX9_comes 35 = .ok (.istore 5, 2) := by decide +kernel
theorem dX9_comes_37 : decode cX9_comes 37 = .ok (.iload 5, 2) := by decide +kernel
theorem dX9_comes_39 : decode cX9_comes 39 = .ok (.sipush 200, 3) := by decide +kernel
theorem dX9_comes_42 : decode cX9_comes 42 = .ok (.if_icmp .gt 33, 3) := by decide +kernel
theorem dX9_comes_45 : decode cX9_comes 45 = .ok (.aload_n 0, 1) := by decide +kernel
theorem dX9_comes_46 : decode cX9_comes 46 = .ok (.getfield 39, 3) := by decide +kernel
theorem dX9_comes_49 : decode cX9_comes 49 = .ok (.iload_n 1, 1) := by decide +kernel
theorem dX9_comes_50 : decode cX9_comes 50 = .ok (.iload 4, 2) := by decide +kernel
theorem dX9_comes_52 : decode cX9_comes 52 = .ok (.iload 5, 2) := by decide +kernel
theorem dX9_comes_54 : decode cX9_comes 54 = .ok (.iadd, 1) := by decide +kernel
theorem dX9_comes_55 : decode cX9_comes 55 = .ok (.invokevirtual 154, 3) := by decide +kernel
theorem dX9_comes_58 : decode cX9_comes 58 = .ok (.iload_n 2, 1) := by decide +kernel
theorem dX9_comes_59 : decode cX9_comes 59 = .ok (.invokestatic 250, 3) := by decide +kernel
theorem dX9_comes_62 : decode cX9_comes 62 = .ok (.iload_n 3, 1) := by decide +kernel
theorem dX9_comes_63 : decode cX9_comes 63 = .ok (.if_icmp .ne 6, 3) := by decide +kernel
theorem dX9_comes_66 : decode cX9_comes 66 = .ok (.iload 5, 2) := by decide +kernel
theorem dX9_comes_68 : decode cX9_comes 68 = .ok (.ireturn, 1) := by decide +kernel
theorem dX9_comes_69 : decode cX9_comes 69 = .ok (.iinc 5 1, 3) := by decide +kernel
theorem dX9_comes_72 : decode cX9_comes 72 = .ok (.goto (-35), 3) := by decide +kernel
theorem dX9_comes_75 : decode cX9_comes 75 = .ok (.bipush (-2), 2) := by decide +kernel
theorem dX9_comes_77 : decode cX9_comes 77 = .ok (.ireturn, 1) := by decide +kernel
theorem dX9_round_0 : decode cX9_round 0 = .ok (.aload_n 0, 1) := by decide +kernel
theorem dX9_round_1 : decode cX9_round 1 = .ok (.getfield 30, 3) := by decide +kernel
theorem dX9_round_4 : decode cX9_round 4 = .ok (.iload_n 1, 1) := by decide +kernel
theorem dX9_round_5 : decode cX9_round 5 = .ok (.invokevirtual 145, 3) := by decide +kernel
theorem dX9_round_8 : decode cX9_round 8 = .ok (.ifCond .ne 5, 3) := by decide +kernel
theorem dX9_round_11 : decode cX9_round 11 = .ok (.iconst (-1), 1) := by decide +kernel
theorem dX9_round_12 : decode cX9_round 12 = .ok (.ireturn, 1) := by decide +kernel
theorem dX9_round_13 : decode cX9_round 13 = .ok (.aload_n 0, 1) := by decide +kernel
theorem dX9_round_14 : decode cX9_round 14 = .ok (.getfield 46, 3) := by decide +kernel
theorem dX9_round_17 : decode cX9_round 17 = .ok (.iload_n 1, 1) := by decide +kernel
theorem dX9_round_18 : decode cX9_round 18 = .ok (.iconst 1, 1) := by decide +kernel
theorem dX9_round_19 : decode cX9_round 19 = .ok (.invokevirtual 148, 3) := by decide +kernel
theorem dX9_round_22 : decode cX9_round 22 = .ok (.istore_n 2, 1) := by decide +kernel
theorem dX9_round_23 : decode cX9_round 23 = .ok (.iconst 1, 1) := by decide +kernel
theorem dX9_round_24 : decode cX9_round 24 = .ok (.istore_n 3, 1) := by decide +kernel
theorem dX9_round_25 : decode cX9_round 25 = .ok (.iload_n 3, 1) := by decide +kernel
theorem dX9_round_26 : decode cX9_round 26 = .ok (.bipush 99, 2) := by decide +kernel
theorem dX9_round_28 : decode cX9_round 28 = .ok (.if_icmp .gt 21, 3) := by decide +kernel
theorem dX9_round_31 : decode cX9_round 31 = .ok (.aload_n 0, 1) := by decide +kernel
theorem dX9_round_32 : decode cX9_round 32 = .ok (.iload_n 1, 1) := by decide +kernel
theorem dX9_round_33 : decode cX9_round 33 = .ok (.iload_n 2, 1) := by decide +kernel
theorem dX9_round_34 : decode cX9_round 34 = .ok (.iload_n 3, 1) := by decide +kernel
theorem dX9_round_35 : decode cX9_round 35 = .ok (.invokevirtual 253, 3) := by decide +kernel
theorem dX9_round_38 : decode cX9_round 38 = .ok (.ifCond .eq 5, 3) := by decide +kernel
theorem dX9_round_41 : decode cX9_round 41 = .ok (.iload_n 3, 1) := by decide +kernel
theorem dX9_round_42 : decode cX9_round 42 = .ok (.ireturn, 1) := by decide +kernel
theorem dX9_round_43 : decode cX9_round 43 = .ok (.iinc 3 1, 3) := by decide +kernel
theorem dX9_round_46 : decode cX9_round 46 = .ok (.goto (-21), 3) := by decide +kernel
theorem dX9_round_49 : decode cX9_round 49 = .ok (.bipush (-2), 2) := by decide +kernel
theorem dX9_round_51 : decode cX9_round 51 = .ok (.ireturn, 1) := by decide +kernel
theorem dX9_comesRound_0 : decode cX9_comesRound 0 = .ok (.iload_n 2, 1) := by decide +kernel
theorem dX9_comesRound_1 : decode cX9_comesRound 1 = .ok (.istore 4, 2) := by decide +kernel
theorem dX9_comesRound_3 : decode cX9_comesRound 3 = .ok (.iload 4, 2) := by decide +kernel
theorem dX9_comesRound_5 : decode cX9_comesRound 5 = .ok (.iload_n 2, 1) := by decide +kernel
theorem dX9_comesRound_6 : decode cX9_comesRound 6 = .ok (.bipush 48, 2) := by decide +kernel
theorem dX9_comesRound_8 : decode cX9_comesRound 8 = .ok (.iadd, 1) := by decide +kernel
theorem dX9_comesRound_9 : decode cX9_comesRound 9 = .ok (.if_icmp .ge 36, 3) := by decide +kernel
theorem dX9_comesRound_12 : decode cX9_comesRound 12 = .ok (.aload_n 0, 1) := by decide +kernel
theorem dX9_comesRound_13 : decode cX9_comesRound 13 = .ok (.getfield 39, 3) := by decide +kernel
theorem dX9_comesRound_16 : decode cX9_comesRound 16 = .ok (.iload_n 1, 1) := by decide +kernel
theorem dX9_comesRound_17 : decode cX9_comesRound 17 = .ok (.iload 4, 2) := by decide +kernel
theorem dX9_comesRound_19 : decode cX9_comesRound 19 = .ok (.invokevirtual 154, 3) := by decide +kernel
theorem dX9_comesRound_22 : decode cX9_comesRound 22 = .ok (.aload_n 0, 1) := by decide +kernel
theorem dX9_comesRound_23 : decode cX9_comesRound 23 = .ok (.getfield 39, 3) := by decide +kernel
theorem dX9_comesRound_26 : decode cX9_comesRound 26 = .ok (.iload_n 1, 1) := by decide +kernel
theorem dX9_comesRound_27 : decode cX9_comesRound 27 = .ok (.iload 4, 2) := by decide +kernel
theorem dX9_comesRound_29 : decode cX9_comesRound 29 = .ok (.iload_n 3, 1) := by decide +kernel
theorem dX9_comesRound_30 : decode cX9_comesRound 30 = .ok (.iadd, 1) := by decide +kernel
theorem dX9_comesRound_31 : decode cX9_comesRound 31 = .ok (.invokevirtual 154, 3) := by decide +kernel
theorem dX9_comesRound_34 : decode cX9_comesRound 34 = .ok (.if_icmp .eq 5, 3) := by decide +kernel
theorem dX9_comesRound_37 : decode cX9_comesRound 37 = .ok (.iconst 0, 1) := by decide +kernel
theorem dX9_comesRound_38 : decode cX9_comesRound 38 = .ok (.ireturn, 1) := by decide +kernel
theorem dX9_comesRound_39 : decode cX9_comesRound 39 = .ok (.iinc 4 1, 3) := by decide +kernel
theorem dX9_comesRound_42 : decode cX9_comesRound 42 = .ok (.goto (-39), 3) := by decide +kernel
theorem dX9_comesRound_45 : decode cX9_comesRound 45 = .ok (.iconst 1, 1) := by decide +kernel
theorem dX9_comesRound_46 : decode cX9_comesRound 46 = .ok (.ireturn, 1) := by decide +kernel
theorem dX9_agree_0 : decode cX9_agree 0 = .ok (.aload_n 0, 1) := by decide +kernel
theorem dX9_agree_1 : decode cX9_agree 1 = .ok (.getfield 30, 3) := by decide +kernel
theorem dX9_agree_4 : decode cX9_agree 4 = .ok (.iload_n 1, 1) := by decide +kernel
theorem dX9_agree_5 : decode cX9_agree 5 = .ok (.invokevirtual 145, 3) := by decide +kernel
theorem dX9_agree_8 : decode cX9_agree 8 = .ok (.ifCond .eq 19, 3) := by decide +kernel
theorem dX9_agree_11 : decode cX9_agree 11 = .ok (.aload_n 0, 1) := by decide +kernel
theorem dX9_agree_12 : decode cX9_agree 12 = .ok (.getfield 30, 3) := by decide +kernel
theorem dX9_agree_15 : decode cX9_agree 15 = .ok (.iload_n 2, 1) := by decide +kernel
theorem dX9_agree_16 : decode cX9_agree 16 = .ok (.invokevirtual 145, 3) := by decide +kernel
theorem dX9_agree_19 : decode cX9_agree 19 = .ok (.ifCond .eq 8, 3) := by decide +kernel
theorem dX9_agree_22 : decode cX9_agree 22 = .ok (.iload_n 1, 1) := by decide +kernel
theorem dX9_agree_23 : decode cX9_agree 23 = .ok (.iload_n 2, 1) := by decide +kernel
theorem dX9_agree_24 : decode cX9_agree 24 = .ok (.if_icmp .ne 5, 3) := by decide +kernel
theorem dX9_agree_27 : decode cX9_agree 27 = .ok (.iconst (-1), 1) := by decide +kernel
theorem dX9_agree_28 : decode cX9_agree 28 = .ok (.ireturn, 1) := by decide +kernel
theorem dX9_agree_29 : decode cX9_agree 29 = .ok (.aload_n 0, 1) := by decide +kernel
theorem dX9_agree_30 : decode cX9_agree 30 = .ok (.getfield 30, 3) := by decide +kernel
theorem dX9_agree_33 : decode cX9_agree 33 = .ok (.getfield 151, 3) := by decide +kernel
theorem dX9_agree_36 : decode cX9_agree 36 = .ok (.iload_n 1, 1) := by decide +kernel
theorem dX9_agree_37 : decode cX9_agree 37 = .ok (.iaload, 1) := by decide +kernel
theorem dX9_agree_38 : decode cX9_agree 38 = .ok (.aload_n 0, 1) := by decide +kernel
theorem dX9_agree_39 : decode cX9_agree 39 = .ok (.getfield 30, 3) := by decide +kernel
theorem dX9_agree_42 : decode cX9_agree 42 = .ok (.getfield 151, 3) := by decide +kernel
theorem dX9_agree_45 : decode cX9_agree 45 = .ok (.iload_n 2, 1) := by decide +kernel
theorem dX9_agree_46 : decode cX9_agree 46 = .ok (.iaload, 1) := by decide +kernel
theorem dX9_agree_47 : decode cX9_agree 47 = .ok (.invokestatic 256, 3) := by decide +kernel
theorem dX9_agree_50 : decode cX9_agree 50 = .ok (.istore_n 3, 1) := by decide +kernel
theorem dX9_agree_51 : decode cX9_agree 51 = .ok (.aload_n 0, 1) := by decide +kernel
theorem dX9_agree_52 : decode cX9_agree 52 = .ok (.getfield 46, 3) := by decide +kernel
theorem dX9_agree_55 : decode cX9_agree 55 = .ok (.iload_n 1, 1) := by decide +kernel
theorem dX9_agree_56 : decode cX9_agree 56 = .ok (.iconst 1, 1) := by decide +kernel
theorem dX9_agree_57 : decode cX9_agree 57 = .ok (.invokevirtual 148, 3) := by decide +kernel
theorem dX9_agree_60 : decode cX9_agree 60 = .ok (.istore 4, 2) := by decide +kernel
theorem dX9_agree_62 : decode cX9_agree 62 = .ok (.aload_n 0, 1) := by decide +kernel
theorem dX9_agree_63 : decode cX9_agree 63 = .ok (.getfield 46, 3) := by decide +kernel
theorem dX9_agree_66 : decode cX9_agree 66 = .ok (.iload_n 2, 1) := by decide +kernel
theorem dX9_agree_67 : decode cX9_agree 67 = .ok (.iconst 1, 1) := by decide +kernel
theorem dX9_agree_68 : decode cX9_agree 68 = .ok (.invokevirtual 148, 3) := by decide +kernel
theorem dX9_agree_71 : decode cX9_agree 71 = .ok (.istore 5, 2) := by decide +kernel
theorem dX9_agree_73 : decode cX9_agree 73 = .ok (.iconst 0, 1) := by decide +kernel
theorem dX9_agree_74 : decode cX9_agree 74 = .ok (.istore 6, 2) := by decide +kernel
theorem dX9_agree_76 : decode cX9_agree 76 = .ok (.iload 6, 2) := by decide +kernel
theorem dX9_agree_78 : decode cX9_agree 78 = .ok (.sipush 200, 3) := by decide +kernel
theorem dX9_agree_81 : decode cX9_agree 81 = .ok (.if_icmp .gt 50, 3) := by decide +kernel
theorem dX9_agree_84 : decode cX9_agree 84 = .ok (.aload_n 0, 1) := by decide +kernel
theorem dX9_agree_85 : decode cX9_agree 85 = .ok (.getfield 39, 3) := by decide +kernel
theorem dX9_agree_88 : decode cX9_agree 88 = .ok (.iload_n 1, 1) := by decide +kernel
theorem dX9_agree_89 : decode cX9_agree 89 = .ok (.iload 4, 2) := by decide +kernel
theorem dX9_agree_91 : decode cX9_agree 91 = .ok (.iload 6, 2) := by decide +kernel
theorem dX9_agree_93 : decode cX9_agree 93 = .ok (.iadd, 1) := by decide +kernel
theorem dX9_agree_94 : decode cX9_agree 94 = .ok (.invokevirtual 154, 3) := by decide +kernel
theorem dX9_agree_97 : decode cX9_agree 97 = .ok (.aload_n 0, 1) := by decide +kernel
theorem dX9_agree_98 : decode cX9_agree 98 = .ok (.getfield 39, 3) := by decide +kernel
theorem dX9_agree_101 : decode cX9_agree 101 = .ok (.iload_n 2, 1) := by decide +kernel
theorem dX9_agree_102 : decode cX9_agree 102 = .ok (.iload 5, 2) := by decide +kernel
theorem dX9_agree_104 : decode cX9_agree 104 = .ok (.iload 6, 2) := by decide +kernel
theorem dX9_agree_106 : decode cX9_agree 106 = .ok (.iadd, 1) := by decide +kernel
theorem dX9_agree_107 : decode cX9_agree 107 = .ok (.invokevirtual 154, 3) := by decide +kernel
theorem dX9_agree_110 : decode cX9_agree 110 = .ok (.ixor, 1) := by decide +kernel
theorem dX9_agree_111 : decode cX9_agree 111 = .ok (.istore 7, 2) := by decide +kernel
theorem dX9_agree_113 : decode cX9_agree 113 = .ok (.iload 7, 2) := by decide +kernel
theorem dX9_agree_115 : decode cX9_agree 115 = .ok (.iload_n 3, 1) := by decide +kernel
theorem dX9_agree_116 : decode cX9_agree 116 = .ok (.invokestatic 261, 3) := by decide +kernel
theorem dX9_agree_119 : decode cX9_agree 119 = .ok (.ifCond .ne 6, 3) := by decide +kernel
theorem dX9_agree_122 : decode cX9_agree 122 = .ok (.iload 6, 2) := by decide +kernel
theorem dX9_agree_124 : decode cX9_agree 124 = .ok (.ireturn, 1) := by decide +kernel
theorem dX9_agree_125 : decode cX9_agree 125 = .ok (.iinc 6 1, 3) := by decide +kernel
theorem dX9_agree_128 : decode cX9_agree 128 = .ok (.goto (-52), 3) := by decide +kernel
theorem dX9_agree_131 : decode cX9_agree 131 = .ok (.bipush (-2), 2) := by decide +kernel
theorem dX9_agree_133 : decode cX9_agree 133 = .ok (.ireturn, 1) := by decide +kernel
theorem dX9_where_0 : decode cX9_where 0 = .ok (.aload_n 0, 1) := by decide +kernel
theorem dX9_where_1 : decode cX9_where 1 = .ok (.iload_n 1, 1) := by decide +kernel
theorem dX9_where_2 : decode cX9_where 2 = .ok (.iload_n 2, 1) := by decide +kernel
theorem dX9_where_3 : decode cX9_where 3 = .ok (.iload_n 3, 1) := by decide +kernel
theorem dX9_where_4 : decode cX9_where 4 = .ok (.invokevirtual 201, 3) := by decide +kernel
theorem dX9_where_7 : decode cX9_where 7 = .ok (.ifCond .eq 36, 3) := by decide +kernel
theorem dX9_where_10 : decode cX9_where 10 = .ok (.iload 4, 2) := by decide +kernel
theorem dX9_where_12 : decode cX9_where 12 = .ok (.ifCond .lt 31, 3) := by decide +kernel
theorem dX9_where_15 : decode cX9_where 15 = .ok (.iload 4, 2) := by decide +kernel
theorem dX9_where_17 : decode cX9_where 17 = .ok (.iconst 2, 1) := by decide +kernel
theorem dX9_where_18 : decode cX9_where 18 = .ok (.if_icmp .gt 25, 3) := by decide +kernel
theorem dX9_where_21 : decode cX9_where 21 = .ok (.iload_n 2, 1) := by decide +kernel
theorem dX9_where_22 : decode cX9_where 22 = .ok (.aload_n 0, 1) := by decide +kernel
theorem dX9_where_23 : decode cX9_where 23 = .ok (.getfield 30, 3) := by decide +kernel
theorem dX9_where_26 : decode cX9_where 26 = .ok (.getfield 166, 3) := by decide +kernel
theorem dX9_where_29 : decode cX9_where 29 = .ok (.if_icmp .gt 14, 3) := by decide +kernel
theorem dX9_where_32 : decode cX9_where 32 = .ok (.iload_n 3, 1) := by decide +kernel
theorem dX9_where_33 : decode cX9_where 33 = .ok (.aload_n 0, 1) := by decide +kernel
theorem dX9_where_34 : decode cX9_where 34 = .ok (.getfield 30, 3) := by decide +kernel
theorem dX9_where_37 : decode cX9_where 37 = .ok (.getfield 169, 3) := by decide +kernel
theorem dX9_where_40 : decode cX9_where 40 = .ok (.if_icmp .le 7, 3) := by decide +kernel
theorem dX9_where_43 : decode cX9_where 43 = .ok (.sipush (-1000), 3) := by decide +kernel
theorem dX9_where_46 : decode cX9_where 46 = .ok (.ireturn, 1) := by decide +kernel
theorem dX9_where_47 : decode cX9_where 47 = .ok (.aload_n 0, 1) := by decide +kernel
theorem dX9_where_48 : decode cX9_where 48 = .ok (.getfield 39, 3) := by decide +kernel
theorem dX9_where_51 : decode cX9_where 51 = .ok (.iload_n 1, 1) := by decide +kernel
theorem dX9_where_52 : decode cX9_where 52 = .ok (.aload_n 0, 1) := by decide +kernel
theorem dX9_where_53 : decode cX9_where 53 = .ok (.getfield 46, 3) := by decide +kernel
theorem dX9_where_56 : decode cX9_where 56 = .ok (.iload_n 1, 1) := by decide +kernel
theorem dX9_where_57 : decode cX9_where 57 = .ok (.iconst 1, 1) := by decide +kernel
theorem dX9_where_58 : decode cX9_where 58 = .ok (.invokevirtual 148, 3) := by decide +kernel
theorem dX9_where_61 : decode cX9_where 61 = .ok (.iload_n 2, 1) := by decide +kernel
theorem dX9_where_62 : decode cX9_where 62 = .ok (.iload_n 3, 1) := by decide +kernel
theorem dX9_where_63 : decode cX9_where 63 = .ok (.aload_n 0, 1) := by decide +kernel
theorem dX9_where_64 : decode cX9_where 64 = .ok (.getfield 46, 3) := by decide +kernel
theorem dX9_where_67 : decode cX9_where 67 = .ok (.getfield 181, 3) := by decide +kernel
theorem dX9_where_70 : decode cX9_where 70 = .ok (.invokevirtual 247, 3) := by decide +kernel
theorem dX9_where_73 : decode cX9_where 73 = .ok (.sipush (-1000), 3) := by decide +kernel
theorem dX9_where_76 : decode cX9_where 76 = .ok (.istore 5, 2) := by decide +kernel
theorem dX9_where_78 : decode cX9_where 78 = .ok (.iconst 0, 1) := by decide +kernel
theorem dX9_where_79 : decode cX9_where 79 = .ok (.istore 6, 2) := by decide +kernel
theorem dX9_where_81 : decode cX9_where 81 = .ok (.iconst 0, 1) := by decide +kernel
theorem dX9_where_82 : decode cX9_where 82 = .ok (.istore 7, 2) := by decide +kernel
theorem dX9_where_84 : decode cX9_where 84 = .ok (.iconst 0, 1) := by decide +kernel
theorem dX9_where_85 : decode cX9_where 85 = .ok (.istore 8, 2) := by decide +kernel
theorem dX9_where_87 : decode cX9_where 87 = .ok (.iload 8, 2) := by decide +kernel
theorem dX9_where_89 : decode cX9_where 89 = .ok (.iload_n 3, 1) := by decide +kernel
theorem dX9_where_90 : decode cX9_where 90 = .ok (.iadd, 1) := by decide +kernel
theorem dX9_where_91 : decode cX9_where 91 = .ok (.aload_n 0, 1) := by decide +kernel
theorem dX9_where_92 : decode cX9_where 92 = .ok (.getfield 30, 3) := by decide +kernel
theorem dX9_where_95 : decode cX9_where 95 = .ok (.getfield 169, 3) := by decide +kernel
theorem dX9_where_98 : decode cX9_where 98 = .ok (.if_icmp .gt 70, 3) := by decide +kernel
theorem dX9_where_101 : decode cX9_where 101 = .ok (.iconst 0, 1) := by decide +kernel
theorem dX9_where_102 : decode cX9_where 102 = .ok (.istore 9, 2) := by decide +kernel
theorem dX9_where_104 : decode cX9_where 104 = .ok (.iload 9, 2) := by decide +kernel
theorem dX9_where_106 : decode cX9_where 106 = .ok (.iload_n 2, 1) := by decide +kernel
theorem dX9_where_107 : decode cX9_where 107 = .ok (.iadd, 1) := by decide +kernel
theorem dX9_where_108 : decode cX9_where 108 = .ok (.aload_n 0, 1) := by decide +kernel
theorem dX9_where_109 : decode cX9_where 109 = .ok (.getfield 30, 3) := by decide +kernel
theorem dX9_where_112 : decode cX9_where 112 = .ok (.getfield 166, 3) := by decide +kernel
theorem dX9_where_115 : decode cX9_where 115 = .ok (.if_icmp .gt 47, 3) := by decide +kernel
theorem dX9_where_118 : decode cX9_where 118 = .ok (.aload_n 0, 1) := by decide +kernel
theorem dX9_where_119 : decode cX9_where 119 = .ok (.getfield 39, 3) := by decide +kernel
theorem dX9_where_122 : decode cX9_where 122 = .ok (.aload_n 0, 1) := by decide +kernel
theorem dX9_where_123 : decode cX9_where 123 = .ok (.getfield 46, 3) := by decide +kernel
theorem dX9_where_126 : decode cX9_where 126 = .ok (.iload_n 2, 1) := by decide +kernel
theorem dX9_where_127 : decode cX9_where 127 = .ok (.iload_n 3, 1) := by decide +kernel
theorem dX9_where_128 : decode cX9_where 128 = .ok (.iload 9, 2) := by decide +kernel
theorem dX9_where_130 : decode cX9_where 130 = .ok (.iload 8, 2) := by decide +kernel
theorem dX9_where_132 : decode cX9_where 132 = .ok (.invokevirtual 264, 3) := by decide +kernel
theorem dX9_where_135 : decode cX9_where 135 = .ok (.istore 10, 2) := by decide +kernel
theorem dX9_where_137 : decode cX9_where 137 = .ok (.iload 10, 2) := by decide +kernel
theorem dX9_where_139 : decode cX9_where 139 = .ok (.iload 5, 2) := by decide +kernel
theorem dX9_where_141 : decode cX9_where 141 = .ok (.if_icmp .le 15, 3) := by decide +kernel
theorem dX9_where_144 : decode cX9_where 144 = .ok (.iload 10, 2) := by decide +kernel
theorem dX9_where_146 : decode cX9_where 146 = .ok (.istore 5, 2) := by decide +kernel
theorem dX9_where_148 : decode cX9_where 148 = .ok (.iload 9, 2) := by decide +kernel
theorem dX9_where_150 : decode cX9_where 150 = .ok (.istore 6, 2) := by decide +kernel
theorem dX9_where_152 : decode cX9_where 152 = .ok (.iload 8, 2) := by decide +kernel
theorem dX9_where_154 : decode cX9_where 154 = .ok (.istore 7, 2) := by decide +kernel
theorem dX9_where_156 : decode cX9_where 156 = .ok (.iinc 9 1, 3) := by decide +kernel
theorem dX9_where_159 : decode cX9_where 159 = .ok (.goto (-55), 3) := by decide +kernel
theorem dX9_where_162 : decode cX9_where 162 = .ok (.iinc 8 1, 3) := by decide +kernel
theorem dX9_where_165 : decode cX9_where 165 = .ok (.goto (-78), 3) := by decide +kernel
theorem dX9_where_168 : decode cX9_where 168 = .ok (.iload 4, 2) := by decide +kernel
theorem dX9_where_170 : decode cX9_where 170 = .ok (.ifCond .ne 8, 3) := by decide +kernel
theorem dX9_where_173 : decode cX9_where 173 = .ok (.iload 5, 2) := by decide +kernel
theorem dX9_where_175 : decode cX9_where 175 = .ok (.goto 16, 3) := by decide +kernel
theorem dX9_where_178 : decode cX9_where 178 = .ok (.iload 4, 2) := by decide +kernel
theorem dX9_where_180 : decode cX9_where 180 = .ok (.iconst 1, 1) := by decide +kernel
theorem dX9_where_181 : decode cX9_where 181 = .ok (.if_icmp .ne 8, 3) := by decide +kernel
theorem dX9_where_184 : decode cX9_where 184 = .ok (.iload 6, 2) := by decide +kernel
theorem dX9_where_186 : decode cX9_where 186 = .ok (.goto 5, 3) := by decide +kernel
theorem dX9_where_189 : decode cX9_where 189 = .ok (.iload 7, 2) := by decide +kernel
theorem dX9_where_191 : decode cX9_where 191 = .ok (.ireturn, 1) := by decide +kernel
theorem dX9_cut_0 : decode cX9_cut 0 = .ok (.aload_n 0, 1) := by decide +kernel
theorem dX9_cut_1 : decode cX9_cut 1 = .ok (.getfield 78, 3) := by decide +kernel
theorem dX9_cut_4 : decode cX9_cut 4 = .ok (.invokevirtual 268, 3) := by decide +kernel
theorem dX9_cut_7 : decode cX9_cut 7 = .ok (.aload_n 0, 1) := by decide +kernel
theorem dX9_cut_8 : decode cX9_cut 8 = .ok (.getfield 78, 3) := by decide +kernel
theorem dX9_cut_11 : decode cX9_cut 11 = .ok (.iload_n 1, 1) := by decide +kernel
theorem dX9_cut_12 : decode cX9_cut 12 = .ok (.invokevirtual 269, 3) := by decide +kernel
theorem dX9_cut_15 : decode cX9_cut 15 = .ok (.istore 5, 2) := by decide +kernel
theorem dX9_cut_17 : decode cX9_cut 17 = .ok (.iload 5, 2) := by decide +kernel
theorem dX9_cut_19 : decode cX9_cut 19 = .ok (.ifCond .eq 22, 3) := by decide +kernel
theorem dX9_cut_22 : decode cX9_cut 22 = .ok (.iload_n 2, 1) := by decide +kernel
theorem dX9_cut_23 : decode cX9_cut 23 = .ok (.ifCond .eq 14, 3) := by decide +kernel
theorem dX9_cut_26 : decode cX9_cut 26 = .ok (.aload_n 0, 1) := by decide +kernel
theorem dX9_cut_27 : decode cX9_cut 27 = .ok (.getfield 78, 3) := by decide +kernel
theorem dX9_cut_30 : decode cX9_cut 30 = .ok (.iload_n 2, 1) := by decide +kernel
theorem dX9_cut_31 : decode cX9_cut 31 = .ok (.invokevirtual 269, 3) := by decide +kernel
theorem dX9_cut_34 : decode cX9_cut 34 = .ok (.ifCond .eq 7, 3) := by decide +kernel
theorem dX9_cut_37 : decode cX9_cut 37 = .ok (.iconst 1, 1) := by decide +kernel
theorem dX9_cut_38 : decode cX9_cut 38 = .ok (.goto 4, 3) := by decide +kernel
theorem dX9_cut_41 : decode cX9_cut 41 = .ok (.iconst 0, 1) := by decide +kernel
theorem dX9_cut_42 : decode cX9_cut 42 = .ok (.istore 5, 2) := by decide +kernel
theorem dX9_cut_44 : decode cX9_cut 44 = .ok (.iload 5, 2) := by decide +kernel
theorem dX9_cut_46 : decode cX9_cut 46 = .ok (.ifCond .eq 26, 3) := by decide +kernel
theorem dX9_cut_49 : decode cX9_cut 49 = .ok (.iload_n 3, 1) := by decide +kernel
theorem dX9_cut_50 : decode cX9_cut 50 = .ok (.ifCond .eq 18, 3) := by decide +kernel
theorem dX9_cut_53 : decode cX9_cut 53 = .ok (.iload_n 2, 1) := by decide +kernel
theorem dX9_cut_54 : decode cX9_cut 54 = .ok (.ifCond .eq 18, 3) := by decide +kernel
theorem dX9_cut_57 : decode cX9_cut 57 = .ok (.aload_n 0, 1) := by decide +kernel
theorem dX9_cut_58 : decode cX9_cut 58 = .ok (.getfield 78, 3) := by decide +kernel
theorem dX9_cut_61 : decode cX9_cut 61 = .ok (.iload_n 3, 1) := by decide +kernel
theorem dX9_cut_62 : decode cX9_cut 62 = .ok (.invokevirtual 269, 3) := by decide +kernel
theorem dX9_cut_65 : decode cX9_cut 65 = .ok (.ifCond .eq 7, 3) := by decide +kernel
theorem dX9_cut_68 : decode cX9_cut 68 = .ok (.iconst 1, 1) := by decide +kernel
theorem dX9_cut_69 : decode cX9_cut 69 = .ok (.goto 4, 3) := by decide +kernel
theorem dX9_cut_72 : decode cX9_cut 72 = .ok (.iconst 0, 1) := by decide +kernel
theorem dX9_cut_73 : decode cX9_cut 73 = .ok (.istore 5, 2) := by decide +kernel
theorem dX9_cut_75 : decode cX9_cut 75 = .ok (.iload 5, 2) := by decide +kernel
theorem dX9_cut_77 : decode cX9_cut 77 = .ok (.ifCond .eq 28, 3) := by decide +kernel
theorem dX9_cut_80 : decode cX9_cut 80 = .ok (.iload 4, 2) := by decide +kernel
theorem dX9_cut_82 : decode cX9_cut 82 = .ok (.ifCond .eq 19, 3) := by decide +kernel
theorem dX9_cut_85 : decode cX9_cut 85 = .ok (.iload_n 3, 1) := by decide +kernel
theorem dX9_cut_86 : decode cX9_cut 86 = .ok (.ifCond .eq 19, 3) := by decide +kernel
theorem dX9_cut_89 : decode cX9_cut 89 = .ok (.aload_n 0, 1) := by decide +kernel
theorem dX9_cut_90 : decode cX9_cut 90 = .ok (.getfield 78, 3) := by decide +kernel
theorem dX9_cut_93 : decode cX9_cut 93 = .ok (.iload 4, 2) := by decide +kernel
theorem dX9_cut_95 : decode cX9_cut 95 = .ok (.invokevirtual 269, 3) := by decide +kernel
theorem dX9_cut_98 : decode cX9_cut 98 = .ok (.ifCond .eq 7, 3) := by decide +kernel
theorem dX9_cut_101 : decode cX9_cut 101 = .ok (.iconst 1, 1) := by decide +kernel
theorem dX9_cut_102 : decode cX9_cut 102 = .ok (.goto 4, 3) := by decide +kernel
theorem dX9_cut_105 : decode cX9_cut 105 = .ok (.iconst 0, 1) := by decide +kernel
theorem dX9_cut_106 : decode cX9_cut 106 = .ok (.istore 5, 2) := by decide +kernel
theorem dX9_cut_108 : decode cX9_cut 108 = .ok (.iload 5, 2) := by decide +kernel
theorem dX9_cut_110 : decode cX9_cut 110 = .ok (.ifCond .eq 13, 3) := by decide +kernel
theorem dX9_cut_113 : decode cX9_cut 113 = .ok (.aload_n 0, 1) := by decide +kernel
theorem dX9_cut_114 : decode cX9_cut 114 = .ok (.getfield 78, 3) := by decide +kernel
theorem dX9_cut_117 : decode cX9_cut 117 = .ok (.invokevirtual 272, 3) := by decide +kernel
theorem dX9_cut_120 : decode cX9_cut 120 = .ok (.goto 4, 3) := by decide +kernel
theorem dX9_cut_123 : decode cX9_cut 123 = .ok (.iconst (-1), 1) := by decide +kernel
theorem dX9_cut_124 : decode cX9_cut 124 = .ok (.ireturn, 1) := by decide +kernel
theorem dX9_serve_0 : decode cX9_serve 0 = .ok (.iload_n 1, 1) := by decide +kernel
theorem dX9_serve_1 : decode cX9_serve 1 = .ok (.iload_n 2, 1) := by decide +kernel
theorem dX9_serve_2 : decode cX9_serve 2 = .ok (.invokestatic 275, 3) := by decide +kernel
theorem dX9_serve_5 : decode cX9_serve 5 = .ok (.ifCond .eq 30, 3) := by decide +kernel
theorem dX9_serve_8 : decode cX9_serve 8 = .ok (.iload_n 1, 1) := by decide +kernel
theorem dX9_serve_9 : decode cX9_serve 9 = .ok (.aload_n 0, 1) := by decide +kernel
theorem dX9_serve_10 : decode cX9_serve 10 = .ok (.getfield 30, 3) := by decide +kernel
theorem dX9_serve_13 : decode cX9_serve 13 = .ok (.invokevirtual 278, 3) := by decide +kernel
theorem dX9_serve_16 : decode cX9_serve 16 = .ok (.if_icmp .gt 19, 3) := by decide +kernel
theorem dX9_serve_19 : decode cX9_serve 19 = .ok (.iload_n 3, 1) := by decide +kernel
theorem dX9_serve_20 : decode cX9_serve 20 = .ok (.iconst (-1), 1) := by decide +kernel
theorem dX9_serve_21 : decode cX9_serve 21 = .ok (.if_icmp .lt 14, 3) := by decide +kernel
theorem dX9_serve_24 : decode cX9_serve 24 = .ok (.iload_n 3, 1) := by decide +kernel
theorem dX9_serve_25 : decode cX9_serve 25 = .ok (.aload_n 0, 1) := by decide +kernel
theorem dX9_serve_26 : decode cX9_serve 26 = .ok (.getfield 30, 3) := by decide +kernel
theorem dX9_serve_29 : decode cX9_serve 29 = .ok (.getfield 175, 3) := by decide +kernel
theorem dX9_serve_32 : decode cX9_serve 32 = .ok (.if_icmp .lt 5, 3) := by decide +kernel
theorem dX9_serve_35 : decode cX9_serve 35 = .ok (.iconst (-1), 1) := by decide +kernel
theorem dX9_serve_36 : decode cX9_serve 36 = .ok (.ireturn, 1) := by decide +kernel
theorem dX9_serve_37 : decode cX9_serve 37 = .ok (.aload_n 0, 1) := by decide +kernel
theorem dX9_serve_38 : decode cX9_serve 38 = .ok (.getfield 30, 3) := by decide +kernel
theorem dX9_serve_41 : decode cX9_serve 41 = .ok (.getfield 175, 3) := by decide +kernel
theorem dX9_serve_44 : decode cX9_serve 44 = .ok (.aload_n 0, 1) := by decide +kernel
theorem dX9_serve_45 : decode cX9_serve 45 = .ok (.getfield 30, 3) := by decide +kernel
theorem dX9_serve_48 : decode cX9_serve 48 = .ok (.getfield 172, 3) := by decide +kernel
theorem dX9_serve_51 : decode cX9_serve 51 = .ok (.if_icmp .le 6, 3) := by decide +kernel
theorem dX9_serve_54 : decode cX9_serve 54 = .ok (.bipush (-2), 2) := by decide +kernel
theorem dX9_serve_56 : decode cX9_serve 56 = .ok (.ireturn, 1) := by decide +kernel
theorem dX9_serve_57 : decode cX9_serve 57 = .ok (.iconst 0, 1) := by decide +kernel
theorem dX9_serve_58 : decode cX9_serve 58 = .ok (.istore 4, 2) := by decide +kernel
theorem dX9_serve_60 : decode cX9_serve 60 = .ok (.iload 4, 2) := by decide +kernel
theorem dX9_serve_62 : decode cX9_serve 62 = .ok (.aload_n 0, 1) := by decide +kernel
theorem dX9_serve_63 : decode cX9_serve 63 = .ok (.getfield 30, 3) := by decide +kernel
theorem dX9_serve_66 : decode cX9_serve 66 = .ok (.getfield 175, 3) := by decide +kernel
theorem dX9_serve_69 : decode cX9_serve 69 = .ok (.if_icmp .ge 24, 3) := by decide +kernel
theorem dX9_serve_72 : decode cX9_serve 72 = .ok (.aload_n 0, 1) := by decide +kernel
theorem dX9_serve_73 : decode cX9_serve 73 = .ok (.getfield 82, 3) := by decide +kernel
theorem dX9_serve_76 : decode cX9_serve 76 = .ok (.iload 4, 2) := by decide +kernel
theorem dX9_serve_78 : decode cX9_serve 78 = .ok (.aload_n 0, 1) := by decide +kernel
theorem dX9_serve_79 : decode cX9_serve 79 = .ok (.iload 4, 2) := by decide +kernel
theorem dX9_serve_81 : decode cX9_serve 81 = .ok (.iload_n 1, 1) := by decide +kernel
theorem dX9_serve_82 : decode cX9_serve 82 = .ok (.iload_n 2, 1) := by decide +kernel
theorem dX9_serve_83 : decode cX9_serve 83 = .ok (.invokevirtual 281, 3) := by decide +kernel
theorem dX9_serve_86 : decode cX9_serve 86 = .ok (.iastore, 1) := by decide +kernel
theorem dX9_serve_87 : decode cX9_serve 87 = .ok (.iinc 4 1, 3) := by decide +kernel
theorem dX9_serve_90 : decode cX9_serve 90 = .ok (.goto (-30), 3) := by decide +kernel
theorem dX9_serve_93 : decode cX9_serve 93 = .ok (.aload_n 0, 1) := by decide +kernel
theorem dX9_serve_94 : decode cX9_serve 94 = .ok (.iload_n 3, 1) := by decide +kernel
theorem dX9_serve_95 : decode cX9_serve 95 = .ok (.invokevirtual 285, 3) := by decide +kernel
theorem dX9_serve_98 : decode cX9_serve 98 = .ok (.ireturn, 1) := by decide +kernel
theorem dX9_bestService_0 : decode cX9_bestService 0 = .ok (.iconst 1, 1) := by decide +kernel
theorem dX9_bestService_1 : decode cX9_bestService 1 = .ok (.istore_n 2, 1) := by decide +kernel
theorem dX9_bestService_2 : decode cX9_bestService 2 = .ok (.iconst 0, 1) := by decide +kernel
theorem dX9_bestService_3 : decode cX9_bestService 3 = .ok (.istore_n 3, 1) := by decide +kernel
theorem dX9_bestService_4 : decode cX9_bestService 4 = .ok (.iload_n 3, 1) := by decide +kernel
theorem dX9_bestService_5 : decode cX9_bestService 5 = .ok (.aload_n 0, 1) := by decide +kernel
theorem dX9_bestService_6 : decode cX9_bestService 6 = .ok (.getfield 30, 3) := by decide +kernel
theorem dX9_bestService_9 : decode cX9_bestService 9 = .ok (.getfield 175, 3) := by decide +kernel
theorem dX9_bestService_12 : decode cX9_bestService 12 = .ok (.if_icmp .ge 19, 3) := by decide +kernel
theorem dX9_bestService_15 : decode cX9_bestService 15 = .ok (.iload_n 2, 1) := by decide +kernel
theorem dX9_bestService_16 : decode cX9_bestService 16 = .ok (.aload_n 0, 1) := by decide +kernel
theorem dX9_bestService_17 : decode cX9_bestService 17 = .ok (.getfield 30, 3) := by decide +kernel
theorem dX9_bestService_20 : decode cX9_bestService 20 = .ok (.getfield 172, 3) := by decide +kernel
theorem dX9_bestService_23 : decode cX9_bestService 23 = .ok (.imul, 1) := by decide +kernel
theorem dX9_bestService_24 : decode cX9_bestService 24 = .ok (.istore_n 2, 1) := by decide +kernel
theorem dX9_bestService_25 : decode cX9_bestService 25 = .ok (.iinc 3 1, 3) := by decide +kernel
theorem dX9_bestService_28 : decode cX9_bestService 28 = .ok (.goto (-24), 3) := by decide +kernel
theorem dX9_bestService_31 : decode cX9_bestService 31 = .ok (.iconst 0, 1) := by decide +kernel
theorem dX9_bestService_32 : decode cX9_bestService 32 = .ok (.istore_n 3, 1) := by decide +kernel
theorem dX9_bestService_33 : decode cX9_bestService 33 = .ok (.ldc_w 288, 3) := by decide +kernel
theorem dX9_bestService_36 : decode cX9_bestService 36 = .ok (.istore 4, 2) := by decide +kernel
theorem dX9_bestService_38 : decode cX9_bestService 38 = .ok (.iconst 0, 1) := by decide +kernel
theorem dX9_bestService_39 : decode cX9_bestService 39 = .ok (.istore 5, 2) := by decide +kernel
theorem dX9_bestService_41 : decode cX9_bestService 41 = .ok (.iload 5, 2) := by decide +kernel
theorem dX9_bestService_43 : decode cX9_bestService 43 = .ok (.iload_n 2, 1) := by decide +kernel
theorem dX9_bestService_44 : decode cX9_bestService 44 = .ok (.if_icmp .ge 36, 3) := by decide +kernel
theorem dX9_bestService_47 : decode cX9_bestService 47 = .ok (.aload_n 0, 1) := by decide +kernel
theorem dX9_bestService_48 : decode cX9_bestService 48 = .ok (.iload 5, 2) := by decide +kernel
theorem dX9_bestService_50 : decode cX9_bestService 50 = .ok (.invokevirtual 289, 3) := by decide +kernel
theorem dX9_bestService_53 : decode cX9_bestService 53 = .ok (.istore 6, 2) := by decide +kernel
theorem dX9_bestService_55 : decode cX9_bestService 55 = .ok (.iload 6, 2) := by decide +kernel
theorem dX9_bestService_57 : decode cX9_bestService 57 = .ok (.ifCond .lt 17, 3) := by decide +kernel
theorem dX9_bestService_60 : decode cX9_bestService 60 = .ok (.iload 6, 2) := by decide +kernel
theorem dX9_bestService_62 : decode cX9_bestService 62 = .ok (.iload 4, 2) := by decide +kernel
theorem dX9_bestService_64 : decode cX9_bestService 64 = .ok (.if_icmp .ge 10, 3) := by decide +kernel
theorem dX9_bestService_67 : decode cX9_bestService 67 = .ok (.iload 6, 2) := by decide +kernel
theorem dX9_bestService_69 : decode cX9_bestService 69 = .ok (.istore 4, 2) := by decide +kernel
theorem dX9_bestService_71 : decode cX9_bestService 71 = .ok (.iload 5, 2) := by decide +kernel
theorem dX9_bestService_73 : decode cX9_bestService 73 = .ok (.istore_n 3, 1) := by decide +kernel
theorem dX9_bestService_74 : decode cX9_bestService 74 = .ok (.iinc 5 1, 3) := by decide +kernel
theorem dX9_bestService_77 : decode cX9_bestService 77 = .ok (.goto (-36), 3) := by decide +kernel
theorem dX9_bestService_80 : decode cX9_bestService 80 = .ok (.iload_n 1, 1) := by decide +kernel
theorem dX9_bestService_81 : decode cX9_bestService 81 = .ok (.iconst (-1), 1) := by decide +kernel
theorem dX9_bestService_82 : decode cX9_bestService 82 = .ok (.if_icmp .ne 8, 3) := by decide +kernel
theorem dX9_bestService_85 : decode cX9_bestService 85 = .ok (.iload 4, 2) := by decide +kernel
theorem dX9_bestService_87 : decode cX9_bestService 87 = .ok (.goto 9, 3) := by decide +kernel
theorem dX9_bestService_90 : decode cX9_bestService 90 = .ok (.aload_n 0, 1) := by decide +kernel
theorem dX9_bestService_91 : decode cX9_bestService 91 = .ok (.iload_n 3, 1) := by decide +kernel
theorem dX9_bestService_92 : decode cX9_bestService 92 = .ok (.iload_n 1, 1) := by decide +kernel
theorem dX9_bestService_93 : decode cX9_bestService 93 = .ok (.invokevirtual 292, 3) := by decide +kernel
theorem dX9_bestService_96 : decode cX9_bestService 96 = .ok (.ireturn, 1) := by decide +kernel
theorem dX9_servedBy_0 : decode cX9_servedBy 0 = .ok (.iload_n 1, 1) := by decide +kernel
theorem dX9_servedBy_1 : decode cX9_servedBy 1 = .ok (.istore_n 3, 1) := by decide +kernel
theorem dX9_servedBy_2 : decode cX9_servedBy 2 = .ok (.aload_n 0, 1) := by decide +kernel
theorem dX9_servedBy_3 : decode cX9_servedBy 3 = .ok (.getfield 30, 3) := by decide +kernel
theorem dX9_servedBy_6 : decode cX9_servedBy 6 = .ok (.getfield 175, 3) := by decide +kernel
theorem dX9_servedBy_9 : decode cX9_servedBy 9 = .ok (.iconst 1, 1) := by decide +kernel
theorem dX9_servedBy_10 : decode cX9_servedBy 10 = .ok (.isub, 1) := by decide +kernel
theorem dX9_servedBy_11 : decode cX9_servedBy 11 = .ok (.istore 4, 2) := by decide +kernel
theorem dX9_servedBy_13 : decode cX9_servedBy 13 = .ok (.iload 4, 2) := by decide +kernel
theorem dX9_servedBy_15 : decode cX9_servedBy 15 = .ok (.iload_n 2, 1) := by decide +kernel
theorem dX9_servedBy_16 : decode cX9_servedBy 16 = .ok (.if_icmp .le 29, 3) := by decide +kernel
theorem dX9_servedBy_19 : decode cX9_servedBy 19 = .ok (.aload_n 0, 1) := by decide +kernel
theorem dX9_servedBy_20 : decode cX9_servedBy 20 = .ok (.getfield 30, 3) := by decide +kernel
theorem dX9_servedBy_23 : decode cX9_servedBy 23 = .ok (.getfield 172, 3) := by decide +kernel
theorem dX9_servedBy_26 : decode cX9_servedBy 26 = .ok (.ifCond .le 19, 3) := by decide +kernel
theorem dX9_servedBy_29 : decode cX9_servedBy 29 = .ok (.iload_n 3, 1) := by decide +kernel
theorem dX9_servedBy_30 : decode cX9_servedBy 30 = .ok (.aload_n 0, 1) := by decide +kernel
theorem dX9_servedBy_31 : decode cX9_servedBy 31 = .ok (.getfield 30, 3) := by decide +kernel
theorem dX9_servedBy_34 : decode cX9_servedBy 34 = .ok (.getfield 172, 3) := by decide +kernel
theorem dX9_servedBy_37 : decode cX9_servedBy 37 = .ok (.idiv, 1) := by decide +kernel
theorem dX9_servedBy_38 : decode cX9_servedBy 38 = .ok (.istore_n 3, 1) := by decide +kernel
theorem dX9_servedBy_39 : decode cX9_servedBy 39 = .ok (.iinc 4 (-1), 3) := by decide +kernel
theorem dX9_servedBy_42 : decode cX9_servedBy 42 = .ok (.goto (-29), 3) := by decide +kernel
theorem dX9_servedBy_45 : decode cX9_servedBy 45 = .ok (.aload_n 0, 1) := by decide +kernel
theorem dX9_servedBy_46 : decode cX9_servedBy 46 = .ok (.getfield 30, 3) := by decide +kernel
theorem dX9_servedBy_49 : decode cX9_servedBy 49 = .ok (.getfield 172, 3) := by decide +kernel
theorem dX9_servedBy_52 : decode cX9_servedBy 52 = .ok (.ifCond .le 15, 3) := by decide +kernel
theorem dX9_servedBy_55 : decode cX9_servedBy 55 = .ok (.iload_n 3, 1) := by decide +kernel
theorem dX9_servedBy_56 : decode cX9_servedBy 56 = .ok (.aload_n 0, 1) := by decide +kernel
theorem dX9_servedBy_57 : decode cX9_servedBy 57 = .ok (.getfield 30, 3) := by decide +kernel
theorem dX9_servedBy_60 : decode cX9_servedBy 60 = .ok (.getfield 172, 3) := by decide +kernel
theorem dX9_servedBy_63 : decode cX9_servedBy 63 = .ok (.irem, 1) := by decide +kernel
theorem dX9_servedBy_64 : decode cX9_servedBy 64 = .ok (.goto 4, 3) := by decide +kernel
theorem dX9_servedBy_67 : decode cX9_servedBy 67 = .ok (.iconst 0, 1) := by decide +kernel
theorem dX9_servedBy_68 : decode cX9_servedBy 68 = .ok (.ireturn, 1) := by decide +kernel
theorem dX9_serviceSum_0 : decode cX9_serviceSum 0 = .ok (.iconst 0, 1) := by decide +kernel
theorem dX9_serviceSum_1 : decode cX9_serviceSum 1 = .ok (.istore_n 2, 1) := by decide +kernel
theorem dX9_serviceSum_2 : decode cX9_serviceSum 2 = .ok (.iconst 0, 1) := by decide +kernel
theorem dX9_serviceSum_3 : decode cX9_serviceSum 3 = .ok (.istore_n 3, 1) := by decide +kernel
theorem dX9_serviceSum_4 : decode cX9_serviceSum 4 = .ok (.iload_n 1, 1) := by decide +kernel
theorem dX9_serviceSum_5 : decode cX9_serviceSum 5 = .ok (.istore 4, 2) := by decide +kernel
theorem dX9_serviceSum_7 : decode cX9_serviceSum 7 = .ok (.aload_n 0, 1) := by decide +kernel
theorem dX9_serviceSum_8 : decode cX9_serviceSum 8 = .ok (.getfield 30, 3) := by decide +kernel
theorem dX9_serviceSum_11 : decode cX9_serviceSum 11 = .ok (.getfield 175, 3) := by decide +kernel
theorem dX9_serviceSum_14 : decode cX9_serviceSum 14 = .ok (.iconst 1, 1) := by decide +kernel
theorem dX9_serviceSum_15 : decode cX9_serviceSum 15 = .ok (.isub, 1) := by decide +kernel
theorem dX9_serviceSum_16 : decode cX9_serviceSum 16 = .ok (.istore 5, 2) := by decide +kernel
theorem dX9_serviceSum_18 : decode cX9_serviceSum 18 = .ok (.iload 5, 2) := by decide +kernel
theorem dX9_serviceSum_20 : decode cX9_serviceSum 20 = .ok (.ifCond .lt 84, 3) := by decide +kernel
theorem dX9_serviceSum_23 : decode cX9_serviceSum 23 = .ok (.aload_n 0, 1) := by decide +kernel
theorem dX9_serviceSum_24 : decode cX9_serviceSum 24 = .ok (.getfield 30, 3) := by decide +kernel
theorem dX9_serviceSum_27 : decode cX9_serviceSum 27 = .ok (.getfield 172, 3) := by decide +kernel
theorem dX9_serviceSum_30 : decode cX9_serviceSum 30 = .ok (.ifCond .le 74, 3) := by decide +kernel
theorem dX9_serviceSum_33 : decode cX9_serviceSum 33 = .ok (.iload 4, 2) := by decide +kernel
theorem dX9_serviceSum_35 : decode cX9_serviceSum 35 = .ok (.aload_n 0, 1) := by decide +kernel
theorem dX9_serviceSum_36 : decode cX9_serviceSum 36 = .ok (.getfield 30, 3) := by decide +kernel
theorem dX9_serviceSum_39 : decode cX9_serviceSum 39 = .ok (.getfield 172, 3) := by decide +kernel
theorem dX9_serviceSum_42 : decode cX9_serviceSum 42 = .ok (.irem, 1) := by decide +kernel
theorem dX9_serviceSum_43 : decode cX9_serviceSum 43 = .ok (.istore 6, 2) := by decide +kernel
theorem dX9_serviceSum_45 : decode cX9_serviceSum 45 = .ok (.iload 4, 2) := by decide +kernel
theorem dX9_serviceSum_47 : decode cX9_serviceSum 47 = .ok (.aload_n 0, 1) := by decide +kernel
theorem dX9_serviceSum_48 : decode cX9_serviceSum 48 = .ok (.getfield 30, 3) := by decide +kernel
theorem dX9_serviceSum_51 : decode cX9_serviceSum 51 = .ok (.getfield 172, 3) := by decide +kernel
theorem dX9_serviceSum_54 : decode cX9_serviceSum 54 = .ok (.idiv, 1) := by decide +kernel
theorem dX9_serviceSum_55 : decode cX9_serviceSum 55 = .ok (.istore 4, 2) := by decide +kernel
theorem dX9_serviceSum_57 : decode cX9_serviceSum 57 = .ok (.iload_n 3, 1) := by decide +kernel
theorem dX9_serviceSum_58 : decode cX9_serviceSum 58 = .ok (.iload 6, 2) := by decide +kernel
theorem dX9_serviceSum_60 : decode cX9_serviceSum 60 = .ok (.ishr, 1) := by decide +kernel
theorem dX9_serviceSum_61 : decode cX9_serviceSum 61 = .ok (.iconst 1, 1) := by decide +kernel
theorem dX9_serviceSum_62 : decode cX9_serviceSum 62 = .ok (.iand, 1) := by decide +kernel
theorem dX9_serviceSum_63 : decode cX9_serviceSum 63 = .ok (.ifCond .eq 5, 3) := by decide +kernel
theorem dX9_serviceSum_66 : decode cX9_serviceSum 66 = .ok (.iconst (-1), 1) := by decide +kernel
theorem dX9_serviceSum_67 : decode cX9_serviceSum 67 = .ok (.ireturn, 1) := by decide +kernel
theorem dX9_serviceSum_68 : decode cX9_serviceSum 68 = .ok (.iload_n 3, 1) := by decide +kernel
theorem dX9_serviceSum_69 : decode cX9_serviceSum 69 = .ok (.iconst 1, 1) := by decide +kernel
theorem dX9_serviceSum_70 : decode cX9_serviceSum 70 = .ok (.iload 6, 2) := by decide +kernel
theorem dX9_serviceSum_72 : decode cX9_serviceSum 72 = .ok (.ishl, 1) := by decide +kernel
theorem dX9_serviceSum_73 : decode cX9_serviceSum 73 = .ok (.ior, 1) := by decide +kernel
theorem dX9_serviceSum_74 : decode cX9_serviceSum 74 = .ok (.istore_n 3, 1) := by decide +kernel
theorem dX9_serviceSum_75 : decode cX9_serviceSum 75 = .ok (.iload_n 2, 1) := by decide +kernel
theorem dX9_serviceSum_76 : decode cX9_serviceSum 76 = .ok (.aload_n 0, 1) := by decide +kernel
theorem dX9_serviceSum_77 : decode cX9_serviceSum 77 = .ok (.getfield 82, 3) := by decide +kernel
theorem dX9_serviceSum_80 : decode cX9_serviceSum 80 = .ok (.iload 5, 2) := by decide +kernel
theorem dX9_serviceSum_82 : decode cX9_serviceSum 82 = .ok (.iaload, 1) := by decide +kernel
theorem dX9_serviceSum_83 : decode cX9_serviceSum 83 = .ok (.aload_n 0, 1) := by decide +kernel
theorem dX9_serviceSum_84 : decode cX9_serviceSum 84 = .ok (.getfield 30, 3) := by decide +kernel
theorem dX9_serviceSum_87 : decode cX9_serviceSum 87 = .ok (.iload 6, 2) := by decide +kernel
theorem dX9_serviceSum_89 : decode cX9_serviceSum 89 = .ok (.invokevirtual 141, 3) := by decide +kernel
theorem dX9_serviceSum_92 : decode cX9_serviceSum 92 = .ok (.isub, 1) := by decide +kernel
theorem dX9_serviceSum_93 : decode cX9_serviceSum 93 = .ok (.invokestatic 295, 3) := by decide +kernel
theorem dX9_serviceSum_96 : decode cX9_serviceSum 96 = .ok (.iadd, 1) := by decide +kernel
theorem dX9_serviceSum_97 : decode cX9_serviceSum 97 = .ok (.istore_n 2, 1) := by decide +kernel
theorem dX9_serviceSum_98 : decode cX9_serviceSum 98 = .ok (.iinc 5 (-1), 3) := by decide +kernel
theorem dX9_serviceSum_101 : decode cX9_serviceSum 101 = .ok (.goto (-83), 3) := by decide +kernel
theorem dX9_serviceSum_104 : decode cX9_serviceSum 104 = .ok (.iload_n 2, 1) := by decide +kernel
theorem dX9_serviceSum_105 : decode cX9_serviceSum 105 = .ok (.ireturn, 1) := by decide +kernel
theorem dX9_suits_0 : decode cX9_suits 0 = .ok (.aload_n 0, 1) := by decide +kernel
theorem dX9_suits_1 : decode cX9_suits 1 = .ok (.getfield 30, 3) := by decide +kernel
theorem dX9_suits_4 : decode cX9_suits 4 = .ok (.iload_n 1, 1) := by decide +kernel
theorem dX9_suits_5 : decode cX9_suits 5 = .ok (.invokevirtual 124, 3) := by decide +kernel
theorem dX9_suits_8 : decode cX9_suits 8 = .ok (.ifCond .eq 11, 3) := by decide +kernel
theorem dX9_suits_11 : decode cX9_suits 11 = .ok (.iload_n 2, 1) := by decide +kernel
theorem dX9_suits_12 : decode cX9_suits 12 = .ok (.iload_n 3, 1) := by decide +kernel
theorem dX9_suits_13 : decode cX9_suits 13 = .ok (.invokestatic 275, 3) := by decide +kernel
theorem dX9_suits_16 : decode cX9_suits 16 = .ok (.ifCond .ne 5, 3) := by decide +kernel
theorem dX9_suits_19 : decode cX9_suits 19 = .ok (.iconst (-1), 1) := by decide +kernel
theorem dX9_suits_20 : decode cX9_suits 20 = .ok (.ireturn, 1) := by decide +kernel
theorem dX9_suits_21 : decode cX9_suits 21 = .ok (.aload_n 0, 1) := by decide +kernel
theorem dX9_suits_22 : decode cX9_suits 22 = .ok (.getfield 30, 3) := by decide +kernel
theorem dX9_suits_25 : decode cX9_suits 25 = .ok (.iload_n 1, 1) := by decide +kernel
theorem dX9_suits_26 : decode cX9_suits 26 = .ok (.invokevirtual 141, 3) := by decide +kernel
theorem dX9_suits_29 : decode cX9_suits 29 = .ok (.istore 4, 2) := by decide +kernel
theorem dX9_suits_31 : decode cX9_suits 31 = .ok (.bipush (-2), 2) := by decide +kernel
theorem dX9_suits_33 : decode cX9_suits 33 = .ok (.istore 5, 2) := by decide +kernel
theorem dX9_suits_35 : decode cX9_suits 35 = .ok (.ldc_w 288, 3) := by decide +kernel
theorem dX9_suits_38 : decode cX9_suits 38 = .ok (.istore 6, 2) := by decide +kernel
theorem dX9_suits_40 : decode cX9_suits 40 = .ok (.iconst 0, 1) := by decide +kernel
theorem dX9_suits_41 : decode cX9_suits 41 = .ok (.istore 7, 2) := by decide +kernel
theorem dX9_suits_43 : decode cX9_suits 43 = .ok (.iload 7, 2) := by decide +kernel
theorem dX9_suits_45 : decode cX9_suits 45 = .ok (.aload_n 0, 1) := by decide +kernel
theorem dX9_suits_46 : decode cX9_suits 46 = .ok (.getfield 30, 3) := by decide +kernel
theorem dX9_suits_49 : decode cX9_suits 49 = .ok (.getfield 175, 3) := by decide +kernel
theorem dX9_suits_52 : decode cX9_suits 52 = .ok (.if_icmp .ge 54, 3) := by decide +kernel
theorem dX9_suits_55 : decode cX9_suits 55 = .ok (.iload_n 2, 1) := by decide +kernel
theorem dX9_suits_56 : decode cX9_suits 56 = .ok (.aload_n 0, 1) := by decide +kernel
theorem dX9_suits_57 : decode cX9_suits 57 = .ok (.getfield 30, 3) := by decide +kernel
theorem dX9_suits_60 : decode cX9_suits 60 = .ok (.getfield 151, 3) := by decide +kernel
theorem dX9_suits_63 : decode cX9_suits 63 = .ok (.iload 7, 2) := by decide +kernel
theorem dX9_suits_65 : decode cX9_suits 65 = .ok (.iaload, 1) := by decide +kernel
theorem dX9_suits_66 : decode cX9_suits 66 = .ok (.if_icmp .gt 34, 3) := by decide +kernel
theorem dX9_suits_69 : decode cX9_suits 69 = .ok (.aload_n 0, 1) := by decide +kernel
theorem dX9_suits_70 : decode cX9_suits 70 = .ok (.iload 7, 2) := by decide +kernel
theorem dX9_suits_72 : decode cX9_suits 72 = .ok (.iload_n 2, 1) := by decide +kernel
theorem dX9_suits_73 : decode cX9_suits 73 = .ok (.iload_n 3, 1) := by decide +kernel
theorem dX9_suits_74 : decode cX9_suits 74 = .ok (.invokevirtual 281, 3) := by decide +kernel
theorem dX9_suits_77 : decode cX9_suits 77 = .ok (.iload 4, 2) := by decide +kernel
theorem dX9_suits_79 : decode cX9_suits 79 = .ok (.isub, 1) := by decide +kernel
theorem dX9_suits_80 : decode cX9_suits 80 = .ok (.invokestatic 295, 3) := by decide +kernel
theorem dX9_suits_83 : decode cX9_suits 83 = .ok (.istore 8, 2) := by decide +kernel
theorem dX9_suits_85 : decode cX9_suits 85 = .ok (.iload 8, 2) := by decide +kernel
theorem dX9_suits_87 : decode cX9_suits 87 = .ok (.iload 6, 2) := by decide +kernel
theorem dX9_suits_89 : decode cX9_suits 89 = .ok (.if_icmp .ge 11, 3) := by decide +kernel
theorem dX9_suits_92 : decode cX9_suits 92 = .ok (.iload 8, 2) := by decide +kernel
theorem dX9_suits_94 : decode cX9_suits 94 = .ok (.istore 6, 2) := by decide +kernel
theorem dX9_suits_96 : decode cX9_suits 96 = .ok (.iload 7, 2) := by decide +kernel
theorem dX9_suits_98 : decode cX9_suits 98 = .ok (.istore 5, 2) := by decide +kernel
theorem dX9_suits_100 : decode cX9_suits 100 = .ok (.iinc 7 1, 3) := by decide +kernel
theorem dX9_suits_103 : decode cX9_suits 103 = .ok (.goto (-60), 3) := by decide +kernel
theorem dX9_suits_106 : decode cX9_suits 106 = .ok (.iload 5, 2) := by decide +kernel
theorem dX9_suits_108 : decode cX9_suits 108 = .ok (.ireturn, 1) := by decide +kernel
theorem dX9_isAhead_0 : decode cX9_isAhead 0 = .ok (.iload_n 0, 1) := by decide +kernel
theorem dX9_isAhead_1 : decode cX9_isAhead 1 = .ok (.ifCond .lt 13, 3) := by decide +kernel
theorem dX9_isAhead_4 : decode cX9_isAhead 4 = .ok (.iload_n 0, 1) := by decide +kernel
theorem dX9_isAhead_5 : decode cX9_isAhead 5 = .ok (.bipush 60, 2) := by decide +kernel
theorem dX9_isAhead_7 : decode cX9_isAhead 7 = .ok (.if_icmp .gt 7, 3) := by decide +kernel
theorem dX9_isAhead_10 : decode cX9_isAhead 10 = .ok (.iconst 1, 1) := by decide +kernel
theorem dX9_isAhead_11 : decode cX9_isAhead 11 = .ok (.goto 4, 3) := by decide +kernel
theorem dX9_isAhead_14 : decode cX9_isAhead 14 = .ok (.iconst 0, 1) := by decide +kernel
theorem dX9_isAhead_15 : decode cX9_isAhead 15 = .ok (.ireturn, 1) := by decide +kernel
theorem dX9_then_0 : decode cX9_then 0 = .ok (.aload_n 0, 1) := by decide +kernel
theorem dX9_then_1 : decode cX9_then 1 = .ok (.getfield 30, 3) := by decide +kernel
theorem dX9_then_4 : decode cX9_then 4 = .ok (.iload_n 1, 1) := by decide +kernel
theorem dX9_then_5 : decode cX9_then 5 = .ok (.iload_n 2, 1) := by decide +kernel
theorem dX9_then_6 : decode cX9_then 6 = .ok (.invokevirtual 107, 3) := by decide +kernel
theorem dX9_then_9 : decode cX9_then 9 = .ok (.ifCond .eq 10, 3) := by decide +kernel
theorem dX9_then_12 : decode cX9_then 12 = .ok (.iload_n 3, 1) := by decide +kernel
theorem dX9_then_13 : decode cX9_then 13 = .ok (.invokestatic 298, 3) := by decide +kernel
theorem dX9_then_16 : decode cX9_then 16 = .ok (.ifCond .ne 5, 3) := by decide +kernel
theorem dX9_then_19 : decode cX9_then 19 = .ok (.iconst (-1), 1) := by decide +kernel
theorem dX9_then_20 : decode cX9_then 20 = .ok (.ireturn, 1) := by decide +kernel
theorem dX9_then_21 : decode cX9_then 21 = .ok (.aload_n 0, 1) := by decide +kernel
theorem dX9_then_22 : decode cX9_then 22 = .ok (.getfield 39, 3) := by decide +kernel
theorem dX9_then_25 : decode cX9_then 25 = .ok (.aload_n 0, 1) := by decide +kernel
theorem dX9_then_26 : decode cX9_then 26 = .ok (.getfield 50, 3) := by decide +kernel
theorem dX9_then_29 : decode cX9_then 29 = .ok (.aload_n 0, 1) := by decide +kernel
theorem dX9_then_30 : decode cX9_then 30 = .ok (.getfield 46, 3) := by decide +kernel
theorem dX9_then_33 : decode cX9_then 33 = .ok (.invokevirtual 301, 3) := by decide +kernel
theorem dX9_then_36 : decode cX9_then 36 = .ok (.iload_n 3, 1) := by decide +kernel
theorem dX9_then_37 : decode cX9_then 37 = .ok (.aload_n 0, 1) := by decide +kernel
theorem dX9_then_38 : decode cX9_then 38 = .ok (.getfield 30, 3) := by decide +kernel
theorem dX9_then_41 : decode cX9_then 41 = .ok (.getfield 228, 3) := by decide +kernel
theorem dX9_then_44 : decode cX9_then 44 = .ok (.invokevirtual 231, 3) := by decide +kernel
theorem dX9_then_47 : decode cX9_then 47 = .ok (.aload_n 0, 1) := by decide +kernel
theorem dX9_then_48 : decode cX9_then 48 = .ok (.getfield 50, 3) := by decide +kernel
theorem dX9_then_51 : decode cX9_then 51 = .ok (.iload_n 1, 1) := by decide +kernel
theorem dX9_then_52 : decode cX9_then 52 = .ok (.iload_n 2, 1) := by decide +kernel
theorem dX9_then_53 : decode cX9_then 53 = .ok (.invokevirtual 115, 3) := by decide +kernel
theorem dX9_then_56 : decode cX9_then 56 = .ok (.ireturn, 1) := by decide +kernel
theorem dX9_all_0 : decode cX9_all 0 = .ok (.iload_n 1, 1) := by decide +kernel
theorem dX9_all_1 : decode cX9_all 1 = .ok (.invokestatic 298, 3) := by decide +kernel
theorem dX9_all_4 : decode cX9_all 4 = .ok (.ifCond .eq 12, 3) := by decide +kernel
theorem dX9_all_7 : decode cX9_all 7 = .ok (.iload_n 2, 1) := by decide +kernel
theorem dX9_all_8 : decode cX9_all 8 = .ok (.ifCond .lt 8, 3) := by decide +kernel
theorem dX9_all_11 : decode cX9_all 11 = .ok (.iload_n 2, 1) := by decide +kernel
theorem dX9_all_12 : decode cX9_all 12 = .ok (.iconst 2, 1) := by decide +kernel
theorem dX9_all_13 : decode cX9_all 13 = .ok (.if_icmp .le 5, 3) := by decide +kernel
theorem dX9_all_16 : decode cX9_all 16 = .ok (.iconst (-1), 1) := by decide +kernel
theorem dX9_all_17 : decode cX9_all 17 = .ok (.ireturn, 1) := by decide +kernel
theorem dX9_all_18 : decode cX9_all 18 = .ok (.aload_n 0, 1) := by decide +kernel
theorem dX9_all_19 : decode cX9_all 19 = .ok (.getfield 39, 3) := by decide +kernel
theorem dX9_all_22 : decode cX9_all 22 = .ok (.aload_n 0, 1) := by decide +kernel
theorem dX9_all_23 : decode cX9_all 23 = .ok (.getfield 50, 3) := by decide +kernel
theorem dX9_all_26 : decode cX9_all 26 = .ok (.aload_n 0, 1) := by decide +kernel
theorem dX9_all_27 : decode cX9_all 27 = .ok (.getfield 46, 3) := by decide +kernel
theorem dX9_all_30 : decode cX9_all 30 = .ok (.invokevirtual 301, 3) := by decide +kernel
theorem dX9_all_33 : decode cX9_all 33 = .ok (.iload_n 1, 1) := by decide +kernel
theorem dX9_all_34 : decode cX9_all 34 = .ok (.aload_n 0, 1) := by decide +kernel
theorem dX9_all_35 : decode cX9_all 35 = .ok (.getfield 30, 3) := by decide +kernel
theorem dX9_all_38 : decode cX9_all 38 = .ok (.getfield 228, 3) := by decide +kernel
theorem dX9_all_41 : decode cX9_all 41 = .ok (.invokevirtual 231, 3) := by decide +kernel
theorem dX9_all_44 : decode cX9_all 44 = .ok (.iload_n 2, 1) := by decide +kernel
theorem dX9_all_45 : decode cX9_all 45 = .ok (.lookupswitch 71 #[(0, 27), (1, 49)], 27) := by decide +kernel
theorem dX9_all_72 : decode cX9_all 72 = .ok (.aload_n 0, 1) := by decide +kernel
theorem dX9_all_73 : decode cX9_all 73 = .ok (.getfield 50, 3) := by decide +kernel
theorem dX9_all_76 : decode cX9_all 76 = .ok (.getfield 135, 3) := by decide +kernel
theorem dX9_all_79 : decode cX9_all 79 = .ok (.invokestatic 184, 3) := by decide +kernel
theorem dX9_all_82 : decode cX9_all 82 = .ok (.aload_n 0, 1) := by decide +kernel
theorem dX9_all_83 : decode cX9_all 83 = .ok (.getfield 46, 3) := by decide +kernel
theorem dX9_all_86 : decode cX9_all 86 = .ok (.getfield 135, 3) := by decide +kernel
theorem dX9_all_89 : decode cX9_all 89 = .ok (.invokestatic 184, 3) := by decide +kernel
theorem dX9_all_92 : decode cX9_all 92 = .ok (.isub, 1) := by decide +kernel
theorem dX9_all_93 : decode cX9_all 93 = .ok (.ireturn, 1) := by decide +kernel
theorem dX9_all_94 : decode cX9_all 94 = .ok (.aload_n 0, 1) := by decide +kernel
theorem dX9_all_95 : decode cX9_all 95 = .ok (.getfield 50, 3) := by decide +kernel
theorem dX9_all_98 : decode cX9_all 98 = .ok (.getfield 138, 3) := by decide +kernel
theorem dX9_all_101 : decode cX9_all 101 = .ok (.invokestatic 184, 3) := by decide +kernel
theorem dX9_all_104 : decode cX9_all 104 = .ok (.aload_n 0, 1) := by decide +kernel
theorem dX9_all_105 : decode cX9_all 105 = .ok (.getfield 46, 3) := by decide +kernel
theorem dX9_all_108 : decode cX9_all 108 = .ok (.getfield 138, 3) := by decide +kernel
theorem dX9_all_111 : decode cX9_all 111 = .ok (.invokestatic 184, 3) := by decide +kernel
theorem dX9_all_114 : decode cX9_all 114 = .ok (.isub, 1) := by decide +kernel
theorem dX9_all_115 : decode cX9_all 115 = .ok (.ireturn, 1) := by decide +kernel
theorem dX9_all_116 : decode cX9_all 116 = .ok (.aload_n 0, 1) := by decide +kernel
theorem dX9_all_117 : decode cX9_all 117 = .ok (.getfield 50, 3) := by decide +kernel
theorem dX9_all_120 : decode cX9_all 120 = .ok (.getfield 181, 3) := by decide +kernel
theorem dX9_all_123 : decode cX9_all 123 = .ok (.ireturn, 1) := by decide +kernel
theorem dX9_wettest_0 : decode cX9_wettest 0 = .ok (.iload_n 1, 1) := by decide +kernel
theorem dX9_wettest_1 : decode cX9_wettest 1 = .ok (.invokestatic 298, 3) := by decide +kernel
theorem dX9_wettest_4 : decode cX9_wettest 4 = .ok (.ifCond .eq 12, 3) := by decide +kernel
theorem dX9_wettest_7 : decode cX9_wettest 7 = .ok (.iload_n 2, 1) := by decide +kernel
theorem dX9_wettest_8 : decode cX9_wettest 8 = .ok (.ifCond .lt 8, 3) := by decide +kernel
theorem dX9_wettest_11 : decode cX9_wettest 11 = .ok (.iload_n 2, 1) := by decide +kernel
theorem dX9_wettest_12 : decode cX9_wettest 12 = .ok (.iconst 2, 1) := by decide +kernel
theorem dX9_wettest_13 : decode cX9_wettest 13 = .ok (.if_icmp .le 5, 3) := by decide +kernel
theorem dX9_wettest_16 : decode cX9_wettest 16 = .ok (.iconst (-1), 1) := by decide +kernel
theorem dX9_wettest_17 : decode cX9_wettest 17 = .ok (.ireturn, 1) := by decide +kernel
theorem dX9_wettest_18 : decode cX9_wettest 18 = .ok (.aload_n 0, 1) := by decide +kernel
theorem dX9_wettest_19 : decode cX9_wettest 19 = .ok (.getfield 30, 3) := by decide +kernel
theorem dX9_wettest_22 : decode cX9_wettest 22 = .ok (.iconst 0, 1) := by decide +kernel
theorem dX9_wettest_23 : decode cX9_wettest 23 = .ok (.iconst 0, 1) := by decide +kernel
theorem dX9_wettest_24 : decode cX9_wettest 24 = .ok (.invokevirtual 107, 3) := by decide +kernel
theorem dX9_wettest_27 : decode cX9_wettest 27 = .ok (.ifCond .ne 6, 3) := by decide +kernel
theorem dX9_wettest_30 : decode cX9_wettest 30 = .ok (.bipush (-2), 2) := by decide +kernel
theorem dX9_wettest_32 : decode cX9_wettest 32 = .ok (.ireturn, 1) := by decide +kernel
theorem dX9_wettest_33 : decode cX9_wettest 33 = .ok (.aload_n 0, 1) := by decide +kernel
theorem dX9_wettest_34 : decode cX9_wettest 34 = .ok (.getfield 39, 3) := by decide +kernel
theorem dX9_wettest_37 : decode cX9_wettest 37 = .ok (.aload_n 0, 1) := by decide +kernel
theorem dX9_wettest_38 : decode cX9_wettest 38 = .ok (.getfield 50, 3) := by decide +kernel
theorem dX9_wettest_41 : decode cX9_wettest 41 = .ok (.aload_n 0, 1) := by decide +kernel
theorem dX9_wettest_42 : decode cX9_wettest 42 = .ok (.getfield 46, 3) := by decide +kernel
theorem dX9_wettest_45 : decode cX9_wettest 45 = .ok (.invokevirtual 301, 3) := by decide +kernel
theorem dX9_wettest_48 : decode cX9_wettest 48 = .ok (.iload_n 1, 1) := by decide +kernel
theorem dX9_wettest_49 : decode cX9_wettest 49 = .ok (.aload_n 0, 1) := by decide +kernel
theorem dX9_wettest_50 : decode cX9_wettest 50 = .ok (.getfield 30, 3) := by decide +kernel
theorem dX9_wettest_53 : decode cX9_wettest 53 = .ok (.getfield 228, 3) := by decide +kernel
theorem dX9_wettest_56 : decode cX9_wettest 56 = .ok (.invokevirtual 231, 3) := by decide +kernel
theorem dX9_wettest_59 : decode cX9_wettest 59 = .ok (.iconst 0, 1) := by decide +kernel
theorem dX9_wettest_60 : decode cX9_wettest 60 = .ok (.istore_n 3, 1) := by decide +kernel
theorem dX9_wettest_61 : decode cX9_wettest 61 = .ok (.iconst 1, 1) := by decide +kernel
theorem dX9_wettest_62 : decode cX9_wettest 62 = .ok (.istore 4, 2) := by decide +kernel
theorem dX9_wettest_64 : decode cX9_wettest 64 = .ok (.iload 4, 2) := by decide +kernel
theorem dX9_wettest_66 : decode cX9_wettest 66 = .ok (.bipush 48, 2) := by decide +kernel
theorem dX9_wettest_68 : decode cX9_wettest 68 = .ok (.if_icmp .ge 34, 3) := by decide +kernel
theorem dX9_wettest_71 : decode cX9_wettest 71 = .ok (.aload_n 0, 1) := by decide +kernel
theorem dX9_wettest_72 : decode cX9_wettest 72 = .ok (.getfield 50, 3) := by decide +kernel
theorem dX9_wettest_75 : decode cX9_wettest 75 = .ok (.getfield 160, 3) := by decide +kernel
theorem dX9_wettest_78 : decode cX9_wettest 78 = .ok (.iload 4, 2) := by decide +kernel
theorem dX9_wettest_80 : decode cX9_wettest 80 = .ok (.iaload, 1) := by decide +kernel
theorem dX9_wettest_81 : decode cX9_wettest 81 = .ok (.aload_n 0, 1) := by decide +kernel
theorem dX9_wettest_82 : decode cX9_wettest 82 = .ok (.getfield 50, 3) := by decide +kernel
theorem dX9_wettest_85 : decode cX9_wettest 85 = .ok (.getfield 160, 3) := by decide +kernel
theorem dX9_wettest_88 : decode cX9_wettest 88 = .ok (.iload_n 3, 1) := by decide +kernel
theorem dX9_wettest_89 : decode cX9_wettest 89 = .ok (.iaload, 1) := by decide +kernel
theorem dX9_wettest_90 : decode cX9_wettest 90 = .ok (.if_icmp .le 6, 3) := by decide +kernel
theorem dX9_wettest_93 : decode cX9_wettest 93 = .ok (.iload 4, 2) := by decide +kernel
theorem dX9_wettest_95 : decode cX9_wettest 95 = .ok (.istore_n 3, 1) := by decide +kernel
theorem dX9_wettest_96 : decode cX9_wettest 96 = .ok (.iinc 4 1, 3) := by decide +kernel
theorem dX9_wettest_99 : decode cX9_wettest 99 = .ok (.goto (-35), 3) := by decide +kernel
theorem dX9_wettest_102 : decode cX9_wettest 102 = .ok (.iload_n 2, 1) := by decide +kernel
theorem dX9_wettest_103 : decode cX9_wettest 103 = .ok (.ifCond .ne 15, 3) := by decide +kernel
theorem dX9_wettest_106 : decode cX9_wettest 106 = .ok (.aload_n 0, 1) := by decide +kernel
theorem dX9_wettest_107 : decode cX9_wettest 107 = .ok (.getfield 50, 3) := by decide +kernel
theorem dX9_wettest_110 : decode cX9_wettest 110 = .ok (.getfield 160, 3) := by decide +kernel
theorem dX9_wettest_113 : decode cX9_wettest 113 = .ok (.iload_n 3, 1) := by decide +kernel
theorem dX9_wettest_114 : decode cX9_wettest 114 = .ok (.iaload, 1) := by decide +kernel
theorem dX9_wettest_115 : decode cX9_wettest 115 = .ok (.goto 19, 3) := by decide +kernel
theorem dX9_wettest_118 : decode cX9_wettest 118 = .ok (.iload_n 2, 1) := by decide +kernel
theorem dX9_wettest_119 : decode cX9_wettest 119 = .ok (.iconst 1, 1) := by decide +kernel
theorem dX9_wettest_120 : decode cX9_wettest 120 = .ok (.if_icmp .ne 10, 3) := by decide +kernel
theorem dX9_wettest_123 : decode cX9_wettest 123 = .ok (.iload_n 3, 1) := by decide +kernel
theorem dX9_wettest_124 : decode cX9_wettest 124 = .ok (.bipush 8, 2) := by decide +kernel
theorem dX9_wettest_126 : decode cX9_wettest 126 = .ok (.irem, 1) := by decide +kernel
theorem dX9_wettest_127 : decode cX9_wettest 127 = .ok (.goto 7, 3) := by decide +kernel
theorem dX9_wettest_130 : decode cX9_wettest 130 = .ok (.iload_n 3, 1) := by decide +kernel
theorem dX9_wettest_131 : decode cX9_wettest 131 = .ok (.bipush 8, 2) := by decide +kernel
theorem dX9_wettest_133 : decode cX9_wettest 133 = .ok (.idiv, 1) := by decide +kernel
theorem dX9_wettest_134 : decode cX9_wettest 134 = .ok (.ireturn, 1) := by decide +kernel
theorem dX9_dry_0 : decode cX9_dry 0 = .ok (.iload_n 1, 1) := by decide +kernel
theorem dX9_dry_1 : decode cX9_dry 1 = .ok (.invokestatic 298, 3) := by decide +kernel
theorem dX9_dry_4 : decode cX9_dry 4 = .ok (.ifCond .ne 5, 3) := by decide +kernel
theorem dX9_dry_7 : decode cX9_dry 7 = .ok (.iconst (-1), 1) := by decide +kernel
theorem dX9_dry_8 : decode cX9_dry 8 = .ok (.ireturn, 1) := by decide +kernel
theorem dX9_dry_9 : decode cX9_dry 9 = .ok (.aload_n 0, 1) := by decide +kernel
theorem dX9_dry_10 : decode cX9_dry 10 = .ok (.getfield 39, 3) := by decide +kernel
theorem dX9_dry_13 : decode cX9_dry 13 = .ok (.aload_n 0, 1) := by decide +kernel
theorem dX9_dry_14 : decode cX9_dry 14 = .ok (.getfield 50, 3) := by decide +kernel
theorem dX9_dry_17 : decode cX9_dry 17 = .ok (.aload_n 0, 1) := by decide +kernel
theorem dX9_dry_18 : decode cX9_dry 18 = .ok (.getfield 46, 3) := by decide +kernel
theorem dX9_dry_21 : decode cX9_dry 21 = .ok (.invokevirtual 301, 3) := by decide +kernel
theorem dX9_dry_24 : decode cX9_dry 24 = .ok (.iload_n 1, 1) := by decide +kernel
theorem dX9_dry_25 : decode cX9_dry 25 = .ok (.aload_n 0, 1) := by decide +kernel
theorem dX9_dry_26 : decode cX9_dry 26 = .ok (.getfield 30, 3) := by decide +kernel
theorem dX9_dry_29 : decode cX9_dry 29 = .ok (.getfield 228, 3) := by decide +kernel
theorem dX9_dry_32 : decode cX9_dry 32 = .ok (.invokevirtual 231, 3) := by decide +kernel
theorem dX9_dry_35 : decode cX9_dry 35 = .ok (.iconst 0, 1) := by decide +kernel
theorem dX9_dry_36 : decode cX9_dry 36 = .ok (.istore_n 2, 1) := by decide +kernel
theorem dX9_dry_37 : decode cX9_dry 37 = .ok (.iconst 0, 1) := by decide +kernel
theorem dX9_dry_38 : decode cX9_dry 38 = .ok (.istore_n 3, 1) := by decide +kernel
theorem dX9_dry_39 : decode cX9_dry 39 = .ok (.iload_n 3, 1) := by decide +kernel
theorem dX9_dry_40 : decode cX9_dry 40 = .ok (.aload_n 0, 1) := by decide +kernel
theorem dX9_dry_41 : decode cX9_dry 41 = .ok (.getfield 30, 3) := by decide +kernel
theorem dX9_dry_44 : decode cX9_dry 44 = .ok (.getfield 169, 3) := by decide +kernel
theorem dX9_dry_47 : decode cX9_dry 47 = .ok (.if_icmp .ge 46, 3) := by decide +kernel
theorem dX9_dry_50 : decode cX9_dry 50 = .ok (.iconst 0, 1) := by decide +kernel
theorem dX9_dry_51 : decode cX9_dry 51 = .ok (.istore 4, 2) := by decide +kernel
theorem dX9_dry_53 : decode cX9_dry 53 = .ok (.iload 4, 2) := by decide +kernel
theorem dX9_dry_55 : decode cX9_dry 55 = .ok (.aload_n 0, 1) := by decide +kernel
theorem dX9_dry_56 : decode cX9_dry 56 = .ok (.getfield 30, 3) := by decide +kernel
theorem dX9_dry_59 : decode cX9_dry 59 = .ok (.getfield 166, 3) := by decide +kernel
theorem dX9_dry_62 : decode cX9_dry 62 = .ok (.if_icmp .ge 25, 3) := by decide +kernel
theorem dX9_dry_65 : decode cX9_dry 65 = .ok (.aload_n 0, 1) := by decide +kernel
theorem dX9_dry_66 : decode cX9_dry 66 = .ok (.getfield 50, 3) := by decide +kernel
theorem dX9_dry_69 : decode cX9_dry 69 = .ok (.iload 4, 2) := by decide +kernel
theorem dX9_dry_71 : decode cX9_dry 71 = .ok (.iload_n 3, 1) := by decide +kernel
theorem dX9_dry_72 : decode cX9_dry 72 = .ok (.invokevirtual 115, 3) := by decide +kernel
theorem dX9_dry_75 : decode cX9_dry 75 = .ok (.ifCond .ne 6, 3) := by decide +kernel
theorem dX9_dry_78 : decode cX9_dry 78 = .ok (.iinc 2 1, 3) := by decide +kernel
theorem dX9_dry_81 : decode cX9_dry 81 = .ok (.iinc 4 1, 3) := by decide +kernel
theorem dX9_dry_84 : decode cX9_dry 84 = .ok (.goto (-31), 3) := by decide +kernel
theorem dX9_dry_87 : decode cX9_dry 87 = .ok (.iinc 3 1, 3) := by decide +kernel
theorem dX9_dry_90 : decode cX9_dry 90 = .ok (.goto (-51), 3) := by decide +kernel
theorem dX9_dry_93 : decode cX9_dry 93 = .ok (.iload_n 2, 1) := by decide +kernel
theorem dX9_dry_94 : decode cX9_dry 94 = .ok (.ireturn, 1) := by decide +kernel
theorem dX9_emptyBy_0 : decode cX9_emptyBy 0 = .ok (.aload_n 0, 1) := by decide +kernel
theorem dX9_emptyBy_1 : decode cX9_emptyBy 1 = .ok (.getfield 50, 3) := by decide +kernel
theorem dX9_emptyBy_4 : decode cX9_emptyBy 4 = .ok (.aload_n 0, 1) := by decide +kernel
theorem dX9_emptyBy_5 : decode cX9_emptyBy 5 = .ok (.getfield 46, 3) := by decide +kernel
theorem dX9_emptyBy_8 : decode cX9_emptyBy 8 = .ok (.invokevirtual 301, 3) := by decide +kernel
theorem dX9_emptyBy_11 : decode cX9_emptyBy 11 = .ok (.pop, 1) := by decide +kernel
theorem dX9_emptyBy_12 : decode cX9_emptyBy 12 = .ok (.iconst 0, 1) := by decide +kernel
theorem dX9_emptyBy_13 : decode cX9_emptyBy 13 = .ok (.istore_n 1, 1) := by decide +kernel
theorem dX9_emptyBy_14 : decode cX9_emptyBy 14 = .ok (.iload_n 1, 1) := by decide +kernel
theorem dX9_emptyBy_15 : decode cX9_emptyBy 15 = .ok (.sipush 200, 3) := by decide +kernel
theorem dX9_emptyBy_18 : decode cX9_emptyBy 18 = .ok (.if_icmp .gt 32, 3) := by decide +kernel
theorem dX9_emptyBy_21 : decode cX9_emptyBy 21 = .ok (.aload_n 0, 1) := by decide +kernel
theorem dX9_emptyBy_22 : decode cX9_emptyBy 22 = .ok (.getfield 50, 3) := by decide +kernel
theorem dX9_emptyBy_25 : decode cX9_emptyBy 25 = .ok (.getfield 181, 3) := by decide +kernel
theorem dX9_emptyBy_28 : decode cX9_emptyBy 28 = .ok (.ifCond .ne 5, 3) := by decide +kernel
theorem dX9_emptyBy_31 : decode cX9_emptyBy 31 = .ok (.iload_n 1, 1) := by decide +kernel
theorem dX9_emptyBy_32 : decode cX9_emptyBy 32 = .ok (.ireturn, 1) := by decide +kernel
theorem dX9_emptyBy_33 : decode cX9_emptyBy 33 = .ok (.aload_n 0, 1) := by decide +kernel
theorem dX9_emptyBy_34 : decode cX9_emptyBy 34 = .ok (.getfield 39, 3) := by decide +kernel
theorem dX9_emptyBy_37 : decode cX9_emptyBy 37 = .ok (.aload_n 0, 1) := by decide +kernel
theorem dX9_emptyBy_38 : decode cX9_emptyBy 38 = .ok (.getfield 50, 3) := by decide +kernel
theorem dX9_emptyBy_41 : decode cX9_emptyBy 41 = .ok (.invokevirtual 305, 3) := by decide +kernel
theorem dX9_emptyBy_44 : decode cX9_emptyBy 44 = .ok (.iinc 1 1, 3) := by decide +kernel
theorem dX9_emptyBy_47 : decode cX9_emptyBy 47 = .ok (.goto (-33), 3) := by decide +kernel
theorem dX9_emptyBy_50 : decode cX9_emptyBy 50 = .ok (.bipush (-2), 2) := by decide +kernel
theorem dX9_emptyBy_52 : decode cX9_emptyBy 52 = .ok (.ireturn, 1) := by decide +kernel
theorem dX9_year_0 : decode cX9_year 0 = .ok (.iload_n 1, 1) := by decide +kernel
theorem dX9_year_1 : decode cX9_year 1 = .ok (.invokestatic 298, 3) := by decide +kernel
theorem dX9_year_4 : decode cX9_year 4 = .ok (.ifCond .eq 14, 3) := by decide +kernel
theorem dX9_year_7 : decode cX9_year 7 = .ok (.iload_n 2, 1) := by decide +kernel
theorem dX9_year_8 : decode cX9_year 8 = .ok (.iconst 1, 1) := by decide +kernel
theorem dX9_year_9 : decode cX9_year 9 = .ok (.if_icmp .lt 9, 3) := by decide +kernel
theorem dX9_year_12 : decode cX9_year 12 = .ok (.iload_n 2, 1) := by decide +kernel
theorem dX9_year_13 : decode cX9_year 13 = .ok (.bipush 20, 2) := by decide +kernel
theorem dX9_year_15 : decode cX9_year 15 = .ok (.if_icmp .le 5, 3) := by decide +kernel
theorem dX9_year_18 : decode cX9_year 18 = .ok (.iconst (-1), 1) := by decide +kernel
theorem dX9_year_19 : decode cX9_year 19 = .ok (.ireturn, 1) := by decide +kernel
theorem dX9_year_20 : decode cX9_year 20 = .ok (.aload_n 0, 1) := by decide +kernel
theorem dX9_year_21 : decode cX9_year 21 = .ok (.getfield 46, 3) := by decide +kernel
theorem dX9_year_24 : decode cX9_year 24 = .ok (.getfield 135, 3) := by decide +kernel
theorem dX9_year_27 : decode cX9_year 27 = .ok (.invokestatic 184, 3) := by decide +kernel
theorem dX9_year_30 : decode cX9_year 30 = .ok (.istore_n 3, 1) := by decide +kernel
theorem dX9_year_31 : decode cX9_year 31 = .ok (.iconst 0, 1) := by decide +kernel
theorem dX9_year_32 : decode cX9_year 32 = .ok (.istore 4, 2) := by decide +kernel
theorem dX9_year_34 : decode cX9_year 34 = .ok (.aload_n 0, 1) := by decide +kernel
theorem dX9_year_35 : decode cX9_year 35 = .ok (.getfield 30, 3) := by decide +kernel
theorem dX9_year_38 : decode cX9_year 38 = .ok (.getfield 228, 3) := by decide +kernel
theorem dX9_year_41 : decode cX9_year 41 = .ok (.istore 5, 2) := by decide +kernel
theorem dX9_year_43 : decode cX9_year 43 = .ok (.iload 5, 2) := by decide +kernel
theorem dX9_year_45 : decode cX9_year 45 = .ok (.aload_n 0, 1) := by decide +kernel
theorem dX9_year_46 : decode cX9_year 46 = .ok (.getfield 30, 3) := by decide +kernel
theorem dX9_year_49 : decode cX9_year 49 = .ok (.getfield 228, 3) := by decide +kernel
theorem dX9_year_52 : decode cX9_year 52 = .ok (.iload_n 2, 1) := by decide +kernel
theorem dX9_year_53 : decode cX9_year 53 = .ok (.iadd, 1) := by decide +kernel
theorem dX9_year_54 : decode cX9_year 54 = .ok (.if_icmp .ge 47, 3) := by decide +kernel
theorem dX9_year_57 : decode cX9_year 57 = .ok (.aload_n 0, 1) := by decide +kernel
theorem dX9_year_58 : decode cX9_year 58 = .ok (.getfield 39, 3) := by decide +kernel
theorem dX9_year_61 : decode cX9_year 61 = .ok (.aload_n 0, 1) := by decide +kernel
theorem dX9_year_62 : decode cX9_year 62 = .ok (.getfield 50, 3) := by decide +kernel
theorem dX9_year_65 : decode cX9_year 65 = .ok (.aload_n 0, 1) := by decide +kernel
theorem dX9_year_66 : decode cX9_year 66 = .ok (.getfield 46, 3) := by decide +kernel
theorem dX9_year_69 : decode cX9_year 69 = .ok (.invokevirtual 301, 3) := by decide +kernel
theorem dX9_year_72 : decode cX9_year 72 = .ok (.iload_n 1, 1) := by decide +kernel
theorem dX9_year_73 : decode cX9_year 73 = .ok (.iload 5, 2) := by decide +kernel
theorem dX9_year_75 : decode cX9_year 75 = .ok (.invokevirtual 231, 3) := by decide +kernel
theorem dX9_year_78 : decode cX9_year 78 = .ok (.iload 4, 2) := by decide +kernel
theorem dX9_year_80 : decode cX9_year 80 = .ok (.aload_n 0, 1) := by decide +kernel
theorem dX9_year_81 : decode cX9_year 81 = .ok (.getfield 50, 3) := by decide +kernel
theorem dX9_year_84 : decode cX9_year 84 = .ok (.getfield 135, 3) := by decide +kernel
theorem dX9_year_87 : decode cX9_year 87 = .ok (.invokestatic 184, 3) := by decide +kernel
theorem dX9_year_90 : decode cX9_year 90 = .ok (.iload_n 3, 1) := by decide +kernel
theorem dX9_year_91 : decode cX9_year 91 = .ok (.isub, 1) := by decide +kernel
theorem dX9_year_92 : decode cX9_year 92 = .ok (.iadd, 1) := by decide +kernel
theorem dX9_year_93 : decode cX9_year 93 = .ok (.istore 4, 2) := by decide +kernel
theorem dX9_year_95 : decode cX9_year 95 = .ok (.iinc 5 1, 3) := by decide +kernel
theorem dX9_year_98 : decode cX9_year 98 = .ok (.goto (-55), 3) := by decide +kernel
theorem dX9_year_101 : decode cX9_year 101 = .ok (.iload 4, 2) := by decide +kernel
theorem dX9_year_103 : decode cX9_year 103 = .ok (.ireturn, 1) := by decide +kernel
theorem dX9_tell_0 : decode cX9_tell 0 = .ok (.aload_n 0, 1) := by decide +kernel
theorem dX9_tell_1 : decode cX9_tell 1 = .ok (.getfield 30, 3) := by decide +kernel
theorem dX9_tell_4 : decode cX9_tell 4 = .ok (.iload_n 1, 1) := by decide +kernel
theorem dX9_tell_5 : decode cX9_tell 5 = .ok (.iload_n 2, 1) := by decide +kernel
theorem dX9_tell_6 : decode cX9_tell 6 = .ok (.invokevirtual 107, 3) := by decide +kernel
theorem dX9_tell_9 : decode cX9_tell 9 = .ok (.ifCond .eq 14, 3) := by decide +kernel
theorem dX9_tell_12 : decode cX9_tell 12 = .ok (.iload_n 3, 1) := by decide +kernel
theorem dX9_tell_13 : decode cX9_tell 13 = .ok (.ifCond .lt 10, 3) := by decide +kernel
theorem dX9_tell_16 : decode cX9_tell 16 = .ok (.iload_n 3, 1) := by decide +kernel
theorem dX9_tell_17 : decode cX9_tell 17 = .ok (.sipush 999, 3) := by decide +kernel
theorem dX9_tell_20 : decode cX9_tell 20 = .ok (.if_icmp .le 5, 3) := by decide +kernel
theorem dX9_tell_23 : decode cX9_tell 23 = .ok (.iconst (-1), 1) := by decide +kernel
theorem dX9_tell_24 : decode cX9_tell 24 = .ok (.ireturn, 1) := by decide +kernel
theorem dX9_tell_25 : decode cX9_tell 25 = .ok (.aload_n 0, 1) := by decide +kernel
theorem dX9_tell_26 : decode cX9_tell 26 = .ok (.getfield 71, 3) := by decide +kernel
theorem dX9_tell_29 : decode cX9_tell 29 = .ok (.iload_n 1, 1) := by decide +kernel
theorem dX9_tell_30 : decode cX9_tell 30 = .ok (.iload_n 2, 1) := by decide +kernel
theorem dX9_tell_31 : decode cX9_tell 31 = .ok (.iload_n 3, 1) := by decide +kernel
theorem dX9_tell_32 : decode cX9_tell 32 = .ok (.invokevirtual 308, 3) := by decide +kernel
theorem dX9_tell_35 : decode cX9_tell 35 = .ok (.ireturn, 1) := by decide +kernel
theorem dX9_forget_0 : decode cX9_forget 0 = .ok (.aload_n 0, 1) := by decide +kernel
theorem dX9_forget_1 : decode cX9_forget 1 = .ok (.getfield 71, 3) := by decide +kernel
theorem dX9_forget_4 : decode cX9_forget 4 = .ok (.getfield 195, 3) := by decide +kernel
theorem dX9_forget_7 : decode cX9_forget 7 = .ok (.istore_n 1, 1) := by decide +kernel
theorem dX9_forget_8 : decode cX9_forget 8 = .ok (.aload_n 0, 1) := by decide +kernel
theorem dX9_forget_9 : decode cX9_forget 9 = .ok (.getfield 71, 3) := by decide +kernel
theorem dX9_forget_12 : decode cX9_forget 12 = .ok (.invokevirtual 106, 3) := by decide +kernel
theorem dX9_forget_15 : decode cX9_forget 15 = .ok (.iload_n 1, 1) := by decide +kernel
theorem dX9_forget_16 : decode cX9_forget 16 = .ok (.ireturn, 1) := by decide +kernel
theorem dX9_fell_0 : decode cX9_fell 0 = .ok (.aload_n 0, 1) := by decide +kernel
theorem dX9_fell_1 : decode cX9_fell 1 = .ok (.getfield 71, 3) := by decide +kernel
theorem dX9_fell_4 : decode cX9_fell 4 = .ok (.iload_n 1, 1) := by decide +kernel
theorem dX9_fell_5 : decode cX9_fell 5 = .ok (.invokevirtual 310, 3) := by decide +kernel
theorem dX9_fell_8 : decode cX9_fell 8 = .ok (.ifCond .eq 17, 3) := by decide +kernel
theorem dX9_fell_11 : decode cX9_fell 11 = .ok (.iload_n 2, 1) := by decide +kernel
theorem dX9_fell_12 : decode cX9_fell 12 = .ok (.iload_n 3, 1) := by decide +kernel
theorem dX9_fell_13 : decode cX9_fell 13 = .ok (.invokestatic 275, 3) := by decide +kernel
theorem dX9_fell_16 : decode cX9_fell 16 = .ok (.ifCond .eq 9, 3) := by decide +kernel
theorem dX9_fell_19 : decode cX9_fell 19 = .ok (.iload 4, 2) := by decide +kernel
theorem dX9_fell_21 : decode cX9_fell 21 = .ok (.iconst (-1), 1) := by decide +kernel
theorem dX9_fell_22 : decode cX9_fell 22 = .ok (.if_icmp .ge 5, 3) := by decide +kernel
theorem dX9_fell_25 : decode cX9_fell 25 = .ok (.iconst (-1), 1) := by decide +kernel
theorem dX9_fell_26 : decode cX9_fell 26 = .ok (.ireturn, 1) := by decide +kernel
theorem dX9_fell_27 : decode cX9_fell 27 = .ok (.aload_n 0, 1) := by decide +kernel
theorem dX9_fell_28 : decode cX9_fell 28 = .ok (.iload_n 1, 1) := by decide +kernel
theorem dX9_fell_29 : decode cX9_fell 29 = .ok (.iload_n 2, 1) := by decide +kernel
theorem dX9_fell_30 : decode cX9_fell 30 = .ok (.iload_n 3, 1) := by decide +kernel
theorem dX9_fell_31 : decode cX9_fell 31 = .ok (.invokevirtual 313, 3) := by decide +kernel
theorem dX9_fell_34 : decode cX9_fell 34 = .ok (.iload 4, 2) := by decide +kernel
theorem dX9_fell_36 : decode cX9_fell 36 = .ok (.iconst (-1), 1) := by decide +kernel
theorem dX9_fell_37 : decode cX9_fell 37 = .ok (.if_icmp .ne 11, 3) := by decide +kernel
theorem dX9_fell_40 : decode cX9_fell 40 = .ok (.aload_n 0, 1) := by decide +kernel
theorem dX9_fell_41 : decode cX9_fell 41 = .ok (.getfield 71, 3) := by decide +kernel
theorem dX9_fell_44 : decode cX9_fell 44 = .ok (.getfield 316, 3) := by decide +kernel
theorem dX9_fell_47 : decode cX9_fell 47 = .ok (.ireturn, 1) := by decide +kernel
theorem dX9_fell_48 : decode cX9_fell 48 = .ok (.iload 4, 2) := by decide +kernel
theorem dX9_fell_50 : decode cX9_fell 50 = .ok (.aload_n 0, 1) := by decide +kernel
theorem dX9_fell_51 : decode cX9_fell 51 = .ok (.getfield 71, 3) := by decide +kernel
theorem dX9_fell_54 : decode cX9_fell 54 = .ok (.getfield 316, 3) := by decide +kernel
theorem dX9_fell_57 : decode cX9_fell 57 = .ok (.if_icmp .ge 16, 3) := by decide +kernel
theorem dX9_fell_60 : decode cX9_fell 60 = .ok (.aload_n 0, 1) := by decide +kernel
theorem dX9_fell_61 : decode cX9_fell 61 = .ok (.getfield 71, 3) := by decide +kernel
theorem dX9_fell_64 : decode cX9_fell 64 = .ok (.getfield 319, 3) := by decide +kernel
theorem dX9_fell_67 : decode cX9_fell 67 = .ok (.iload 4, 2) := by decide +kernel
theorem dX9_fell_69 : decode cX9_fell 69 = .ok (.iaload, 1) := by decide +kernel
theorem dX9_fell_70 : decode cX9_fell 70 = .ok (.goto 4, 3) := by decide +kernel
theorem dX9_fell_73 : decode cX9_fell 73 = .ok (.iconst (-1), 1) := by decide +kernel
theorem dX9_fell_74 : decode cX9_fell 74 = .ok (.ireturn, 1) := by decide +kernel
theorem dX9_look_0 : decode cX9_look 0 = .ok (.aload_n 0, 1) := by decide +kernel
theorem dX9_look_1 : decode cX9_look 1 = .ok (.getfield 71, 3) := by decide +kernel
theorem dX9_look_4 : decode cX9_look 4 = .ok (.iload_n 1, 1) := by decide +kernel
theorem dX9_look_5 : decode cX9_look 5 = .ok (.invokevirtual 310, 3) := by decide +kernel
theorem dX9_look_8 : decode cX9_look 8 = .ok (.ifCond .eq 11, 3) := by decide +kernel
theorem dX9_look_11 : decode cX9_look 11 = .ok (.iload_n 2, 1) := by decide +kernel
theorem dX9_look_12 : decode cX9_look 12 = .ok (.iload_n 3, 1) := by decide +kernel
theorem dX9_look_13 : decode cX9_look 13 = .ok (.invokestatic 275, 3) := by decide +kernel
theorem dX9_look_16 : decode cX9_look 16 = .ok (.ifCond .ne 5, 3) := by decide +kernel
theorem dX9_look_19 : decode cX9_look 19 = .ok (.iconst (-1), 1) := by decide +kernel
theorem dX9_look_20 : decode cX9_look 20 = .ok (.ireturn, 1) := by decide +kernel
theorem dX9_look_21 : decode cX9_look 21 = .ok (.aload_n 0, 1) := by decide +kernel
theorem dX9_look_22 : decode cX9_look 22 = .ok (.getfield 30, 3) := by decide +kernel
theorem dX9_look_25 : decode cX9_look 25 = .ok (.iconst 0, 1) := by decide +kernel
theorem dX9_look_26 : decode cX9_look 26 = .ok (.iconst 0, 1) := by decide +kernel
theorem dX9_look_27 : decode cX9_look 27 = .ok (.invokevirtual 107, 3) := by decide +kernel
theorem dX9_look_30 : decode cX9_look 30 = .ok (.ifCond .ne 6, 3) := by decide +kernel
theorem dX9_look_33 : decode cX9_look 33 = .ok (.bipush (-2), 2) := by decide +kernel
theorem dX9_look_35 : decode cX9_look 35 = .ok (.ireturn, 1) := by decide +kernel
theorem dX9_look_36 : decode cX9_look 36 = .ok (.aload_n 0, 1) := by decide +kernel
theorem dX9_look_37 : decode cX9_look 37 = .ok (.iload_n 1, 1) := by decide +kernel
theorem dX9_look_38 : decode cX9_look 38 = .ok (.iload_n 2, 1) := by decide +kernel
theorem dX9_look_39 : decode cX9_look 39 = .ok (.iload_n 3, 1) := by decide +kernel
theorem dX9_look_40 : decode cX9_look 40 = .ok (.invokevirtual 313, 3) := by decide +kernel
theorem dX9_look_43 : decode cX9_look 43 = .ok (.aload_n 0, 1) := by decide +kernel
theorem dX9_look_44 : decode cX9_look 44 = .ok (.invokevirtual 322, 3) := by decide +kernel
theorem dX9_look_47 : decode cX9_look 47 = .ok (.ireturn, 1) := by decide +kernel
theorem dX9_gatherWays_0 : decode cX9_gatherWays 0 = .ok (.aload_n 0, 1) := by decide +kernel
theorem dX9_gatherWays_1 : decode cX9_gatherWays 1 = .ok (.getfield 71, 3) := by decide +kernel
theorem dX9_gatherWays_4 : decode cX9_gatherWays 4 = .ok (.iload_n 2, 1) := by decide +kernel
theorem dX9_gatherWays_5 : decode cX9_gatherWays 5 = .ok (.iload_n 3, 1) := by decide +kernel
theorem dX9_gatherWays_6 : decode cX9_gatherWays 6 = .ok (.invokevirtual 325, 3) := by decide +kernel
theorem dX9_gatherWays_9 : decode cX9_gatherWays 9 = .ok (.iconst 0, 1) := by decide +kernel
theorem dX9_gatherWays_10 : decode cX9_gatherWays 10 = .ok (.istore 4, 2) := by decide +kernel
theorem dX9_gatherWays_12 : decode cX9_gatherWays 12 = .ok (.iload 4, 2) := by decide +kernel
theorem dX9_gatherWays_14 : decode cX9_gatherWays 14 = .ok (.aload_n 0, 1) := by decide +kernel
theorem dX9_gatherWays_15 : decode cX9_gatherWays 15 = .ok (.getfield 30, 3) := by decide +kernel
theorem dX9_gatherWays_18 : decode cX9_gatherWays 18 = .ok (.getfield 175, 3) := by decide +kernel
theorem dX9_gatherWays_21 : decode cX9_gatherWays 21 = .ok (.if_icmp .ge 71, 3) := by decide +kernel
theorem dX9_gatherWays_24 : decode cX9_gatherWays 24 = .ok (.iload_n 2, 1) := by decide +kernel
theorem dX9_gatherWays_25 : decode cX9_gatherWays 25 = .ok (.aload_n 0, 1) := by decide +kernel
theorem dX9_gatherWays_26 : decode cX9_gatherWays 26 = .ok (.getfield 30, 3) := by decide +kernel
theorem dX9_gatherWays_29 : decode cX9_gatherWays 29 = .ok (.getfield 151, 3) := by decide +kernel
theorem dX9_gatherWays_32 : decode cX9_gatherWays 32 = .ok (.iload 4, 2) := by decide +kernel
theorem dX9_gatherWays_34 : decode cX9_gatherWays 34 = .ok (.iaload, 1) := by decide +kernel
theorem dX9_gatherWays_35 : decode cX9_gatherWays 35 = .ok (.if_icmp .gt 51, 3) := by decide +kernel
theorem dX9_gatherWays_38 : decode cX9_gatherWays 38 = .ok (.aload_n 0, 1) := by decide +kernel
theorem dX9_gatherWays_39 : decode cX9_gatherWays 39 = .ok (.iload 4, 2) := by decide +kernel
theorem dX9_gatherWays_41 : decode cX9_gatherWays 41 = .ok (.iload_n 2, 1) := by decide +kernel
theorem dX9_gatherWays_42 : decode cX9_gatherWays 42 = .ok (.iload_n 3, 1) := by decide +kernel
theorem dX9_gatherWays_43 : decode cX9_gatherWays 43 = .ok (.invokevirtual 239, 3) := by decide +kernel
theorem dX9_gatherWays_46 : decode cX9_gatherWays 46 = .ok (.aload_n 0, 1) := by decide +kernel
theorem dX9_gatherWays_47 : decode cX9_gatherWays 47 = .ok (.getfield 71, 3) := by decide +kernel
theorem dX9_gatherWays_50 : decode cX9_gatherWays 50 = .ok (.iload 4, 2) := by decide +kernel
theorem dX9_gatherWays_52 : decode cX9_gatherWays 52 = .ok (.aload_n 0, 1) := by decide +kernel
theorem dX9_gatherWays_53 : decode cX9_gatherWays 53 = .ok (.getfield 39, 3) := by decide +kernel
theorem dX9_gatherWays_56 : decode cX9_gatherWays 56 = .ok (.getfield 329, 3) := by decide +kernel
theorem dX9_gatherWays_59 : decode cX9_gatherWays 59 = .ok (.invokevirtual 332, 3) := by decide +kernel
theorem dX9_gatherWays_62 : decode cX9_gatherWays 62 = .ok (.aload_n 0, 1) := by decide +kernel
theorem dX9_gatherWays_63 : decode cX9_gatherWays 63 = .ok (.getfield 71, 3) := by decide +kernel
theorem dX9_gatherWays_66 : decode cX9_gatherWays 66 = .ok (.iload 4, 2) := by decide +kernel
theorem dX9_gatherWays_68 : decode cX9_gatherWays 68 = .ok (.iload_n 1, 1) := by decide +kernel
theorem dX9_gatherWays_69 : decode cX9_gatherWays 69 = .ok (.aload_n 0, 1) := by decide +kernel
theorem dX9_gatherWays_70 : decode cX9_gatherWays 70 = .ok (.getfield 30, 3) := by decide +kernel
theorem dX9_gatherWays_73 : decode cX9_gatherWays 73 = .ok (.getfield 166, 3) := by decide +kernel
theorem dX9_gatherWays_76 : decode cX9_gatherWays 76 = .ok (.aload_n 0, 1) := by decide +kernel
theorem dX9_gatherWays_77 : decode cX9_gatherWays 77 = .ok (.getfield 30, 3) := by decide +kernel
theorem dX9_gatherWays_80 : decode cX9_gatherWays 80 = .ok (.getfield 169, 3) := by decide +kernel
theorem dX9_gatherWays_83 : decode cX9_gatherWays 83 = .ok (.invokevirtual 336, 3) := by decide +kernel
theorem dX9_gatherWays_86 : decode cX9_gatherWays 86 = .ok (.iinc 4 1, 3) := by decide +kernel
theorem dX9_gatherWays_89 : decode cX9_gatherWays 89 = .ok (.goto (-77), 3) := by decide +kernel
theorem dX9_gatherWays_92 : decode cX9_gatherWays 92 = .ok (.return_, 1) := by decide +kernel
theorem dX9_bestLook_0 : decode cX9_bestLook 0 = .ok (.iconst 0, 1) := by decide +kernel
theorem dX9_bestLook_1 : decode cX9_bestLook 1 = .ok (.istore_n 1, 1) := by decide +kernel
theorem dX9_bestLook_2 : decode cX9_bestLook 2 = .ok (.ldc_w 288, 3) := by decide +kernel
theorem dX9_bestLook_5 : decode cX9_bestLook 5 = .ok (.istore_n 2, 1) := by decide +kernel
theorem dX9_bestLook_6 : decode cX9_bestLook 6 = .ok (.iconst 0, 1) := by decide +kernel
theorem dX9_bestLook_7 : decode cX9_bestLook 7 = .ok (.istore_n 3, 1) := by decide +kernel
theorem dX9_bestLook_8 : decode cX9_bestLook 8 = .ok (.iload_n 3, 1) := by decide +kernel
theorem dX9_bestLook_9 : decode cX9_bestLook 9 = .ok (.aload_n 0, 1) := by decide +kernel
theorem dX9_bestLook_10 : decode cX9_bestLook 10 = .ok (.getfield 30, 3) := by decide +kernel
theorem dX9_bestLook_13 : decode cX9_bestLook 13 = .ok (.getfield 169, 3) := by decide +kernel
theorem dX9_bestLook_16 : decode cX9_bestLook 16 = .ok (.if_icmp .ge 59, 3) := by decide +kernel
theorem dX9_bestLook_19 : decode cX9_bestLook 19 = .ok (.iconst 0, 1) := by decide +kernel
theorem dX9_bestLook_20 : decode cX9_bestLook 20 = .ok (.istore 4, 2) := by decide +kernel
theorem dX9_bestLook_22 : decode cX9_bestLook 22 = .ok (.iload 4, 2) := by decide +kernel
theorem dX9_bestLook_24 : decode cX9_bestLook 24 = .ok (.aload_n 0, 1) := by decide +kernel
theorem dX9_bestLook_25 : decode cX9_bestLook 25 = .ok (.getfield 30, 3) := by decide +kernel
theorem dX9_bestLook_28 : decode cX9_bestLook 28 = .ok (.getfield 166, 3) := by decide +kernel
theorem dX9_bestLook_31 : decode cX9_bestLook 31 = .ok (.if_icmp .ge 38, 3) := by decide +kernel
theorem dX9_bestLook_34 : decode cX9_bestLook 34 = .ok (.aload_n 0, 1) := by decide +kernel
theorem dX9_bestLook_35 : decode cX9_bestLook 35 = .ok (.getfield 71, 3) := by decide +kernel
theorem dX9_bestLook_38 : decode cX9_bestLook 38 = .ok (.iload 4, 2) := by decide +kernel
theorem dX9_bestLook_40 : decode cX9_bestLook 40 = .ok (.iload_n 3, 1) := by decide +kernel
theorem dX9_bestLook_41 : decode cX9_bestLook 41 = .ok (.invokevirtual 340, 3) := by decide +kernel
theorem dX9_bestLook_44 : decode cX9_bestLook 44 = .ok (.istore 5, 2) := by decide +kernel
theorem dX9_bestLook_46 : decode cX9_bestLook 46 = .ok (.iload 5, 2) := by decide +kernel
theorem dX9_bestLook_48 : decode cX9_bestLook 48 = .ok (.iload_n 2, 1) := by decide +kernel
theorem dX9_bestLook_49 : decode cX9_bestLook 49 = .ok (.if_icmp .ge 14, 3) := by decide +kernel
theorem dX9_bestLook_52 : decode cX9_bestLook 52 = .ok (.iload 5, 2) := by decide +kernel
theorem dX9_bestLook_54 : decode cX9_bestLook 54 = .ok (.istore_n 2, 1) := by decide +kernel
theorem dX9_bestLook_55 : decode cX9_bestLook 55 = .ok (.bipush 10, 2) := by decide +kernel
theorem dX9_bestLook_57 : decode cX9_bestLook 57 = .ok (.iload_n 3, 1) := by decide +kernel
theorem dX9_bestLook_58 : decode cX9_bestLook 58 = .ok (.imul, 1) := by decide +kernel
theorem dX9_bestLook_59 : decode cX9_bestLook 59 = .ok (.iload 4, 2) := by decide +kernel
theorem dX9_bestLook_61 : decode cX9_bestLook 61 = .ok (.iadd, 1) := by decide +kernel
theorem dX9_bestLook_62 : decode cX9_bestLook 62 = .ok (.istore_n 1, 1) := by decide +kernel
theorem dX9_bestLook_63 : decode cX9_bestLook 63 = .ok (.iinc 4 1, 3) := by decide +kernel
theorem dX9_bestLook_66 : decode cX9_bestLook 66 = .ok (.goto (-44), 3) := by decide +kernel
theorem dX9_bestLook_69 : decode cX9_bestLook 69 = .ok (.iinc 3 1, 3) := by decide +kernel
theorem dX9_bestLook_72 : decode cX9_bestLook 72 = .ok (.goto (-64), 3) := by decide +kernel
theorem dX9_bestLook_75 : decode cX9_bestLook 75 = .ok (.iload_n 1, 1) := by decide +kernel
theorem dX9_bestLook_76 : decode cX9_bestLook 76 = .ok (.ireturn, 1) := by decide +kernel
theorem dX9_hold_0 : decode cX9_hold 0 = .ok (.iload_n 1, 1) := by decide +kernel
theorem dX9_hold_1 : decode cX9_hold 1 = .ok (.ifCond .lt 8, 3) := by decide +kernel
theorem dX9_hold_4 : decode cX9_hold 4 = .ok (.iload_n 1, 1) := by decide +kernel
theorem dX9_hold_5 : decode cX9_hold 5 = .ok (.iconst 3, 1) := by decide +kernel
theorem dX9_hold_6 : decode cX9_hold 6 = .ok (.if_icmp .lt 5, 3) := by decide +kernel
theorem dX9_hold_9 : decode cX9_hold 9 = .ok (.iconst 0, 1) := by decide +kernel
theorem dX9_hold_10 : decode cX9_hold 10 = .ok (.ireturn, 1) := by decide +kernel
theorem dX9_hold_11 : decode cX9_hold 11 = .ok (.aload_n 0, 1) := by decide +kernel
theorem dX9_hold_12 : decode cX9_hold 12 = .ok (.getfield 60, 3) := by decide +kernel
theorem dX9_hold_15 : decode cX9_hold 15 = .ok (.iload_n 1, 1) := by decide +kernel
theorem dX9_hold_16 : decode cX9_hold 16 = .ok (.aaload, 1) := by decide +kernel
theorem dX9_hold_17 : decode cX9_hold 17 = .ok (.aload_n 0, 1) := by decide +kernel
theorem dX9_hold_18 : decode cX9_hold 18 = .ok (.getfield 46, 3) := by decide +kernel
theorem dX9_hold_21 : decode cX9_hold 21 = .ok (.invokevirtual 301, 3) := by decide +kernel
theorem dX9_hold_24 : decode cX9_hold 24 = .ok (.pop, 1) := by decide +kernel
theorem dX9_hold_25 : decode cX9_hold 25 = .ok (.aload_n 0, 1) := by decide +kernel
theorem dX9_hold_26 : decode cX9_hold 26 = .ok (.getfield 64, 3) := by decide +kernel
theorem dX9_hold_29 : decode cX9_hold 29 = .ok (.iload_n 1, 1) := by decide +kernel
theorem dX9_hold_30 : decode cX9_hold 30 = .ok (.iconst 1, 1) := by decide +kernel
theorem dX9_hold_31 : decode cX9_hold 31 = .ok (.bastore, 1) := by decide +kernel
theorem dX9_hold_32 : decode cX9_hold 32 = .ok (.iconst 1, 1) := by decide +kernel
theorem dX9_hold_33 : decode cX9_hold 33 = .ok (.ireturn, 1) := by decide +kernel
theorem dX9_restore_0 : decode cX9_restore 0 = .ok (.iload_n 1, 1) := by decide +kernel
theorem dX9_restore_1 : decode cX9_restore 1 = .ok (.ifCond .lt 17, 3) := by decide +kernel
theorem dX9_restore_4 : decode cX9_restore 4 = .ok (.iload_n 1, 1) := by decide +kernel
theorem dX9_restore_5 : decode cX9_restore 5 = .ok (.iconst 3, 1) := by decide +kernel
theorem dX9_restore_6 : decode cX9_restore 6 = .ok (.if_icmp .ge 12, 3) := by decide +kernel
theorem dX9_restore_9 : decode cX9_restore 9 = .ok (.aload_n 0, 1) := by decide +kernel
theorem dX9_restore_10 : decode cX9_restore 10 = .ok (.getfield 64, 3) := by decide +kernel
theorem dX9_restore_13 : decode cX9_restore 13 = .ok (.iload_n 1, 1) := by decide +kernel
theorem dX9_restore_14 : decode cX9_restore 14 = .ok (.baload, 1) := by decide +kernel
theorem dX9_restore_15 : decode cX9_restore 15 = .ok (.ifCond .ne 5, 3) := by decide +kernel
theorem dX9_restore_18 : decode cX9_restore 18 = .ok (.iconst 0, 1) := by decide +kernel
theorem dX9_restore_19 : decode cX9_restore 19 = .ok (.ireturn, 1) := by decide +kernel
theorem dX9_restore_20 : decode cX9_restore 20 = .ok (.aload_n 0, 1) := by decide +kernel
theorem dX9_restore_21 : decode cX9_restore 21 = .ok (.getfield 46, 3) := by decide +kernel
theorem dX9_restore_24 : decode cX9_restore 24 = .ok (.aload_n 0, 1) := by decide +kernel
theorem dX9_restore_25 : decode cX9_restore 25 = .ok (.getfield 60, 3) := by decide +kernel
theorem dX9_restore_28 : decode cX9_restore 28 = .ok (.iload_n 1, 1) := by decide +kernel
theorem dX9_restore_29 : decode cX9_restore 29 = .ok (.aaload, 1) := by decide +kernel
theorem dX9_restore_30 : decode cX9_restore 30 = .ok (.invokevirtual 301, 3) := by decide +kernel
theorem dX9_restore_33 : decode cX9_restore 33 = .ok (.pop, 1) := by decide +kernel
theorem dX9_restore_34 : decode cX9_restore 34 = .ok (.aload_n 0, 1) := by decide +kernel
theorem dX9_restore_35 : decode cX9_restore 35 = .ok (.getfield 56, 3) := by decide +kernel
theorem dX9_restore_38 : decode cX9_restore 38 = .ok (.invokevirtual 103, 3) := by decide +kernel
theorem dX9_restore_41 : decode cX9_restore 41 = .ok (.iconst 1, 1) := by decide +kernel
theorem dX9_restore_42 : decode cX9_restore 42 = .ok (.ireturn, 1) := by decide +kernel
theorem dJ9_abs_0f7a4_0 : decode cJ9_abs_0f7a4 0 = .ok (.iload_n 0, 1) := by decide +kernel
theorem dJ9_abs_0f7a4_1 : decode cJ9_abs_0f7a4 1 = .ok (.ifCond .ge 8, 3) := by decide +kernel
theorem dJ9_abs_0f7a4_4 : decode cJ9_abs_0f7a4 4 = .ok (.iload_n 0, 1) := by decide +kernel
theorem dJ9_abs_0f7a4_5 : decode cJ9_abs_0f7a4 5 = .ok (.ineg, 1) := by decide +kernel
theorem dJ9_abs_0f7a4_6 : decode cJ9_abs_0f7a4 6 = .ok (.goto 4, 3) := by decide +kernel
theorem dJ9_abs_0f7a4_9 : decode cJ9_abs_0f7a4 9 = .ok (.iload_n 0, 1) := by decide +kernel
theorem dJ9_abs_0f7a4_10 : decode cJ9_abs_0f7a4 10 = .ok (.ireturn, 1) := by decide +kernel
theorem dJ9_max_7cf53_0 : decode cJ9_max_7cf53 0 = .ok (.iload_n 0, 1) := by decide +kernel
theorem dJ9_max_7cf53_1 : decode cJ9_max_7cf53 1 = .ok (.iload_n 1, 1) := by decide +kernel
theorem dJ9_max_7cf53_2 : decode cJ9_max_7cf53 2 = .ok (.if_icmp .lt 7, 3) := by decide +kernel
theorem dJ9_max_7cf53_5 : decode cJ9_max_7cf53 5 = .ok (.iload_n 0, 1) := by decide +kernel
theorem dJ9_max_7cf53_6 : decode cJ9_max_7cf53 6 = .ok (.goto 4, 3) := by decide +kernel
theorem dJ9_max_7cf53_9 : decode cJ9_max_7cf53 9 = .ok (.iload_n 1, 1) := by decide +kernel
theorem dJ9_max_7cf53_10 : decode cJ9_max_7cf53 10 = .ok (.ireturn, 1) := by decide +kernel
theorem dJ9_min_7cf53_0 : decode cJ9_min_7cf53 0 = .ok (.iload_n 0, 1) := by decide +kernel
theorem dJ9_min_7cf53_1 : decode cJ9_min_7cf53 1 = .ok (.iload_n 1, 1) := by decide +kernel
theorem dJ9_min_7cf53_2 : decode cJ9_min_7cf53 2 = .ok (.if_icmp .gt 7, 3) := by decide +kernel
theorem dJ9_min_7cf53_5 : decode cJ9_min_7cf53 5 = .ok (.iload_n 0, 1) := by decide +kernel
theorem dJ9_min_7cf53_6 : decode cJ9_min_7cf53 6 = .ok (.goto 4, 3) := by decide +kernel
theorem dJ9_min_7cf53_9 : decode cJ9_min_7cf53 9 = .ok (.iload_n 1, 1) := by decide +kernel
theorem dJ9_min_7cf53_10 : decode cJ9_min_7cf53 10 = .ok (.ireturn, 1) := by decide +kernel
theorem dJ7_fill_53178_0 : decode cJ7_fill_53178 0 = .ok (.iconst 0, 1) := by decide +kernel
theorem dJ7_fill_53178_1 : decode cJ7_fill_53178 1 = .ok (.istore_n 2, 1) := by decide +kernel
theorem dJ7_fill_53178_2 : decode cJ7_fill_53178 2 = .ok (.aload_n 0, 1) := by decide +kernel
theorem dJ7_fill_53178_3 : decode cJ7_fill_53178 3 = .ok (.arraylength, 1) := by decide +kernel
theorem dJ7_fill_53178_4 : decode cJ7_fill_53178 4 = .ok (.istore_n 3, 1) := by decide +kernel
theorem dJ7_fill_53178_5 : decode cJ7_fill_53178 5 = .ok (.iload_n 2, 1) := by decide +kernel
theorem dJ7_fill_53178_6 : decode cJ7_fill_53178 6 = .ok (.iload_n 3, 1) := by decide +kernel
theorem dJ7_fill_53178_7 : decode cJ7_fill_53178 7 = .ok (.if_icmp .ge 13, 3) := by decide +kernel
theorem dJ7_fill_53178_10 : decode cJ7_fill_53178 10 = .ok (.aload_n 0, 1) := by decide +kernel
theorem dJ7_fill_53178_11 : decode cJ7_fill_53178 11 = .ok (.iload_n 2, 1) := by decide +kernel
theorem dJ7_fill_53178_12 : decode cJ7_fill_53178 12 = .ok (.iload_n 1, 1) := by decide +kernel
theorem dJ7_fill_53178_13 : decode cJ7_fill_53178 13 = .ok (.iastore, 1) := by decide +kernel
theorem dJ7_fill_53178_14 : decode cJ7_fill_53178 14 = .ok (.iinc 2 1, 3) := by decide +kernel
theorem dJ7_fill_53178_17 : decode cJ7_fill_53178 17 = .ok (.goto (-12), 3) := by decide +kernel
theorem dJ7_fill_53178_20 : decode cJ7_fill_53178 20 = .ok (.return_, 1) := by decide +kernel
theorem dJ0_length_8abf5_0 : decode cJ0_length_8abf5 0 = .ok (.aload_n 0, 1) := by decide +kernel
theorem dJ0_length_8abf5_1 : decode cJ0_length_8abf5 1 = .ok (.getfield 9, 3) := by decide +kernel
theorem dJ0_length_8abf5_4 : decode cJ0_length_8abf5 4 = .ok (.arraylength, 1) := by decide +kernel
theorem dJ0_length_8abf5_5 : decode cJ0_length_8abf5 5 = .ok (.aload_n 0, 1) := by decide +kernel
theorem dJ0_length_8abf5_6 : decode cJ0_length_8abf5 6 = .ok (.invokevirtual 335, 3) := by decide +kernel
theorem dJ0_length_8abf5_9 : decode cJ0_length_8abf5 9 = .ok (.ishr, 1) := by decide +kernel
theorem dJ0_length_8abf5_10 : decode cJ0_length_8abf5 10 = .ok (.ireturn, 1) := by decide +kernel
theorem dJ0_charAt_5068e_0 : decode cJ0_charAt_5068e 0 = .ok (.aload_n 0, 1) := by decide +kernel
theorem dJ0_charAt_5068e_1 : decode cJ0_charAt_5068e 1 = .ok (.invokevirtual 492, 3) := by decide +kernel
theorem dJ0_charAt_5068e_4 : decode cJ0_charAt_5068e 4 = .ok (.ifCond .eq 12, 3) := by decide +kernel
theorem dJ0_charAt_5068e_7 : decode cJ0_charAt_5068e 7 = .ok (.aload_n 0, 1) := by decide +kernel
theorem dJ0_charAt_5068e_8 : decode cJ0_charAt_5068e 8 = .ok (.getfield 9, 3) := by decide +kernel
theorem dJ0_charAt_5068e_11 : decode cJ0_charAt_5068e 11 = .ok (.iload_n 1, 1) := by decide +kernel
theorem dJ0_charAt_5068e_12 : decode cJ0_charAt_5068e 12 = .ok (.invokestatic 495, 3) := by decide +kernel
theorem dJ0_charAt_5068e_15 : decode cJ0_charAt_5068e 15 = .ok (.ireturn, 1) := by decide +kernel
theorem dJ0_charAt_5068e_16 : decode cJ0_charAt_5068e 16 = .ok (.aload_n 0, 1) := by decide +kernel
theorem dJ0_charAt_5068e_17 : decode cJ0_charAt_5068e 17 = .ok (.getfield 9, 3) := by decide +kernel
theorem dJ0_charAt_5068e_20 : decode cJ0_charAt_5068e 20 = .ok (.iload_n 1, 1) := by decide +kernel
theorem dJ0_charAt_5068e_21 : decode cJ0_charAt_5068e 21 = .ok (.invokestatic 498, 3) := by decide +kernel
theorem dJ0_charAt_5068e_24 : decode cJ0_charAt_5068e 24 = .ok (.ireturn, 1) := by decide +kernel
theorem dJ0_indexOf_0f7a4_0 : decode cJ0_indexOf_0f7a4 0 = .ok (.aload_n 0, 1) := by decide +kernel
theorem dJ0_indexOf_0f7a4_1 : decode cJ0_indexOf_0f7a4 1 = .ok (.iload_n 1, 1) := by decide +kernel
theorem dJ0_indexOf_0f7a4_2 : decode cJ0_indexOf_0f7a4 2 = .ok (.iconst 0, 1) := by decide +kernel
theorem dJ0_indexOf_0f7a4_3 : decode cJ0_indexOf_0f7a4 3 = .ok (.invokevirtual 633, 3) := by decide +kernel
theorem dJ0_indexOf_0f7a4_6 : decode cJ0_indexOf_0f7a4 6 = .ok (.ireturn, 1) := by decide +kernel
theorem dJ0_indexOf_7cf53_0 : decode cJ0_indexOf_7cf53 0 = .ok (.aload_n 0, 1) := by decide +kernel
theorem dJ0_indexOf_7cf53_1 : decode cJ0_indexOf_7cf53 1 = .ok (.invokevirtual 492, 3) := by decide +kernel
theorem dJ0_indexOf_7cf53_4 : decode cJ0_indexOf_7cf53 4 = .ok (.ifCond .eq 19, 3) := by decide +kernel
theorem dJ0_indexOf_7cf53_7 : decode cJ0_indexOf_7cf53 7 = .ok (.aload_n 0, 1) := by decide +kernel
theorem dJ0_indexOf_7cf53_8 : decode cJ0_indexOf_7cf53 8 = .ok (.getfield 9, 3) := by decide +kernel
theorem dJ0_indexOf_7cf53_11 : decode cJ0_indexOf_7cf53 11 = .ok (.iload_n 1, 1) := by decide +kernel
theorem dJ0_indexOf_7cf53_12 : decode cJ0_indexOf_7cf53 12 = .ok (.iload_n 2, 1) := by decide +kernel
theorem dJ0_indexOf_7cf53_13 : decode cJ0_indexOf_7cf53 13 = .ok (.aload_n 0, 1) := by decide +kernel
theorem dJ0_indexOf_7cf53_14 : decode cJ0_indexOf_7cf53 14 = .ok (.invokevirtual 505, 3) := by decide +kernel
theorem dJ0_indexOf_7cf53_17 : decode cJ0_indexOf_7cf53 17 = .ok (.invokestatic 637, 3) := by decide +kernel
theorem dJ0_indexOf_7cf53_20 : decode cJ0_indexOf_7cf53 20 = .ok (.goto 16, 3) := by decide +kernel
theorem dJ0_indexOf_7cf53_23 : decode cJ0_indexOf_7cf53 23 = .ok (.aload_n 0, 1) := by decide +kernel
theorem dJ0_indexOf_7cf53_24 : decode cJ0_indexOf_7cf53 24 = .ok (.getfield 9, 3) := by decide +kernel
theorem dJ0_indexOf_7cf53_27 : decode cJ0_indexOf_7cf53 27 = .ok (.iload_n 1, 1) := by decide +kernel
theorem dJ0_indexOf_7cf53_28 : decode cJ0_indexOf_7cf53 28 = .ok (.iload_n 2, 1) := by decide +kernel
theorem dJ0_indexOf_7cf53_29 : decode cJ0_indexOf_7cf53 29 = .ok (.aload_n 0, 1) := by decide +kernel
theorem dJ0_indexOf_7cf53_30 : decode cJ0_indexOf_7cf53 30 = .ok (.invokevirtual 505, 3) := by decide +kernel
theorem dJ0_indexOf_7cf53_33 : decode cJ0_indexOf_7cf53 33 = .ok (.invokestatic 640, 3) := by decide +kernel
theorem dJ0_indexOf_7cf53_36 : decode cJ0_indexOf_7cf53 36 = .ok (.ireturn, 1) := by decide +kernel
theorem dJ0_coder_7d493_0 : decode cJ0_coder_7d493 0 = .ok (.getstatic 38, 3) := by decide +kernel
theorem dJ0_coder_7d493_3 : decode cJ0_coder_7d493 3 = .ok (.ifCond .eq 10, 3) := by decide +kernel
theorem dJ0_coder_7d493_6 : decode cJ0_coder_7d493 6 = .ok (.aload_n 0, 1) := by decide +kernel
theorem dJ0_coder_7d493_7 : decode cJ0_coder_7d493 7 = .ok (.getfield 15, 3) := by decide +kernel
theorem dJ0_coder_7d493_10 : decode cJ0_coder_7d493 10 = .ok (.goto 4, 3) := by decide +kernel
theorem dJ0_coder_7d493_13 : decode cJ0_coder_7d493 13 = .ok (.iconst 1, 1) := by decide +kernel
theorem dJ0_coder_7d493_14 : decode cJ0_coder_7d493 14 = .ok (.ireturn, 1) := by decide +kernel
theorem dJ0_isLatin1_aae02_0 : decode cJ0_isLatin1_aae02 0 = .ok (.getstatic 38, 3) := by decide +kernel
theorem dJ0_isLatin1_aae02_3 : decode cJ0_isLatin1_aae02 3 = .ok (.ifCond .eq 14, 3) := by decide +kernel
theorem dJ0_isLatin1_aae02_6 : decode cJ0_isLatin1_aae02 6 = .ok (.aload_n 0, 1) := by decide +kernel
theorem dJ0_isLatin1_aae02_7 : decode cJ0_isLatin1_aae02 7 = .ok (.getfield 15, 3) := by decide +kernel
theorem dJ0_isLatin1_aae02_10 : decode cJ0_isLatin1_aae02 10 = .ok (.ifCond .ne 7, 3) := by decide +kernel
theorem dJ0_isLatin1_aae02_13 : decode cJ0_isLatin1_aae02 13 = .ok (.iconst 1, 1) := by decide +kernel
theorem dJ0_isLatin1_aae02_14 : decode cJ0_isLatin1_aae02 14 = .ok (.goto 4, 3) := by decide +kernel
theorem dJ0_isLatin1_aae02_17 : decode cJ0_isLatin1_aae02 17 = .ok (.iconst 0, 1) := by decide +kernel
theorem dJ0_isLatin1_aae02_18 : decode cJ0_isLatin1_aae02 18 = .ok (.ireturn, 1) := by decide +kernel
theorem dJ0_checkIndex_df160_0 : decode cJ0_checkIndex_df160 0 = .ok (.iload_n 0, 1) := by decide +kernel
theorem dJ0_checkIndex_df160_1 : decode cJ0_checkIndex_df160 1 = .ok (.iload_n 1, 1) := by decide +kernel
theorem dJ0_checkIndex_df160_2 : decode cJ0_checkIndex_df160 2 = .ok (.getstatic 1053, 3) := by decide +kernel
theorem dJ0_checkIndex_df160_5 : decode cJ0_checkIndex_df160 5 = .ok (.invokestatic 1059, 3) := by decide +kernel
theorem dJ0_checkIndex_df160_8 : decode cJ0_checkIndex_df160 8 = .ok (.pop, 1) := by decide +kernel
theorem dJ0_checkIndex_df160_9 : decode cJ0_checkIndex_df160 9 = .ok (.return_, 1) := by decide +kernel
theorem dJ0_checkBoundsBeginEnd_23922_0 : decode cJ0_checkBoundsBeginEnd_23922 0 = .ok (.iload_n 0, 1) := by decide +kernel
theorem dJ0_checkBoundsBeginEnd_23922_1 : decode cJ0_checkBoundsBeginEnd_23922 1 = .ok (.iload_n 1, 1) := by decide +kernel
theorem dJ0_checkBoundsBeginEnd_23922_2 : decode cJ0_checkBoundsBeginEnd_23922 2 = .ok (.iload_n 2, 1) := by decide +kernel
theorem dJ0_checkBoundsBeginEnd_23922_3 : decode cJ0_checkBoundsBeginEnd_23922 3 = .ok (.getstatic 1053, 3) := by decide +kernel
theorem dJ0_checkBoundsBeginEnd_23922_6 : decode cJ0_checkBoundsBeginEnd_23922 6 = .ok (.invokestatic 1062, 3) := by decide +kernel
theorem dJ0_checkBoundsBeginEnd_23922_9 : decode cJ0_checkBoundsBeginEnd_23922 9 = .ok (.pop, 1) := by decide +kernel
theorem dJ0_checkBoundsBeginEnd_23922_10 : decode cJ0_checkBoundsBeginEnd_23922 10 = .ok (.return_, 1) := by decide +kernel
theorem dJ1_charAt_3b067_0 : decode cJ1_charAt_3b067 0 = .ok (.iload_n 1, 1) := by decide +kernel
theorem dJ1_charAt_3b067_1 : decode cJ1_charAt_3b067 1 = .ok (.aload_n 0, 1) := by decide +kernel
theorem dJ1_charAt_3b067_2 : decode cJ1_charAt_3b067 2 = .ok (.arraylength, 1) := by decide +kernel
theorem dJ1_charAt_3b067_3 : decode cJ1_charAt_3b067 3 = .ok (.invokestatic 9, 3) := by decide +kernel
theorem dJ1_charAt_3b067_6 : decode cJ1_charAt_3b067 6 = .ok (.aload_n 0, 1) := by decide +kernel
theorem dJ1_charAt_3b067_7 : decode cJ1_charAt_3b067 7 = .ok (.iload_n 1, 1) := by decide +kernel
theorem dJ1_charAt_3b067_8 : decode cJ1_charAt_3b067 8 = .ok (.baload, 1) := by decide +kernel
theorem dJ1_charAt_3b067_9 : decode cJ1_charAt_3b067 9 = .ok (.sipush 255, 3) := by decide +kernel
theorem dJ1_charAt_3b067_12 : decode cJ1_charAt_3b067 12 = .ok (.iand, 1) := by decide +kernel
theorem dJ1_charAt_3b067_13 : decode cJ1_charAt_3b067 13 = .ok (.i2c, 1) := by decide +kernel
theorem dJ1_charAt_3b067_14 : decode cJ1_charAt_3b067 14 = .ok (.ireturn, 1) := by decide +kernel
theorem dJ1_canEncode_9a6ad_0 : decode cJ1_canEncode_9a6ad 0 = .ok (.iload_n 0, 1) := by decide +kernel
theorem dJ1_canEncode_9a6ad_1 : decode cJ1_canEncode_9a6ad 1 = .ok (.ifCond .lt 14, 3) := by decide +kernel
theorem dJ1_canEncode_9a6ad_4 : decode cJ1_canEncode_9a6ad 4 = .ok (.iload_n 0, 1) := by decide +kernel
theorem dJ1_canEncode_9a6ad_5 : decode cJ1_canEncode_9a6ad 5 = .ok (.sipush 255, 3) := by decide +kernel
theorem dJ1_canEncode_9a6ad_8 : decode cJ1_canEncode_9a6ad 8 = .ok (.if_icmp .gt 7, 3) := by decide +kernel
theorem dJ1_canEncode_9a6ad_11 : decode cJ1_canEncode_9a6ad 11 = .ok (.iconst 1, 1) := by decide +kernel
theorem dJ1_canEncode_9a6ad_12 : decode cJ1_canEncode_9a6ad 12 = .ok (.goto 4, 3) := by decide +kernel
theorem dJ1_canEncode_9a6ad_15 : decode cJ1_canEncode_9a6ad 15 = .ok (.iconst 0, 1) := by decide +kernel
theorem dJ1_canEncode_9a6ad_16 : decode cJ1_canEncode_9a6ad 16 = .ok (.ireturn, 1) := by decide +kernel
theorem dJ1_indexOf_4cfef_0 : decode cJ1_indexOf_4cfef 0 = .ok (.iload_n 1, 1) := by decide +kernel
theorem dJ1_indexOf_4cfef_1 : decode cJ1_indexOf_4cfef 1 = .ok (.invokestatic 88, 3) := by decide +kernel
theorem dJ1_indexOf_4cfef_4 : decode cJ1_indexOf_4cfef 4 = .ok (.ifCond .ne 5, 3) := by decide +kernel
theorem dJ1_indexOf_4cfef_7 : decode cJ1_indexOf_4cfef 7 = .ok (.iconst (-1), 1) := by decide +kernel
theorem dJ1_indexOf_4cfef_8 : decode cJ1_indexOf_4cfef 8 = .ok (.ireturn, 1) := by decide +kernel
theorem dJ1_indexOf_4cfef_9 : decode cJ1_indexOf_4cfef 9 = .ok (.iload_n 2, 1) := by decide +kernel
theorem dJ1_indexOf_4cfef_10 : decode cJ1_indexOf_4cfef 10 = .ok (.iconst 0, 1) := by decide +kernel
theorem dJ1_indexOf_4cfef_11 : decode cJ1_indexOf_4cfef 11 = .ok (.invokestatic 92, 3) := by decide +kernel
theorem dJ1_indexOf_4cfef_14 : decode cJ1_indexOf_4cfef 14 = .ok (.istore_n 2, 1) := by decide +kernel
theorem dJ1_indexOf_4cfef_15 : decode cJ1_indexOf_4cfef 15 = .ok (.iload_n 3, 1) := by decide +kernel
theorem dJ1_indexOf_4cfef_16 : decode cJ1_indexOf_4cfef 16 = .ok (.aload_n 0, 1) := by decide +kernel
theorem dJ1_indexOf_4cfef_17 : decode cJ1_indexOf_4cfef 17 = .ok (.arraylength, 1) := by decide +kernel
theorem dJ1_indexOf_4cfef_18 : decode cJ1_indexOf_4cfef 18 = .ok (.invokestatic 38, 3) := by decide +kernel
theorem dJ1_indexOf_4cfef_21 : decode cJ1_indexOf_4cfef 21 = .ok (.istore_n 3, 1) := by decide +kernel
theorem dJ1_indexOf_4cfef_22 : decode cJ1_indexOf_4cfef 22 = .ok (.iload_n 2, 1) := by decide +kernel
theorem dJ1_indexOf_4cfef_23 : decode cJ1_indexOf_4cfef 23 = .ok (.iload_n 3, 1) := by decide +kernel
theorem dJ1_indexOf_4cfef_24 : decode cJ1_indexOf_4cfef 24 = .ok (.if_icmp .lt 5, 3) := by decide +kernel
theorem dJ1_indexOf_4cfef_27 : decode cJ1_indexOf_4cfef 27 = .ok (.iconst (-1), 1) := by decide +kernel
theorem dJ1_indexOf_4cfef_28 : decode cJ1_indexOf_4cfef 28 = .ok (.ireturn, 1) := by decide +kernel
theorem dJ1_indexOf_4cfef_29 : decode cJ1_indexOf_4cfef 29 = .ok (.aload_n 0, 1) := by decide +kernel
theorem dJ1_indexOf_4cfef_30 : decode cJ1_indexOf_4cfef 30 = .ok (.iload_n 1, 1) := by decide +kernel
theorem dJ1_indexOf_4cfef_31 : decode cJ1_indexOf_4cfef 31 = .ok (.iload_n 2, 1) := by decide +kernel
theorem dJ1_indexOf_4cfef_32 : decode cJ1_indexOf_4cfef 32 = .ok (.iload_n 3, 1) := by decide +kernel
theorem dJ1_indexOf_4cfef_33 : decode cJ1_indexOf_4cfef 33 = .ok (.invokestatic 95, 3) := by decide +kernel
theorem dJ1_indexOf_4cfef_36 : decode cJ1_indexOf_4cfef 36 = .ok (.ireturn, 1) := by decide +kernel
theorem dJ1_indexOfChar_4cfef_0 : decode cJ1_indexOfChar_4cfef 0 = .ok (.iload_n 1, 1) := by decide +kernel
theorem dJ1_indexOfChar_4cfef_1 : decode cJ1_indexOfChar_4cfef 1 = .ok (.i2b, 1) := by decide +kernel
theorem dJ1_indexOfChar_4cfef_2 : decode cJ1_indexOfChar_4cfef 2 = .ok (.istore 4, 2) := by decide +kernel
theorem dJ1_indexOfChar_4cfef_4 : decode cJ1_indexOfChar_4cfef 4 = .ok (.iload_n 2, 1) := by decide +kernel
theorem dJ1_indexOfChar_4cfef_5 : decode cJ1_indexOfChar_4cfef 5 = .ok (.istore 5, 2) := by decide +kernel
theorem dJ1_indexOfChar_4cfef_7 : decode cJ1_indexOfChar_4cfef 7 = .ok (.iload 5, 2) := by decide +kernel
theorem dJ1_indexOfChar_4cfef_9 : decode cJ1_indexOfChar_4cfef 9 = .ok (.iload_n 3, 1) := by decide +kernel
theorem dJ1_indexOfChar_4cfef_10 : decode cJ1_indexOfChar_4cfef 10 = .ok (.if_icmp .ge 21, 3) := by decide +kernel
theorem dJ1_indexOfChar_4cfef_13 : decode cJ1_indexOfChar_4cfef 13 = .ok (.aload_n 0, 1) := by decide +kernel
theorem dJ1_indexOfChar_4cfef_14 : decode cJ1_indexOfChar_4cfef 14 = .ok (.iload 5, 2) := by decide +kernel
theorem dJ1_indexOfChar_4cfef_16 : decode cJ1_indexOfChar_4cfef 16 = .ok (.baload, 1) := by decide +kernel
theorem dJ1_indexOfChar_4cfef_17 : decode cJ1_indexOfChar_4cfef 17 = .ok (.iload 4, 2) := by decide +kernel
theorem dJ1_indexOfChar_4cfef_19 : decode cJ1_indexOfChar_4cfef 19 = .ok (.if_icmp .ne 6, 3) := by decide +kernel
theorem dJ1_indexOfChar_4cfef_22 : decode cJ1_indexOfChar_4cfef 22 = .ok (.iload 5, 2) := by decide +kernel
theorem dJ1_indexOfChar_4cfef_24 : decode cJ1_indexOfChar_4cfef 24 = .ok (.ireturn, 1) := by decide +kernel
theorem dJ1_indexOfChar_4cfef_25 : decode cJ1_indexOfChar_4cfef 25 = .ok (.iinc 5 1, 3) := by decide +kernel
theorem dJ1_indexOfChar_4cfef_28 : decode cJ1_indexOfChar_4cfef 28 = .ok (.goto (-21), 3) := by decide +kernel
theorem dJ1_indexOfChar_4cfef_31 : decode cJ1_indexOfChar_4cfef 31 = .ok (.iconst (-1), 1) := by decide +kernel
theorem dJ1_indexOfChar_4cfef_32 : decode cJ1_indexOfChar_4cfef 32 = .ok (.ireturn, 1) := by decide +kernel
theorem dJ3_checkIndex_8e157_0 : decode cJ3_checkIndex_8e157 0 = .ok (.iload_n 0, 1) := by decide +kernel
theorem dJ3_checkIndex_8e157_1 : decode cJ3_checkIndex_8e157 1 = .ok (.ifCond .lt 8, 3) := by decide +kernel
theorem dJ3_checkIndex_8e157_4 : decode cJ3_checkIndex_8e157 4 = .ok (.iload_n 0, 1) := by decide +kernel
theorem dJ3_checkIndex_8e157_5 : decode cJ3_checkIndex_8e157 5 = .ok (.iload_n 1, 1) := by decide +kernel
theorem dJ3_checkIndex_8e157_6 : decode cJ3_checkIndex_8e157 6 = .ok (.if_icmp .lt 10, 3) := by decide +kernel
theorem dJ3_checkIndex_8e157_9 : decode cJ3_checkIndex_8e157 9 = .ok (.aload_n 2, 1) := by decide +kernel
theorem dJ3_checkIndex_8e157_10 : decode cJ3_checkIndex_8e157 10 = .ok (.iload_n 0, 1) := by decide +kernel
theorem dJ3_checkIndex_8e157_11 : decode cJ3_checkIndex_8e157 11 = .ok (.iload_n 1, 1) := by decide +kernel
theorem dJ3_checkIndex_8e157_12 : decode cJ3_checkIndex_8e157 12 = .ok (.invokestatic 95, 3) := by decide +kernel
theorem dJ3_checkIndex_8e157_15 : decode cJ3_checkIndex_8e157 15 = .ok (.athrow, 1) := by decide +kernel
theorem dJ3_checkIndex_8e157_16 : decode cJ3_checkIndex_8e157 16 = .ok (.iload_n 0, 1) := by decide +kernel
theorem dJ3_checkIndex_8e157_17 : decode cJ3_checkIndex_8e157 17 = .ok (.ireturn, 1) := by decide +kernel
theorem dJ3_checkFromToIndex_8c36e_0 : decode cJ3_checkFromToIndex_8c36e 0 = .ok (.iload_n 0, 1) := by decide +kernel
theorem dJ3_checkFromToIndex_8c36e_1 : decode cJ3_checkFromToIndex_8c36e 1 = .ok (.ifCond .lt 13, 3) := by decide +kernel
theorem dJ3_checkFromToIndex_8c36e_4 : decode cJ3_checkFromToIndex_8c36e 4 = .ok (.iload_n 0, 1) := by decide +kernel
theorem dJ3_checkFromToIndex_8c36e_5 : decode cJ3_checkFromToIndex_8c36e 5 = .ok (.iload_n 1, 1) := by decide +kernel
theorem dJ3_checkFromToIndex_8c36e_6 : decode cJ3_checkFromToIndex_8c36e 6 = .ok (.if_icmp .gt 8, 3) := by decide +kernel
theorem dJ3_checkFromToIndex_8c36e_9 : decode cJ3_checkFromToIndex_8c36e 9 = .ok (.iload_n 1, 1) := by decide +kernel
theorem dJ3_checkFromToIndex_8c36e_10 : decode cJ3_checkFromToIndex_8c36e 10 = .ok (.iload_n 2, 1) := by decide +kernel
theorem dJ3_checkFromToIndex_8c36e_11 : decode cJ3_checkFromToIndex_8c36e 11 = .ok (.if_icmp .le 11, 3) := by decide +kernel
theorem dJ3_checkFromToIndex_8c36e_14 : decode cJ3_checkFromToIndex_8c36e 14 = .ok (.aload_n 3, 1) := by decide +kernel
theorem dJ3_checkFromToIndex_8c36e_15 : decode cJ3_checkFromToIndex_8c36e 15 = .ok (.iload_n 0, 1) := by decide +kernel
theorem dJ3_checkFromToIndex_8c36e_16 : decode cJ3_checkFromToIndex_8c36e 16 = .ok (.iload_n 1, 1) := by decide +kernel
theorem dJ3_checkFromToIndex_8c36e_17 : decode cJ3_checkFromToIndex_8c36e 17 = .ok (.iload_n 2, 1) := by decide +kernel
theorem dJ3_checkFromToIndex_8c36e_18 : decode cJ3_checkFromToIndex_8c36e 18 = .ok (.invokestatic 99, 3) := by decide +kernel
theorem dJ3_checkFromToIndex_8c36e_21 : decode cJ3_checkFromToIndex_8c36e 21 = .ok (.athrow, 1) := by decide +kernel
theorem dJ3_checkFromToIndex_8c36e_22 : decode cJ3_checkFromToIndex_8c36e 22 = .ok (.iload_n 0, 1) := by decide +kernel
theorem dJ3_checkFromToIndex_8c36e_23 : decode cJ3_checkFromToIndex_8c36e 23 = .ok (.ireturn, 1) := by decide +kernel
