theorem dX10_feed_0 : decode cX10_feed 0 = .ok (.aload_n 0, 1) := by decide +kernel
theorem dX10_feed_1 : decode cX10_feed 1 = .ok (.getfield 172, 3) := by decide +kernel
theorem dX10_feed_4 : decode cX10_feed 4 = .ok (.bipush 20, 2) := by decide +kernel
theorem dX10_feed_6 : decode cX10_feed 6 = .ok (.iadd, 1) := by decide +kernel
theorem dX10_feed_7 : decode cX10_feed 7 = .ok (.sipush 2000, 3) := by decide +kernel
theorem dX10_feed_10 : decode cX10_feed 10 = .ok (.if_icmp .le 5, 3) := by decide +kernel
theorem dX10_feed_13 : decode cX10_feed 13 = .ok (.iconst (-1), 1) := by decide +kernel
theorem dX10_feed_14 : decode cX10_feed 14 = .ok (.ireturn, 1) := by decide +kernel
theorem dX10_feed_15 : decode cX10_feed 15 = .ok (.aload_n 0, 1) := by decide +kernel
theorem dX10_feed_16 : decode cX10_feed 16 = .ok (.iload_n 1, 1) := by decide +kernel
theorem dX10_feed_17 : decode cX10_feed 17 = .ok (.invokevirtual 175, 3) := by decide +kernel
theorem dX10_feed_20 : decode cX10_feed 20 = .ok (.aload_n 0, 1) := by decide +kernel
theorem dX10_feed_21 : decode cX10_feed 21 = .ok (.iload_n 2, 1) := by decide +kernel
theorem dX10_feed_22 : decode cX10_feed 22 = .ok (.invokevirtual 175, 3) := by decide +kernel
theorem dX10_feed_25 : decode cX10_feed 25 = .ok (.aload_n 0, 1) := by decide +kernel
theorem dX10_feed_26 : decode cX10_feed 26 = .ok (.iload_n 3, 1) := by decide +kernel
theorem dX10_feed_27 : decode cX10_feed 27 = .ok (.invokevirtual 175, 3) := by decide +kernel
theorem dX10_feed_30 : decode cX10_feed 30 = .ok (.aload_n 0, 1) := by decide +kernel
theorem dX10_feed_31 : decode cX10_feed 31 = .ok (.iload 4, 2) := by decide +kernel
theorem dX10_feed_33 : decode cX10_feed 33 = .ok (.invokevirtual 175, 3) := by decide +kernel
theorem dX10_feed_36 : decode cX10_feed 36 = .ok (.aload_n 0, 1) := by decide +kernel
theorem dX10_feed_37 : decode cX10_feed 37 = .ok (.iload 5, 2) := by decide +kernel
theorem dX10_feed_39 : decode cX10_feed 39 = .ok (.invokevirtual 175, 3) := by decide +kernel
theorem dX10_feed_42 : decode cX10_feed 42 = .ok (.aload_n 0, 1) := by decide +kernel
theorem dX10_feed_43 : decode cX10_feed 43 = .ok (.getfield 172, 3) := by decide +kernel
theorem dX10_feed_46 : decode cX10_feed 46 = .ok (.ireturn, 1) := by decide +kernel
theorem dX10_put_0 : decode cX10_put 0 = .ok (.bipush 24, 2) := by decide +kernel
theorem dX10_put_2 : decode cX10_put 2 = .ok (.istore_n 2, 1) := by decide +kernel
theorem dX10_put_3 : decode cX10_put 3 = .ok (.iload_n 2, 1) := by decide +kernel
theorem dX10_put_4 : decode cX10_put 4 = .ok (.ifCond .lt 32, 3) := by decide +kernel
theorem dX10_put_7 : decode cX10_put 7 = .ok (.aload_n 0, 1) := by decide +kernel
theorem dX10_put_8 : decode cX10_put 8 = .ok (.getfield 13, 3) := by decide +kernel
theorem dX10_put_11 : decode cX10_put 11 = .ok (.aload_n 0, 1) := by decide +kernel
theorem dX10_put_12 : decode cX10_put 12 = .ok (.getfield 172, 3) := by decide +kernel
theorem dX10_put_15 : decode cX10_put 15 = .ok (.iload_n 1, 1) := by decide +kernel
theorem dX10_put_16 : decode cX10_put 16 = .ok (.iload_n 2, 1) := by decide +kernel
theorem dX10_put_17 : decode cX10_put 17 = .ok (.ishr, 1) := by decide +kernel
theorem dX10_put_18 : decode cX10_put 18 = .ok (.i2b, 1) := by decide +kernel
theorem dX10_put_19 : decode cX10_put 19 = .ok (.bastore, 1) := by decide +kernel
theorem dX10_put_20 : decode cX10_put 20 = .ok (.aload_n 0, 1) := by decide +kernel
theorem dX10_put_21 : decode cX10_put 21 = .ok (.dup, 1) := by decide +kernel
theorem dX10_put_22 : decode cX10_put 22 = .ok (.getfield 172, 3) := by decide +kernel
theorem dX10_put_25 : decode cX10_put 25 = .ok (.iconst 1, 1) := by decide +kernel
theorem dX10_put_26 : decode cX10_put 26 = .ok (.iadd, 1) := by decide +kernel
theorem dX10_put_27 : decode cX10_put 27 = .ok (.putfield 172, 3) := by decide +kernel
theorem dX10_put_30 : decode cX10_put 30 = .ok (.iinc 2 (-8), 3) := by decide +kernel
theorem dX10_put_33 : decode cX10_put 33 = .ok (.goto (-30), 3) := by decide +kernel
theorem dX10_put_36 : decode cX10_put 36 = .ok (.return_, 1) := by decide +kernel
theorem dX10_back_0 : decode cX10_back 0 = .ok (.iload_n 1, 1) := by decide +kernel
theorem dX10_back_1 : decode cX10_back 1 = .ok (.ifCond .lt 11, 3) := by decide +kernel
theorem dX10_back_4 : decode cX10_back 4 = .ok (.iload_n 1, 1) := by decide +kernel
theorem dX10_back_5 : decode cX10_back 5 = .ok (.aload_n 0, 1) := by decide +kernel
theorem dX10_back_6 : decode cX10_back 6 = .ok (.getfield 172, 3) := by decide +kernel
theorem dX10_back_9 : decode cX10_back 9 = .ok (.if_icmp .le 5, 3) := by decide +kernel
theorem dX10_back_12 : decode cX10_back 12 = .ok (.iconst (-1), 1) := by decide +kernel
theorem dX10_back_13 : decode cX10_back 13 = .ok (.ireturn, 1) := by decide +kernel
theorem dX10_back_14 : decode cX10_back 14 = .ok (.aload_n 0, 1) := by decide +kernel
theorem dX10_back_15 : decode cX10_back 15 = .ok (.dup, 1) := by decide +kernel
theorem dX10_back_16 : decode cX10_back 16 = .ok (.getfield 172, 3) := by decide +kernel
theorem dX10_back_19 : decode cX10_back 19 = .ok (.iload_n 1, 1) := by decide +kernel
theorem dX10_back_20 : decode cX10_back 20 = .ok (.isub, 1) := by decide +kernel
theorem dX10_back_21 : decode cX10_back 21 = .ok (.putfield 172, 3) := by decide +kernel
theorem dX10_back_24 : decode cX10_back 24 = .ok (.aload_n 0, 1) := by decide +kernel
theorem dX10_back_25 : decode cX10_back 25 = .ok (.getfield 172, 3) := by decide +kernel
theorem dX10_back_28 : decode cX10_back 28 = .ok (.ireturn, 1) := by decide +kernel
theorem dX10_byteAt_0 : decode cX10_byteAt 0 = .ok (.iload_n 1, 1) := by decide +kernel
theorem dX10_byteAt_1 : decode cX10_byteAt 1 = .ok (.aload_n 0, 1) := by decide +kernel
theorem dX10_byteAt_2 : decode cX10_byteAt 2 = .ok (.getfield 178, 3) := by decide +kernel
theorem dX10_byteAt_5 : decode cX10_byteAt 5 = .ok (.if_icmp .ge 16, 3) := by decide +kernel
theorem dX10_byteAt_8 : decode cX10_byteAt 8 = .ok (.aload_n 0, 1) := by decide +kernel
theorem dX10_byteAt_9 : decode cX10_byteAt 9 = .ok (.getfield 17, 3) := by decide +kernel
theorem dX10_byteAt_12 : decode cX10_byteAt 12 = .ok (.iload_n 1, 1) := by decide +kernel
theorem dX10_byteAt_13 : decode cX10_byteAt 13 = .ok (.baload, 1) := by decide +kernel
theorem dX10_byteAt_14 : decode cX10_byteAt 14 = .ok (.sipush 255, 3) := by decide +kernel
theorem dX10_byteAt_17 : decode cX10_byteAt 17 = .ok (.iand, 1) := by decide +kernel
theorem dX10_byteAt_18 : decode cX10_byteAt 18 = .ok (.goto 4, 3) := by decide +kernel
theorem dX10_byteAt_21 : decode cX10_byteAt 21 = .ok (.iconst 0, 1) := by decide +kernel
theorem dX10_byteAt_22 : decode cX10_byteAt 22 = .ok (.ireturn, 1) := by decide +kernel
theorem dX10_isDigit_0 : decode cX10_isDigit 0 = .ok (.iload_n 0, 1) := by decide +kernel
theorem dX10_isDigit_1 : decode cX10_isDigit 1 = .ok (.bipush 48, 2) := by decide +kernel
theorem dX10_isDigit_3 : decode cX10_isDigit 3 = .ok (.if_icmp .lt 13, 3) := by decide +kernel
theorem dX10_isDigit_6 : decode cX10_isDigit 6 = .ok (.iload_n 0, 1) := by decide +kernel
theorem dX10_isDigit_7 : decode cX10_isDigit 7 = .ok (.bipush 57, 2) := by decide +kernel
theorem dX10_isDigit_9 : decode cX10_isDigit 9 = .ok (.if_icmp .gt 7, 3) := by decide +kernel
theorem dX10_isDigit_12 : decode cX10_isDigit 12 = .ok (.iconst 1, 1) := by decide +kernel
theorem dX10_isDigit_13 : decode cX10_isDigit 13 = .ok (.goto 4, 3) := by decide +kernel
theorem dX10_isDigit_16 : decode cX10_isDigit 16 = .ok (.iconst 0, 1) := by decide +kernel
theorem dX10_isDigit_17 : decode cX10_isDigit 17 = .ok (.ireturn, 1) := by decide +kernel
theorem dX10_isLetter_0 : decode cX10_isLetter 0 = .ok (.iload_n 0, 1) := by decide +kernel
theorem dX10_isLetter_1 : decode cX10_isLetter 1 = .ok (.bipush 97, 2) := by decide +kernel
theorem dX10_isLetter_3 : decode cX10_isLetter 3 = .ok (.if_icmp .lt 13, 3) := by decide +kernel
theorem dX10_isLetter_6 : decode cX10_isLetter 6 = .ok (.iload_n 0, 1) := by decide +kernel
theorem dX10_isLetter_7 : decode cX10_isLetter 7 = .ok (.bipush 122, 2) := by decide +kernel
theorem dX10_isLetter_9 : decode cX10_isLetter 9 = .ok (.if_icmp .gt 7, 3) := by decide +kernel
theorem dX10_isLetter_12 : decode cX10_isLetter 12 = .ok (.iconst 1, 1) := by decide +kernel
theorem dX10_isLetter_13 : decode cX10_isLetter 13 = .ok (.goto 4, 3) := by decide +kernel
theorem dX10_isLetter_16 : decode cX10_isLetter 16 = .ok (.iconst 0, 1) := by decide +kernel
theorem dX10_isLetter_17 : decode cX10_isLetter 17 = .ok (.ireturn, 1) := by decide +kernel
theorem dX10_appends_0 : decode cX10_appends 0 = .ok (.iload_n 2, 1) := by decide +kernel
theorem dX10_appends_1 : decode cX10_appends 1 = .ok (.ifCond .ne 7, 3) := by decide +kernel
theorem dX10_appends_4 : decode cX10_appends 4 = .ok (.lload_n 0, 1) := by decide +kernel
theorem dX10_appends_5 : decode cX10_appends 5 = .ok (.goto 16, 3) := by decide +kernel
theorem dX10_appends_8 : decode cX10_appends 8 = .ok (.ldc2_w 181, 3) := by decide +kernel
theorem dX10_appends_11 : decode cX10_appends 11 = .ok (.lload_n 0, 1) := by decide +kernel
theorem dX10_appends_12 : decode cX10_appends 12 = .ok (.lmul, 1) := by decide +kernel
theorem dX10_appends_13 : decode cX10_appends 13 = .ok (.iload_n 2, 1) := by decide +kernel
theorem dX10_appends_14 : decode cX10_appends 14 = .ok (.bipush 97, 2) := by decide +kernel
theorem dX10_appends_16 : decode cX10_appends 16 = .ok (.isub, 1) := by decide +kernel
theorem dX10_appends_17 : decode cX10_appends 17 = .ok (.iconst 1, 1) := by decide +kernel
theorem dX10_appends_18 : decode cX10_appends 18 = .ok (.iadd, 1) := by decide +kernel
theorem dX10_appends_19 : decode cX10_appends 19 = .ok (.i2l, 1) := by decide +kernel
theorem dX10_appends_20 : decode cX10_appends 20 = .ok (.ladd, 1) := by decide +kernel
theorem dX10_appends_21 : decode cX10_appends 21 = .ok (.lreturn, 1) := by decide +kernel
theorem dX10_word_0 : decode cX10_word 0 = .ok (.lconst 0, 1) := by decide +kernel
theorem dX10_word_1 : decode cX10_word 1 = .ok (.iload_n 0, 1) := by decide +kernel
theorem dX10_word_2 : decode cX10_word 2 = .ok (.invokestatic 183, 3) := by decide +kernel
theorem dX10_word_5 : decode cX10_word 5 = .ok (.iload_n 1, 1) := by decide +kernel
theorem dX10_word_6 : decode cX10_word 6 = .ok (.invokestatic 183, 3) := by decide +kernel
theorem dX10_word_9 : decode cX10_word 9 = .ok (.iload_n 2, 1) := by decide +kernel
theorem dX10_word_10 : decode cX10_word 10 = .ok (.invokestatic 183, 3) := by decide +kernel
theorem dX10_word_13 : decode cX10_word 13 = .ok (.iload_n 3, 1) := by decide +kernel
theorem dX10_word_14 : decode cX10_word 14 = .ok (.invokestatic 183, 3) := by decide +kernel
theorem dX10_word_17 : decode cX10_word 17 = .ok (.iload 4, 2) := by decide +kernel
theorem dX10_word_19 : decode cX10_word 19 = .ok (.invokestatic 183, 3) := by decide +kernel
theorem dX10_word_22 : decode cX10_word 22 = .ok (.iload 5, 2) := by decide +kernel
theorem dX10_word_24 : decode cX10_word 24 = .ok (.invokestatic 183, 3) := by decide +kernel
theorem dX10_word_27 : decode cX10_word 27 = .ok (.iload 6, 2) := by decide +kernel
theorem dX10_word_29 : decode cX10_word 29 = .ok (.invokestatic 183, 3) := by decide +kernel
theorem dX10_word_32 : decode cX10_word 32 = .ok (.lreturn, 1) := by decide +kernel
theorem dX10_token_0 : decode cX10_token 0 = .ok (.aload_n 0, 1) := by decide +kernel
theorem dX10_token_1 : decode cX10_token 1 = .ok (.getfield 20, 3) := by decide +kernel
theorem dX10_token_4 : decode cX10_token 4 = .ok (.aload_n 0, 1) := by decide +kernel
theorem dX10_token_5 : decode cX10_token 5 = .ok (.getfield 187, 3) := by decide +kernel
theorem dX10_token_8 : decode cX10_token 8 = .ok (.iload_n 1, 1) := by decide +kernel
theorem dX10_token_9 : decode cX10_token 9 = .ok (.iastore, 1) := by decide +kernel
theorem dX10_token_10 : decode cX10_token 10 = .ok (.aload_n 0, 1) := by decide +kernel
theorem dX10_token_11 : decode cX10_token 11 = .ok (.getfield 24, 3) := by decide +kernel
theorem dX10_token_14 : decode cX10_token 14 = .ok (.aload_n 0, 1) := by decide +kernel
theorem dX10_token_15 : decode cX10_token 15 = .ok (.getfield 187, 3) := by decide +kernel
theorem dX10_token_18 : decode cX10_token 18 = .ok (.iload_n 2, 1) := by decide +kernel
theorem dX10_token_19 : decode cX10_token 19 = .ok (.iastore, 1) := by decide +kernel
theorem dX10_token_20 : decode cX10_token 20 = .ok (.aload_n 0, 1) := by decide +kernel
theorem dX10_token_21 : decode cX10_token 21 = .ok (.getfield 27, 3) := by decide +kernel
theorem dX10_token_24 : decode cX10_token 24 = .ok (.aload_n 0, 1) := by decide +kernel
theorem dX10_token_25 : decode cX10_token 25 = .ok (.getfield 187, 3) := by decide +kernel
theorem dX10_token_28 : decode cX10_token 28 = .ok (.iload_n 3, 1) := by decide +kernel
theorem dX10_token_29 : decode cX10_token 29 = .ok (.iastore, 1) := by decide +kernel
theorem dX10_token_30 : decode cX10_token 30 = .ok (.aload_n 0, 1) := by decide +kernel
theorem dX10_token_31 : decode cX10_token 31 = .ok (.getfield 30, 3) := by decide +kernel
theorem dX10_token_34 : decode cX10_token 34 = .ok (.aload_n 0, 1) := by decide +kernel
theorem dX10_token_35 : decode cX10_token 35 = .ok (.getfield 187, 3) := by decide +kernel
theorem dX10_token_38 : decode cX10_token 38 = .ok (.lload 4, 2) := by decide +kernel
theorem dX10_token_40 : decode cX10_token 40 = .ok (.lastore, 1) := by decide +kernel
theorem dX10_token_41 : decode cX10_token 41 = .ok (.aload_n 0, 1) := by decide +kernel
theorem dX10_token_42 : decode cX10_token 42 = .ok (.dup, 1) := by decide +kernel
theorem dX10_token_43 : decode cX10_token 43 = .ok (.getfield 187, 3) := by decide +kernel
theorem dX10_token_46 : decode cX10_token 46 = .ok (.iconst 1, 1) := by decide +kernel
theorem dX10_token_47 : decode cX10_token 47 = .ok (.iadd, 1) := by decide +kernel
theorem dX10_token_48 : decode cX10_token 48 = .ok (.putfield 187, 3) := by decide +kernel
theorem dX10_token_51 : decode cX10_token 51 = .ok (.return_, 1) := by decide +kernel
theorem dX10_cutsUp_0 : decode cX10_cutsUp 0 = .ok (.aload_n 0, 1) := by decide +kernel
theorem dX10_cutsUp_1 : decode cX10_cutsUp 1 = .ok (.iconst 0, 1) := by decide +kernel
theorem dX10_cutsUp_2 : decode cX10_cutsUp 2 = .ok (.putfield 187, 3) := by decide +kernel
theorem dX10_cutsUp_5 : decode cX10_cutsUp 5 = .ok (.iconst 0, 1) := by decide +kernel
theorem dX10_cutsUp_6 : decode cX10_cutsUp 6 = .ok (.istore_n 1, 1) := by decide +kernel
theorem dX10_cutsUp_7 : decode cX10_cutsUp 7 = .ok (.aload_n 0, 1) := by decide +kernel
theorem dX10_cutsUp_8 : decode cX10_cutsUp 8 = .ok (.getfield 187, 3) := by decide +kernel
theorem dX10_cutsUp_11 : decode cX10_cutsUp 11 = .ok (.sipush 400, 3) := by decide +kernel
theorem dX10_cutsUp_14 : decode cX10_cutsUp 14 = .ok (.if_icmp .gt 280, 3) := by decide +kernel
theorem dX10_cutsUp_17 : decode cX10_cutsUp 17 = .ok (.aload_n 0, 1) := by decide +kernel
theorem dX10_cutsUp_18 : decode cX10_cutsUp 18 = .ok (.iload_n 1, 1) := by decide +kernel
theorem dX10_cutsUp_19 : decode cX10_cutsUp 19 = .ok (.invokevirtual 190, 3) := by decide +kernel
theorem dX10_cutsUp_22 : decode cX10_cutsUp 22 = .ok (.istore_n 2, 1) := by decide +kernel
theorem dX10_cutsUp_23 : decode cX10_cutsUp 23 = .ok (.iload_n 1, 1) := by decide +kernel
theorem dX10_cutsUp_24 : decode cX10_cutsUp 24 = .ok (.aload_n 0, 1) := by decide +kernel
theorem dX10_cutsUp_25 : decode cX10_cutsUp 25 = .ok (.getfield 178, 3) := by decide +kernel
theorem dX10_cutsUp_28 : decode cX10_cutsUp 28 = .ok (.if_icmp .lt 15, 3) := by decide +kernel
theorem dX10_cutsUp_31 : decode cX10_cutsUp 31 = .ok (.aload_n 0, 1) := by decide +kernel
theorem dX10_cutsUp_32 : decode cX10_cutsUp 32 = .ok (.iconst 0, 1) := by decide +kernel
theorem dX10_cutsUp_33 : decode cX10_cutsUp 33 = .ok (.aload_n 0, 1) := by decide +kernel
theorem dX10_cutsUp_34 : decode cX10_cutsUp 34 = .ok (.getfield 178, 3) := by decide +kernel
theorem dX10_cutsUp_37 : decode cX10_cutsUp 37 = .ok (.iconst 0, 1) := by decide +kernel
theorem dX10_cutsUp_38 : decode cX10_cutsUp 38 = .ok (.lconst 0, 1) := by decide +kernel
theorem dX10_cutsUp_39 : decode cX10_cutsUp 39 = .ok (.invokevirtual 194, 3) := by decide +kernel
theorem dX10_cutsUp_42 : decode cX10_cutsUp 42 = .ok (.return_, 1) := by decide +kernel
theorem dX10_cutsUp_43 : decode cX10_cutsUp 43 = .ok (.iload_n 2, 1) := by decide +kernel
theorem dX10_cutsUp_44 : decode cX10_cutsUp 44 = .ok (.bipush 9, 2) := by decide +kernel
theorem dX10_cutsUp_46 : decode cX10_cutsUp 46 = .ok (.if_icmp .eq 21, 3) := by decide +kernel
theorem dX10_cutsUp_49 : decode cX10_cutsUp 49 = .ok (.iload_n 2, 1) := by decide +kernel
theorem dX10_cutsUp_50 : decode cX10_cutsUp 50 = .ok (.bipush 10, 2) := by decide +kernel
theorem dX10_cutsUp_52 : decode cX10_cutsUp 52 = .ok (.if_icmp .eq 15, 3) := by decide +kernel
theorem dX10_cutsUp_55 : decode cX10_cutsUp 55 = .ok (.iload_n 2, 1) := by decide +kernel
theorem dX10_cutsUp_56 : decode cX10_cutsUp 56 = .ok (.bipush 13, 2) := by decide +kernel
theorem dX10_cutsUp_58 : decode cX10_cutsUp 58 = .ok (.if_icmp .eq 9, 3) := by decide +kernel
theorem dX10_cutsUp_61 : decode cX10_cutsUp 61 = .ok (.iload_n 2, 1) := by decide +kernel
theorem dX10_cutsUp_62 : decode cX10_cutsUp 62 = .ok (.bipush 32, 2) := by decide +kernel
theorem dX10_cutsUp_64 : decode cX10_cutsUp 64 = .ok (.if_icmp .ne 9, 3) := by decide +kernel
theorem dX10_cutsUp_67 : decode cX10_cutsUp 67 = .ok (.iinc 1 1, 3) := by decide +kernel
theorem dX10_cutsUp_70 : decode cX10_cutsUp 70 = .ok (.goto 221, 3) := by decide +kernel
theorem dX10_cutsUp_73 : decode cX10_cutsUp 73 = .ok (.iload_n 2, 1) := by decide +kernel
theorem dX10_cutsUp_74 : decode cX10_cutsUp 74 = .ok (.invokestatic 198, 3) := by decide +kernel
theorem dX10_cutsUp_77 : decode cX10_cutsUp 77 = .ok (.ifCond .eq 119, 3) := by decide +kernel
theorem dX10_cutsUp_80 : decode cX10_cutsUp 80 = .ok (.iconst 0, 1) := by decide +kernel
theorem dX10_cutsUp_81 : decode cX10_cutsUp 81 = .ok (.istore_n 3, 1) := by decide +kernel
theorem dX10_cutsUp_82 : decode cX10_cutsUp 82 = .ok (.lconst 0, 1) := by decide +kernel
theorem dX10_cutsUp_83 : decode cX10_cutsUp 83 = .ok (.lstore 4, 2) := by decide +kernel
theorem dX10_cutsUp_85 : decode cX10_cutsUp 85 = .ok (.aload_n 0, 1) := by decide +kernel
theorem dX10_cutsUp_86 : decode cX10_cutsUp 86 = .ok (.iload_n 1, 1) := by decide +kernel
theorem dX10_cutsUp_87 : decode cX10_cutsUp 87 = .ok (.iload_n 3, 1) := by decide +kernel
theorem dX10_cutsUp_88 : decode cX10_cutsUp 88 = .ok (.iadd, 1) := by decide +kernel
theorem dX10_cutsUp_89 : decode cX10_cutsUp 89 = .ok (.invokevirtual 190, 3) := by decide +kernel
theorem dX10_cutsUp_92 : decode cX10_cutsUp 92 = .ok (.invokestatic 198, 3) := by decide +kernel
theorem dX10_cutsUp_95 : decode cX10_cutsUp 95 = .ok (.ifCond .eq 29, 3) := by decide +kernel
theorem dX10_cutsUp_98 : decode cX10_cutsUp 98 = .ok (.iload_n 3, 1) := by decide +kernel
theorem dX10_cutsUp_99 : decode cX10_cutsUp 99 = .ok (.bipush 8, 2) := by decide +kernel
theorem dX10_cutsUp_101 : decode cX10_cutsUp 101 = .ok (.if_icmp .ge 17, 3) := by decide +kernel
theorem dX10_cutsUp_104 : decode cX10_cutsUp 104 = .ok (.lload 4, 2) := by decide +kernel
theorem dX10_cutsUp_106 : decode cX10_cutsUp 106 = .ok (.aload_n 0, 1) := by decide +kernel
theorem dX10_cutsUp_107 : decode cX10_cutsUp 107 = .ok (.iload_n 1, 1) := by decide +kernel
theorem dX10_cutsUp_108 : decode cX10_cutsUp 108 = .ok (.iload_n 3, 1) := by decide +kernel
theorem dX10_cutsUp_109 : decode cX10_cutsUp 109 = .ok (.iadd, 1) := by decide +kernel
theorem dX10_cutsUp_110 : decode cX10_cutsUp 110 = .ok (.invokevirtual 190, 3) := by decide +kernel
theorem dX10_cutsUp_113 : decode cX10_cutsUp 113 = .ok (.invokestatic 183, 3) := by decide +kernel
theorem dX10_cutsUp_116 : decode cX10_cutsUp 116 = .ok (.lstore 4, 2) := by decide +kernel
theorem dX10_cutsUp_118 : decode cX10_cutsUp 118 = .ok (.iinc 3 1, 3) := by decide +kernel
theorem dX10_cutsUp_121 : decode cX10_cutsUp 121 = .ok (.goto (-36), 3) := by decide +kernel
theorem dX10_cutsUp_124 : decode cX10_cutsUp 124 = .ok (.iload_n 3, 1) := by decide +kernel
theorem dX10_cutsUp_125 : decode cX10_cutsUp 125 = .ok (.bipush 8, 2) := by decide +kernel
theorem dX10_cutsUp_127 : decode cX10_cutsUp 127 = .ok (.if_icmp .le 7, 3) := by decide +kernel
theorem dX10_cutsUp_130 : decode cX10_cutsUp 130 = .ok (.iconst 3, 1) := by decide +kernel
theorem dX10_cutsUp_131 : decode cX10_cutsUp 131 = .ok (.goto 4, 3) := by decide +kernel
theorem dX10_cutsUp_134 : decode cX10_cutsUp 134 = .ok (.iconst 1, 1) := by decide +kernel
theorem dX10_cutsUp_135 : decode cX10_cutsUp 135 = .ok (.istore 6, 2) := by decide +kernel
theorem dX10_cutsUp_137 : decode cX10_cutsUp 137 = .ok (.iload_n 3, 1) := by decide +kernel
theorem dX10_cutsUp_138 : decode cX10_cutsUp 138 = .ok (.bipush 7, 2) := by decide +kernel
theorem dX10_cutsUp_140 : decode cX10_cutsUp 140 = .ok (.if_icmp .gt 39, 3) := by decide +kernel
theorem dX10_cutsUp_143 : decode cX10_cutsUp 143 = .ok (.iconst 0, 1) := by decide +kernel
theorem dX10_cutsUp_144 : decode cX10_cutsUp 144 = .ok (.istore 7, 2) := by decide +kernel
theorem dX10_cutsUp_146 : decode cX10_cutsUp 146 = .ok (.iload 7, 2) := by decide +kernel
theorem dX10_cutsUp_148 : decode cX10_cutsUp 148 = .ok (.bipush 21, 2) := by decide +kernel
theorem dX10_cutsUp_150 : decode cX10_cutsUp 150 = .ok (.if_icmp .ge 29, 3) := by decide +kernel
theorem dX10_cutsUp_153 : decode cX10_cutsUp 153 = .ok (.aload_n 0, 1) := by decide +kernel
theorem dX10_cutsUp_154 : decode cX10_cutsUp 154 = .ok (.getfield 34, 3) := by decide +kernel
theorem dX10_cutsUp_157 : decode cX10_cutsUp 157 = .ok (.iload 7, 2) := by decide +kernel
theorem dX10_cutsUp_159 : decode cX10_cutsUp 159 = .ok (.laload, 1) := by decide +kernel
theorem dX10_cutsUp_160 : decode cX10_cutsUp 160 = .ok (.lload 4, 2) := by decide +kernel
theorem dX10_cutsUp_162 : decode cX10_cutsUp 162 = .ok (.lcmp, 1) := by decide +kernel
theorem dX10_cutsUp_163 : decode cX10_cutsUp 163 = .ok (.ifCond .ne 10, 3) := by decide +kernel
theorem dX10_cutsUp_166 : decode cX10_cutsUp 166 = .ok (.bipush 20, 2) := by decide +kernel
theorem dX10_cutsUp_168 : decode cX10_cutsUp 168 = .ok (.iload 7, 2) := by decide +kernel
theorem dX10_cutsUp_170 : decode cX10_cutsUp 170 = .ok (.iadd, 1) := by decide +kernel
theorem dX10_cutsUp_171 : decode cX10_cutsUp 171 = .ok (.istore 6, 2) := by decide +kernel
theorem dX10_cutsUp_173 : decode cX10_cutsUp 173 = .ok (.iinc 7 1, 3) := by decide +kernel
theorem dX10_cutsUp_176 : decode cX10_cutsUp 176 = .ok (.goto (-30), 3) := by decide +kernel
theorem dX10_cutsUp_179 : decode cX10_cutsUp 179 = .ok (.aload_n 0, 1) := by decide +kernel
theorem dX10_cutsUp_180 : decode cX10_cutsUp 180 = .ok (.iload 6, 2) := by decide +kernel
theorem dX10_cutsUp_182 : decode cX10_cutsUp 182 = .ok (.iload_n 1, 1) := by decide +kernel
theorem dX10_cutsUp_183 : decode cX10_cutsUp 183 = .ok (.iconst 0, 1) := by decide +kernel
theorem dX10_cutsUp_184 : decode cX10_cutsUp 184 = .ok (.lload 4, 2) := by decide +kernel
theorem dX10_cutsUp_186 : decode cX10_cutsUp 186 = .ok (.invokevirtual 194, 3) := by decide +kernel
theorem dX10_cutsUp_189 : decode cX10_cutsUp 189 = .ok (.iload_n 1, 1) := by decide +kernel
theorem dX10_cutsUp_190 : decode cX10_cutsUp 190 = .ok (.iload_n 3, 1) := by decide +kernel
theorem dX10_cutsUp_191 : decode cX10_cutsUp 191 = .ok (.iadd, 1) := by decide +kernel
theorem dX10_cutsUp_192 : decode cX10_cutsUp 192 = .ok (.istore_n 1, 1) := by decide +kernel
theorem dX10_cutsUp_193 : decode cX10_cutsUp 193 = .ok (.goto 98, 3) := by decide +kernel
theorem dX10_cutsUp_196 : decode cX10_cutsUp 196 = .ok (.iload_n 2, 1) := by decide +kernel
theorem dX10_cutsUp_197 : decode cX10_cutsUp 197 = .ok (.invokestatic 202, 3) := by decide +kernel
theorem dX10_cutsUp_200 : decode cX10_cutsUp 200 = .ok (.ifCond .eq 75, 3) := by decide +kernel
theorem dX10_cutsUp_203 : decode cX10_cutsUp 203 = .ok (.iconst 0, 1) := by decide +kernel
theorem dX10_cutsUp_204 : decode cX10_cutsUp 204 = .ok (.istore_n 3, 1) := by decide +kernel
theorem dX10_cutsUp_205 : decode cX10_cutsUp 205 = .ok (.iconst 0, 1) := by decide +kernel
theorem dX10_cutsUp_206 : decode cX10_cutsUp 206 = .ok (.istore 4, 2) := by decide +kernel
theorem dX10_cutsUp_208 : decode cX10_cutsUp 208 = .ok (.aload_n 0, 1) := by decide +kernel
theorem dX10_cutsUp_209 : decode cX10_cutsUp 209 = .ok (.iload_n 1, 1) := by decide +kernel
theorem dX10_cutsUp_210 : decode cX10_cutsUp 210 = .ok (.iload_n 3, 1) := by decide +kernel
theorem dX10_cutsUp_211 : decode cX10_cutsUp 211 = .ok (.iadd, 1) := by decide +kernel
theorem dX10_cutsUp_212 : decode cX10_cutsUp 212 = .ok (.invokevirtual 190, 3) := by decide +kernel
theorem dX10_cutsUp_215 : decode cX10_cutsUp 215 = .ok (.invokestatic 202, 3) := by decide +kernel
theorem dX10_cutsUp_218 : decode cX10_cutsUp 218 = .ok (.ifCond .eq 32, 3) := by decide +kernel
theorem dX10_cutsUp_221 : decode cX10_cutsUp 221 = .ok (.iload_n 3, 1) := by decide +kernel
theorem dX10_cutsUp_222 : decode cX10_cutsUp 222 = .ok (.iconst 4, 1) := by decide +kernel
theorem dX10_cutsUp_223 : decode cX10_cutsUp 223 = .ok (.if_icmp .ge 21, 3) := by decide +kernel
theorem dX10_cutsUp_226 : decode cX10_cutsUp 226 = .ok (.bipush 10, 2) := by decide +kernel
theorem dX10_cutsUp_228 : decode cX10_cutsUp 228 = .ok (.iload 4, 2) := by decide +kernel
theorem dX10_cutsUp_230 : decode cX10_cutsUp 230 = .ok (.imul, 1) := by decide +kernel
theorem dX10_cutsUp_231 : decode cX10_cutsUp 231 = .ok (.aload_n 0, 1) := by decide +kernel
theorem dX10_cutsUp_232 : decode cX10_cutsUp 232 = .ok (.iload_n 1, 1) := by decide +kernel
theorem dX10_cutsUp_233 : decode cX10_cutsUp 233 = .ok (.iload_n 3, 1) := by decide +kernel
theorem dX10_cutsUp_234 : decode cX10_cutsUp 234 = .ok (.iadd, 1) := by decide +kernel
theorem dX10_cutsUp_235 : decode cX10_cutsUp 235 = .ok (.invokevirtual 190, 3) := by decide +kernel
theorem dX10_cutsUp_238 : decode cX10_cutsUp 238 = .ok (.iadd, 1) := by decide +kernel
theorem dX10_cutsUp_239 : decode cX10_cutsUp 239 = .ok (.bipush 48, 2) := by decide +kernel
theorem dX10_cutsUp_241 : decode cX10_cutsUp 241 = .ok (.isub, 1) := by decide +kernel
theorem dX10_cutsUp_242 : decode cX10_cutsUp 242 = .ok (.istore 4, 2) := by decide +kernel
theorem dX10_cutsUp_244 : decode cX10_cutsUp 244 = .ok (.iinc 3 1, 3) := by decide +kernel
theorem dX10_cutsUp_247 : decode cX10_cutsUp 247 = .ok (.goto (-39), 3) := by decide +kernel
theorem dX10_cutsUp_250 : decode cX10_cutsUp 250 = .ok (.aload_n 0, 1) := by decide +kernel
theorem dX10_cutsUp_251 : decode cX10_cutsUp 251 = .ok (.iload_n 3, 1) := by decide +kernel
theorem dX10_cutsUp_252 : decode cX10_cutsUp 252 = .ok (.iconst 4, 1) := by decide +kernel
theorem dX10_cutsUp_253 : decode cX10_cutsUp 253 = .ok (.if_icmp .le 7, 3) := by decide +kernel
theorem dX10_cutsUp_256 : decode cX10_cutsUp 256 = .ok (.iconst 3, 1) := by decide +kernel
theorem dX10_cutsUp_257 : decode cX10_cutsUp 257 = .ok (.goto 4, 3) := by decide +kernel
theorem dX10_cutsUp_260 : decode cX10_cutsUp 260 = .ok (.iconst 2, 1) := by decide +kernel
theorem dX10_cutsUp_261 : decode cX10_cutsUp 261 = .ok (.iload_n 1, 1) := by decide +kernel
theorem dX10_cutsUp_262 : decode cX10_cutsUp 262 = .ok (.iload 4, 2) := by decide +kernel
theorem dX10_cutsUp_264 : decode cX10_cutsUp 264 = .ok (.lconst 0, 1) := by decide +kernel
theorem dX10_cutsUp_265 : decode cX10_cutsUp 265 = .ok (.invokevirtual 194, 3) := by decide +kernel
theorem dX10_cutsUp_268 : decode cX10_cutsUp 268 = .ok (.iload_n 1, 1) := by decide +kernel
theorem dX10_cutsUp_269 : decode cX10_cutsUp 269 = .ok (.iload_n 3, 1) := by decide +kernel
theorem dX10_cutsUp_270 : decode cX10_cutsUp 270 = .ok (.iadd, 1) := by decide +kernel
theorem dX10_cutsUp_271 : decode cX10_cutsUp 271 = .ok (.istore_n 1, 1) := by decide +kernel
theorem dX10_cutsUp_272 : decode cX10_cutsUp 272 = .ok (.goto 19, 3) := by decide +kernel
theorem dX10_cutsUp_275 : decode cX10_cutsUp 275 = .ok (.iload_n 1, 1) := by decide +kernel
theorem dX10_cutsUp_276 : decode cX10_cutsUp 276 = .ok (.aload_n 0, 1) := by decide +kernel
theorem dX10_cutsUp_277 : decode cX10_cutsUp 277 = .ok (.iload_n 1, 1) := by decide +kernel
theorem dX10_cutsUp_278 : decode cX10_cutsUp 278 = .ok (.iload_n 2, 1) := by decide +kernel
theorem dX10_cutsUp_279 : decode cX10_cutsUp 279 = .ok (.aload_n 0, 1) := by decide +kernel
theorem dX10_cutsUp_280 : decode cX10_cutsUp 280 = .ok (.iload_n 1, 1) := by decide +kernel
theorem dX10_cutsUp_281 : decode cX10_cutsUp 281 = .ok (.iconst 1, 1) := by decide +kernel
theorem dX10_cutsUp_282 : decode cX10_cutsUp 282 = .ok (.iadd, 1) := by decide +kernel
theorem dX10_cutsUp_283 : decode cX10_cutsUp 283 = .ok (.invokevirtual 190, 3) := by decide +kernel
theorem dX10_cutsUp_286 : decode cX10_cutsUp 286 = .ok (.invokevirtual 205, 3) := by decide +kernel
theorem dX10_cutsUp_289 : decode cX10_cutsUp 289 = .ok (.iadd, 1) := by decide +kernel
theorem dX10_cutsUp_290 : decode cX10_cutsUp 290 = .ok (.istore_n 1, 1) := by decide +kernel
theorem dX10_cutsUp_291 : decode cX10_cutsUp 291 = .ok (.goto (-284), 3) := by decide +kernel
theorem dX10_cutsUp_294 : decode cX10_cutsUp 294 = .ok (.return_, 1) := by decide +kernel
theorem dX10_sign_0 : decode cX10_sign 0 = .ok (.iload_n 2, 1) := by decide +kernel
theorem dX10_sign_1 : decode cX10_sign 1 = .ok (.bipush 59, 2) := by decide +kernel
theorem dX10_sign_3 : decode cX10_sign 3 = .ok (.if_icmp .ne 7, 3) := by decide +kernel
theorem dX10_sign_6 : decode cX10_sign 6 = .ok (.iconst 4, 1) := by decide +kernel
theorem dX10_sign_7 : decode cX10_sign 7 = .ok (.goto 36, 3) := by decide +kernel
theorem dX10_sign_10 : decode cX10_sign 10 = .ok (.iload_n 2, 1) := by decide +kernel
theorem dX10_sign_11 : decode cX10_sign 11 = .ok (.bipush 61, 2) := by decide +kernel
theorem dX10_sign_13 : decode cX10_sign 13 = .ok (.if_icmp .ne 7, 3) := by decide +kernel
theorem dX10_sign_16 : decode cX10_sign 16 = .ok (.iconst 5, 1) := by decide +kernel
theorem dX10_sign_17 : decode cX10_sign 17 = .ok (.goto 26, 3) := by decide +kernel
theorem dX10_sign_20 : decode cX10_sign 20 = .ok (.iload_n 2, 1) := by decide +kernel
theorem dX10_sign_21 : decode cX10_sign 21 = .ok (.bipush 40, 2) := by decide +kernel
theorem dX10_sign_23 : decode cX10_sign 23 = .ok (.if_icmp .ne 8, 3) := by decide +kernel
theorem dX10_sign_26 : decode cX10_sign 26 = .ok (.bipush 6, 2) := by decide +kernel
theorem dX10_sign_28 : decode cX10_sign 28 = .ok (.goto 15, 3) := by decide +kernel
theorem dX10_sign_31 : decode cX10_sign 31 = .ok (.iload_n 2, 1) := by decide +kernel
theorem dX10_sign_32 : decode cX10_sign 32 = .ok (.bipush 41, 2) := by decide +kernel
theorem dX10_sign_34 : decode cX10_sign 34 = .ok (.if_icmp .ne 8, 3) := by decide +kernel
theorem dX10_sign_37 : decode cX10_sign 37 = .ok (.bipush 7, 2) := by decide +kernel
theorem dX10_sign_39 : decode cX10_sign 39 = .ok (.goto 4, 3) := by decide +kernel
theorem dX10_sign_42 : decode cX10_sign 42 = .ok (.iconst 3, 1) := by decide +kernel
theorem dX10_sign_43 : decode cX10_sign 43 = .ok (.istore 4, 2) := by decide +kernel
theorem dX10_sign_45 : decode cX10_sign 45 = .ok (.iload_n 2, 1) := by decide +kernel
theorem dX10_sign_46 : decode cX10_sign 46 = .ok (.bipush 43, 2) := by decide +kernel
theorem dX10_sign_48 : decode cX10_sign 48 = .ok (.if_icmp .ne 7, 3) := by decide +kernel
theorem dX10_sign_51 : decode cX10_sign 51 = .ok (.bipush 8, 2) := by decide +kernel
theorem dX10_sign_53 : decode cX10_sign 53 = .ok (.istore 4, 2) := by decide +kernel
theorem dX10_sign_55 : decode cX10_sign 55 = .ok (.iload_n 2, 1) := by decide +kernel
theorem dX10_sign_56 : decode cX10_sign 56 = .ok (.bipush 45, 2) := by decide +kernel
theorem dX10_sign_58 : decode cX10_sign 58 = .ok (.if_icmp .ne 7, 3) := by decide +kernel
theorem dX10_sign_61 : decode cX10_sign 61 = .ok (.bipush 9, 2) := by decide +kernel
theorem dX10_sign_63 : decode cX10_sign 63 = .ok (.istore 4, 2) := by decide +kernel
theorem dX10_sign_65 : decode cX10_sign 65 = .ok (.iload_n 2, 1) := by decide +kernel
theorem dX10_sign_66 : decode cX10_sign 66 = .ok (.bipush 42, 2) := by decide +kernel
theorem dX10_sign_68 : decode cX10_sign 68 = .ok (.if_icmp .ne 7, 3) := by decide +kernel
theorem dX10_sign_71 : decode cX10_sign 71 = .ok (.bipush 10, 2) := by decide +kernel
theorem dX10_sign_73 : decode cX10_sign 73 = .ok (.istore 4, 2) := by decide +kernel
theorem dX10_sign_75 : decode cX10_sign 75 = .ok (.iload_n 2, 1) := by decide +kernel
theorem dX10_sign_76 : decode cX10_sign 76 = .ok (.bipush 47, 2) := by decide +kernel
theorem dX10_sign_78 : decode cX10_sign 78 = .ok (.if_icmp .ne 7, 3) := by decide +kernel
theorem dX10_sign_81 : decode cX10_sign 81 = .ok (.bipush 15, 2) := by decide +kernel
theorem dX10_sign_83 : decode cX10_sign 83 = .ok (.istore 4, 2) := by decide +kernel
theorem dX10_sign_85 : decode cX10_sign 85 = .ok (.iload_n 2, 1) := by decide +kernel
theorem dX10_sign_86 : decode cX10_sign 86 = .ok (.bipush 60, 2) := by decide +kernel
theorem dX10_sign_88 : decode cX10_sign 88 = .ok (.if_icmp .ne 7, 3) := by decide +kernel
theorem dX10_sign_91 : decode cX10_sign 91 = .ok (.bipush 13, 2) := by decide +kernel
theorem dX10_sign_93 : decode cX10_sign 93 = .ok (.istore 4, 2) := by decide +kernel
theorem dX10_sign_95 : decode cX10_sign 95 = .ok (.aload_n 0, 1) := by decide +kernel
theorem dX10_sign_96 : decode cX10_sign 96 = .ok (.iload 4, 2) := by decide +kernel
theorem dX10_sign_98 : decode cX10_sign 98 = .ok (.iload_n 1, 1) := by decide +kernel
theorem dX10_sign_99 : decode cX10_sign 99 = .ok (.iconst 0, 1) := by decide +kernel
theorem dX10_sign_100 : decode cX10_sign 100 = .ok (.lconst 0, 1) := by decide +kernel
theorem dX10_sign_101 : decode cX10_sign 101 = .ok (.invokevirtual 194, 3) := by decide +kernel
theorem dX10_sign_104 : decode cX10_sign 104 = .ok (.iconst 1, 1) := by decide +kernel
theorem dX10_sign_105 : decode cX10_sign 105 = .ok (.ireturn, 1) := by decide +kernel
theorem dX10_is_0 : decode cX10_is 0 = .ok (.aload_n 0, 1) := by decide +kernel
theorem dX10_is_1 : decode cX10_is 1 = .ok (.getfield 209, 3) := by decide +kernel
theorem dX10_is_4 : decode cX10_is 4 = .ok (.ifCond .ne 20, 3) := by decide +kernel
theorem dX10_is_7 : decode cX10_is 7 = .ok (.aload_n 0, 1) := by decide +kernel
theorem dX10_is_8 : decode cX10_is 8 = .ok (.getfield 20, 3) := by decide +kernel
theorem dX10_is_11 : decode cX10_is 11 = .ok (.aload_n 0, 1) := by decide +kernel
theorem dX10_is_12 : decode cX10_is 12 = .ok (.getfield 212, 3) := by decide +kernel
theorem dX10_is_15 : decode cX10_is 15 = .ok (.iaload, 1) := by decide +kernel
theorem dX10_is_16 : decode cX10_is 16 = .ok (.iload_n 1, 1) := by decide +kernel
theorem dX10_is_17 : decode cX10_is 17 = .ok (.if_icmp .ne 7, 3) := by decide +kernel
theorem dX10_is_20 : decode cX10_is 20 = .ok (.iconst 1, 1) := by decide +kernel
theorem dX10_is_21 : decode cX10_is 21 = .ok (.goto 4, 3) := by decide +kernel
theorem dX10_is_24 : decode cX10_is 24 = .ok (.iconst 0, 1) := by decide +kernel
theorem dX10_is_25 : decode cX10_is 25 = .ok (.ireturn, 1) := by decide +kernel
theorem dX10_fail_0 : decode cX10_fail 0 = .ok (.aload_n 0, 1) := by decide +kernel
theorem dX10_fail_1 : decode cX10_fail 1 = .ok (.getfield 209, 3) := by decide +kernel
theorem dX10_fail_4 : decode cX10_fail 4 = .ok (.ifCond .le 4, 3) := by decide +kernel
theorem dX10_fail_7 : decode cX10_fail 7 = .ok (.return_, 1) := by decide +kernel
theorem dX10_fail_8 : decode cX10_fail 8 = .ok (.aload_n 0, 1) := by decide +kernel
theorem dX10_fail_9 : decode cX10_fail 9 = .ok (.iload_n 1, 1) := by decide +kernel
theorem dX10_fail_10 : decode cX10_fail 10 = .ok (.putfield 209, 3) := by decide +kernel
theorem dX10_fail_13 : decode cX10_fail 13 = .ok (.aload_n 0, 1) := by decide +kernel
theorem dX10_fail_14 : decode cX10_fail 14 = .ok (.aload_n 0, 1) := by decide +kernel
theorem dX10_fail_15 : decode cX10_fail 15 = .ok (.getfield 24, 3) := by decide +kernel
theorem dX10_fail_18 : decode cX10_fail 18 = .ok (.aload_n 0, 1) := by decide +kernel
theorem dX10_fail_19 : decode cX10_fail 19 = .ok (.getfield 212, 3) := by decide +kernel
theorem dX10_fail_22 : decode cX10_fail 22 = .ok (.iaload, 1) := by decide +kernel
theorem dX10_fail_23 : decode cX10_fail 23 = .ok (.putfield 215, 3) := by decide +kernel
theorem dX10_fail_26 : decode cX10_fail 26 = .ok (.return_, 1) := by decide +kernel
theorem dX10_wrong_0 : decode cX10_wrong 0 = .ok (.aload_n 0, 1) := by decide +kernel
theorem dX10_wrong_1 : decode cX10_wrong 1 = .ok (.getfield 24, 3) := by decide +kernel
theorem dX10_wrong_4 : decode cX10_wrong 4 = .ok (.iload_n 2, 1) := by decide +kernel
theorem dX10_wrong_5 : decode cX10_wrong 5 = .ok (.iaload, 1) := by decide +kernel
theorem dX10_wrong_6 : decode cX10_wrong 6 = .ok (.istore_n 3, 1) := by decide +kernel
theorem dX10_wrong_7 : decode cX10_wrong 7 = .ok (.aload_n 0, 1) := by decide +kernel
theorem dX10_wrong_8 : decode cX10_wrong 8 = .ok (.getfield 209, 3) := by decide +kernel
theorem dX10_wrong_11 : decode cX10_wrong 11 = .ok (.ifCond .gt 34, 3) := by decide +kernel
theorem dX10_wrong_14 : decode cX10_wrong 14 = .ok (.aload_n 0, 1) := by decide +kernel
theorem dX10_wrong_15 : decode cX10_wrong 15 = .ok (.getfield 218, 3) := by decide +kernel
theorem dX10_wrong_18 : decode cX10_wrong 18 = .ok (.ifCond .eq 28, 3) := by decide +kernel
theorem dX10_wrong_21 : decode cX10_wrong 21 = .ok (.iload_n 3, 1) := by decide +kernel
theorem dX10_wrong_22 : decode cX10_wrong 22 = .ok (.aload_n 0, 1) := by decide +kernel
theorem dX10_wrong_23 : decode cX10_wrong 23 = .ok (.getfield 221, 3) := by decide +kernel
theorem dX10_wrong_26 : decode cX10_wrong 26 = .ok (.if_icmp .gt 19, 3) := by decide +kernel
theorem dX10_wrong_29 : decode cX10_wrong 29 = .ok (.iload_n 3, 1) := by decide +kernel
theorem dX10_wrong_30 : decode cX10_wrong 30 = .ok (.aload_n 0, 1) := by decide +kernel
theorem dX10_wrong_31 : decode cX10_wrong 31 = .ok (.getfield 221, 3) := by decide +kernel
theorem dX10_wrong_34 : decode cX10_wrong 34 = .ok (.if_icmp .ne 12, 3) := by decide +kernel
theorem dX10_wrong_37 : decode cX10_wrong 37 = .ok (.iload_n 1, 1) := by decide +kernel
theorem dX10_wrong_38 : decode cX10_wrong 38 = .ok (.aload_n 0, 1) := by decide +kernel
theorem dX10_wrong_39 : decode cX10_wrong 39 = .ok (.getfield 218, 3) := by decide +kernel
theorem dX10_wrong_42 : decode cX10_wrong 42 = .ok (.if_icmp .lt 4, 3) := by decide +kernel
theorem dX10_wrong_45 : decode cX10_wrong 45 = .ok (.return_, 1) := by decide +kernel
theorem dX10_wrong_46 : decode cX10_wrong 46 = .ok (.aload_n 0, 1) := by decide +kernel
theorem dX10_wrong_47 : decode cX10_wrong 47 = .ok (.iload_n 1, 1) := by decide +kernel
theorem dX10_wrong_48 : decode cX10_wrong 48 = .ok (.putfield 218, 3) := by decide +kernel
theorem dX10_wrong_51 : decode cX10_wrong 51 = .ok (.aload_n 0, 1) := by decide +kernel
theorem dX10_wrong_52 : decode cX10_wrong 52 = .ok (.iload_n 3, 1) := by decide +kernel
theorem dX10_wrong_53 : decode cX10_wrong 53 = .ok (.putfield 221, 3) := by decide +kernel
theorem dX10_wrong_56 : decode cX10_wrong 56 = .ok (.return_, 1) := by decide +kernel
theorem dX10_goesOn_0 : decode cX10_goesOn 0 = .ok (.aload_n 0, 1) := by decide +kernel
theorem dX10_goesOn_1 : decode cX10_goesOn 1 = .ok (.getfield 212, 3) := by decide +kernel
theorem dX10_goesOn_4 : decode cX10_goesOn 4 = .ok (.sipush 400, 3) := by decide +kernel
theorem dX10_goesOn_7 : decode cX10_goesOn 7 = .ok (.if_icmp .ne 11, 3) := by decide +kernel
theorem dX10_goesOn_10 : decode cX10_goesOn 10 = .ok (.aload_n 0, 1) := by decide +kernel
theorem dX10_goesOn_11 : decode cX10_goesOn 11 = .ok (.iconst 2, 1) := by decide +kernel
theorem dX10_goesOn_12 : decode cX10_goesOn 12 = .ok (.invokevirtual 224, 3) := by decide +kernel
theorem dX10_goesOn_15 : decode cX10_goesOn 15 = .ok (.goto 13, 3) := by decide +kernel
theorem dX10_goesOn_18 : decode cX10_goesOn 18 = .ok (.aload_n 0, 1) := by decide +kernel
theorem dX10_goesOn_19 : decode cX10_goesOn 19 = .ok (.dup, 1) := by decide +kernel
theorem dX10_goesOn_20 : decode cX10_goesOn 20 = .ok (.getfield 212, 3) := by decide +kernel
theorem dX10_goesOn_23 : decode cX10_goesOn 23 = .ok (.iconst 1, 1) := by decide +kernel
theorem dX10_goesOn_24 : decode cX10_goesOn 24 = .ok (.iadd, 1) := by decide +kernel
theorem dX10_goesOn_25 : decode cX10_goesOn 25 = .ok (.putfield 212, 3) := by decide +kernel
theorem dX10_goesOn_28 : decode cX10_goesOn 28 = .ok (.return_, 1) := by decide +kernel
theorem dX10_must_0 : decode cX10_must 0 = .ok (.aload_n 0, 1) := by decide +kernel
theorem dX10_must_1 : decode cX10_must 1 = .ok (.iload_n 1, 1) := by decide +kernel
theorem dX10_must_2 : decode cX10_must 2 = .ok (.invokevirtual 227, 3) := by decide +kernel
theorem dX10_must_5 : decode cX10_must 5 = .ok (.ifCond .eq 10, 3) := by decide +kernel
theorem dX10_must_8 : decode cX10_must 8 = .ok (.aload_n 0, 1) := by decide +kernel
theorem dX10_must_9 : decode cX10_must 9 = .ok (.invokevirtual 230, 3) := by decide +kernel
theorem dX10_must_12 : decode cX10_must 12 = .ok (.goto 8, 3) := by decide +kernel
theorem dX10_must_15 : decode cX10_must 15 = .ok (.aload_n 0, 1) := by decide +kernel
theorem dX10_must_16 : decode cX10_must 16 = .ok (.iconst 1, 1) := by decide +kernel
theorem dX10_must_17 : decode cX10_must 17 = .ok (.invokevirtual 224, 3) := by decide +kernel
theorem dX10_must_20 : decode cX10_must 20 = .ok (.return_, 1) := by decide +kernel
theorem dX10_plain_0 : decode cX10_plain 0 = .ok (.aload_n 0, 1) := by decide +kernel
theorem dX10_plain_1 : decode cX10_plain 1 = .ok (.getfield 43, 3) := by decide +kernel
theorem dX10_plain_4 : decode cX10_plain 4 = .ok (.iload_n 1, 1) := by decide +kernel
theorem dX10_plain_5 : decode cX10_plain 5 = .ok (.iconst 0, 1) := by decide +kernel
theorem dX10_plain_6 : decode cX10_plain 6 = .ok (.iastore, 1) := by decide +kernel
theorem dX10_plain_7 : decode cX10_plain 7 = .ok (.aload_n 0, 1) := by decide +kernel
theorem dX10_plain_8 : decode cX10_plain 8 = .ok (.getfield 46, 3) := by decide +kernel
theorem dX10_plain_11 : decode cX10_plain 11 = .ok (.iload_n 1, 1) := by decide +kernel
theorem dX10_plain_12 : decode cX10_plain 12 = .ok (.iconst 0, 1) := by decide +kernel
theorem dX10_plain_13 : decode cX10_plain 13 = .ok (.iastore, 1) := by decide +kernel
theorem dX10_plain_14 : decode cX10_plain 14 = .ok (.aload_n 0, 1) := by decide +kernel
theorem dX10_plain_15 : decode cX10_plain 15 = .ok (.getfield 52, 3) := by decide +kernel
theorem dX10_plain_18 : decode cX10_plain 18 = .ok (.iload_n 1, 1) := by decide +kernel
theorem dX10_plain_19 : decode cX10_plain 19 = .ok (.iconst 0, 1) := by decide +kernel
theorem dX10_plain_20 : decode cX10_plain 20 = .ok (.iastore, 1) := by decide +kernel
theorem dX10_plain_21 : decode cX10_plain 21 = .ok (.aload_n 0, 1) := by decide +kernel
theorem dX10_plain_22 : decode cX10_plain 22 = .ok (.getfield 61, 3) := by decide +kernel
theorem dX10_plain_25 : decode cX10_plain 25 = .ok (.iload_n 1, 1) := by decide +kernel
theorem dX10_plain_26 : decode cX10_plain 26 = .ok (.iconst 0, 1) := by decide +kernel
theorem dX10_plain_27 : decode cX10_plain 27 = .ok (.iastore, 1) := by decide +kernel
theorem dX10_plain_28 : decode cX10_plain 28 = .ok (.aload_n 0, 1) := by decide +kernel
theorem dX10_plain_29 : decode cX10_plain 29 = .ok (.getfield 70, 3) := by decide +kernel
theorem dX10_plain_32 : decode cX10_plain 32 = .ok (.iload_n 1, 1) := by decide +kernel
theorem dX10_plain_33 : decode cX10_plain 33 = .ok (.bipush 100, 2) := by decide +kernel
theorem dX10_plain_35 : decode cX10_plain 35 = .ok (.iastore, 1) := by decide +kernel
theorem dX10_plain_36 : decode cX10_plain 36 = .ok (.aload_n 0, 1) := by decide +kernel
theorem dX10_plain_37 : decode cX10_plain 37 = .ok (.getfield 73, 3) := by decide +kernel
theorem dX10_plain_40 : decode cX10_plain 40 = .ok (.iload_n 1, 1) := by decide +kernel
theorem dX10_plain_41 : decode cX10_plain 41 = .ok (.iconst 0, 1) := by decide +kernel
theorem dX10_plain_42 : decode cX10_plain 42 = .ok (.iastore, 1) := by decide +kernel
theorem dX10_plain_43 : decode cX10_plain 43 = .ok (.aload_n 0, 1) := by decide +kernel
theorem dX10_plain_44 : decode cX10_plain 44 = .ok (.getfield 76, 3) := by decide +kernel
theorem dX10_plain_47 : decode cX10_plain 47 = .ok (.iload_n 1, 1) := by decide +kernel
theorem dX10_plain_48 : decode cX10_plain 48 = .ok (.iconst 0, 1) := by decide +kernel
theorem dX10_plain_49 : decode cX10_plain 49 = .ok (.iastore, 1) := by decide +kernel
theorem dX10_plain_50 : decode cX10_plain 50 = .ok (.iconst 0, 1) := by decide +kernel
theorem dX10_plain_51 : decode cX10_plain 51 = .ok (.istore_n 2, 1) := by decide +kernel
theorem dX10_plain_52 : decode cX10_plain 52 = .ok (.iload_n 2, 1) := by decide +kernel
theorem dX10_plain_53 : decode cX10_plain 53 = .ok (.iconst 3, 1) := by decide +kernel
theorem dX10_plain_54 : decode cX10_plain 54 = .ok (.if_icmp .ge 31, 3) := by decide +kernel
theorem dX10_plain_57 : decode cX10_plain 57 = .ok (.aload_n 0, 1) := by decide +kernel
theorem dX10_plain_58 : decode cX10_plain 58 = .ok (.getfield 79, 3) := by decide +kernel
theorem dX10_plain_61 : decode cX10_plain 61 = .ok (.iconst 3, 1) := by decide +kernel
theorem dX10_plain_62 : decode cX10_plain 62 = .ok (.iload_n 1, 1) := by decide +kernel
theorem dX10_plain_63 : decode cX10_plain 63 = .ok (.imul, 1) := by decide +kernel
theorem dX10_plain_64 : decode cX10_plain 64 = .ok (.iload_n 2, 1) := by decide +kernel
theorem dX10_plain_65 : decode cX10_plain 65 = .ok (.iadd, 1) := by decide +kernel
theorem dX10_plain_66 : decode cX10_plain 66 = .ok (.iconst 0, 1) := by decide +kernel
theorem dX10_plain_67 : decode cX10_plain 67 = .ok (.iastore, 1) := by decide +kernel
theorem dX10_plain_68 : decode cX10_plain 68 = .ok (.aload_n 0, 1) := by decide +kernel
theorem dX10_plain_69 : decode cX10_plain 69 = .ok (.getfield 82, 3) := by decide +kernel
theorem dX10_plain_72 : decode cX10_plain 72 = .ok (.iconst 3, 1) := by decide +kernel
theorem dX10_plain_73 : decode cX10_plain 73 = .ok (.iload_n 1, 1) := by decide +kernel
theorem dX10_plain_74 : decode cX10_plain 74 = .ok (.imul, 1) := by decide +kernel
theorem dX10_plain_75 : decode cX10_plain 75 = .ok (.iload_n 2, 1) := by decide +kernel
theorem dX10_plain_76 : decode cX10_plain 76 = .ok (.iadd, 1) := by decide +kernel
theorem dX10_plain_77 : decode cX10_plain 77 = .ok (.iconst 0, 1) := by decide +kernel
theorem dX10_plain_78 : decode cX10_plain 78 = .ok (.iastore, 1) := by decide +kernel
theorem dX10_plain_79 : decode cX10_plain 79 = .ok (.iinc 2 1, 3) := by decide +kernel
theorem dX10_plain_82 : decode cX10_plain 82 = .ok (.goto (-30), 3) := by decide +kernel
theorem dX10_plain_85 : decode cX10_plain 85 = .ok (.return_, 1) := by decide +kernel
theorem dX10_read_0 : decode cX10_read 0 = .ok (.aload_n 0, 1) := by decide +kernel
theorem dX10_read_1 : decode cX10_read 1 = .ok (.aload_n 0, 1) := by decide +kernel
theorem dX10_read_2 : decode cX10_read 2 = .ok (.getfield 172, 3) := by decide +kernel
theorem dX10_read_5 : decode cX10_read 5 = .ok (.putfield 178, 3) := by decide +kernel
theorem dX10_read_8 : decode cX10_read 8 = .ok (.iconst 0, 1) := by decide +kernel
theorem dX10_read_9 : decode cX10_read 9 = .ok (.istore_n 1, 1) := by decide +kernel
theorem dX10_read_10 : decode cX10_read 10 = .ok (.iload_n 1, 1) := by decide +kernel
theorem dX10_read_11 : decode cX10_read 11 = .ok (.aload_n 0, 1) := by decide +kernel
theorem dX10_read_12 : decode cX10_read 12 = .ok (.getfield 178, 3) := by decide +kernel
theorem dX10_read_15 : decode cX10_read 15 = .ok (.if_icmp .ge 21, 3) := by decide +kernel
theorem dX10_read_18 : decode cX10_read 18 = .ok (.aload_n 0, 1) := by decide +kernel
theorem dX10_read_19 : decode cX10_read 19 = .ok (.getfield 17, 3) := by decide +kernel
theorem dX10_read_22 : decode cX10_read 22 = .ok (.iload_n 1, 1) := by decide +kernel
theorem dX10_read_23 : decode cX10_read 23 = .ok (.aload_n 0, 1) := by decide +kernel
theorem dX10_read_24 : decode cX10_read 24 = .ok (.getfield 13, 3) := by decide +kernel
theorem dX10_read_27 : decode cX10_read 27 = .ok (.iload_n 1, 1) := by decide +kernel
theorem dX10_read_28 : decode cX10_read 28 = .ok (.baload, 1) := by decide +kernel
theorem dX10_read_29 : decode cX10_read 29 = .ok (.bastore, 1) := by decide +kernel
theorem dX10_read_30 : decode cX10_read 30 = .ok (.iinc 1 1, 3) := by decide +kernel
theorem dX10_read_33 : decode cX10_read 33 = .ok (.goto (-23), 3) := by decide +kernel
theorem dX10_read_36 : decode cX10_read 36 = .ok (.aload_n 0, 1) := by decide +kernel
theorem dX10_read_37 : decode cX10_read 37 = .ok (.iconst 0, 1) := by decide +kernel
theorem dX10_read_38 : decode cX10_read 38 = .ok (.putfield 172, 3) := by decide +kernel
theorem dX10_read_41 : decode cX10_read 41 = .ok (.aload_n 0, 1) := by decide +kernel
theorem dX10_read_42 : decode cX10_read 42 = .ok (.invokevirtual 233, 3) := by decide +kernel
theorem dX10_read_45 : decode cX10_read 45 = .ok (.aload_n 0, 1) := by decide +kernel
theorem dX10_read_46 : decode cX10_read 46 = .ok (.iconst 0, 1) := by decide +kernel
theorem dX10_read_47 : decode cX10_read 47 = .ok (.putfield 212, 3) := by decide +kernel
theorem dX10_read_50 : decode cX10_read 50 = .ok (.aload_n 0, 1) := by decide +kernel
theorem dX10_read_51 : decode cX10_read 51 = .ok (.iconst 0, 1) := by decide +kernel
theorem dX10_read_52 : decode cX10_read 52 = .ok (.putfield 236, 3) := by decide +kernel
theorem dX10_read_55 : decode cX10_read 55 = .ok (.aload_n 0, 1) := by decide +kernel
theorem dX10_read_56 : decode cX10_read 56 = .ok (.iconst 0, 1) := by decide +kernel
theorem dX10_read_57 : decode cX10_read 57 = .ok (.putfield 209, 3) := by decide +kernel
theorem dX10_read_60 : decode cX10_read 60 = .ok (.aload_n 0, 1) := by decide +kernel
theorem dX10_read_61 : decode cX10_read 61 = .ok (.iconst 0, 1) := by decide +kernel
theorem dX10_read_62 : decode cX10_read 62 = .ok (.putfield 218, 3) := by decide +kernel
theorem dX10_read_65 : decode cX10_read 65 = .ok (.aload_n 0, 1) := by decide +kernel
theorem dX10_read_66 : decode cX10_read 66 = .ok (.iconst 1, 1) := by decide +kernel
theorem dX10_read_67 : decode cX10_read 67 = .ok (.aload_n 0, 1) := by decide +kernel
theorem dX10_read_68 : decode cX10_read 68 = .ok (.getfield 239, 3) := by decide +kernel
theorem dX10_read_71 : decode cX10_read 71 = .ok (.isub, 1) := by decide +kernel
theorem dX10_read_72 : decode cX10_read 72 = .ok (.putfield 242, 3) := by decide +kernel
theorem dX10_read_75 : decode cX10_read 75 = .ok (.aload_n 0, 1) := by decide +kernel
theorem dX10_read_76 : decode cX10_read 76 = .ok (.iconst 0, 1) := by decide +kernel
theorem dX10_read_77 : decode cX10_read 77 = .ok (.putfield 245, 3) := by decide +kernel
theorem dX10_read_80 : decode cX10_read 80 = .ok (.aload_n 0, 1) := by decide +kernel
theorem dX10_read_81 : decode cX10_read 81 = .ok (.aload_n 0, 1) := by decide +kernel
theorem dX10_read_82 : decode cX10_read 82 = .ok (.getfield 242, 3) := by decide +kernel
theorem dX10_read_85 : decode cX10_read 85 = .ok (.invokevirtual 158, 3) := by decide +kernel
theorem dX10_read_88 : decode cX10_read 88 = .ok (.aload_n 0, 1) := by decide +kernel
theorem dX10_read_89 : decode cX10_read 89 = .ok (.sipush 130, 3) := by decide +kernel
theorem dX10_read_92 : decode cX10_read 92 = .ok (.aload_n 0, 1) := by decide +kernel
theorem dX10_read_93 : decode cX10_read 93 = .ok (.getfield 242, 3) := by decide +kernel
theorem dX10_read_96 : decode cX10_read 96 = .ok (.imul, 1) := by decide +kernel
theorem dX10_read_97 : decode cX10_read 97 = .ok (.putfield 248, 3) := by decide +kernel
theorem dX10_read_100 : decode cX10_read 100 = .ok (.aload_n 0, 1) := by decide +kernel
theorem dX10_read_101 : decode cX10_read 101 = .ok (.sipush 420, 3) := by decide +kernel
theorem dX10_read_104 : decode cX10_read 104 = .ok (.aload_n 0, 1) := by decide +kernel
theorem dX10_read_105 : decode cX10_read 105 = .ok (.getfield 242, 3) := by decide +kernel
theorem dX10_read_108 : decode cX10_read 108 = .ok (.imul, 1) := by decide +kernel
theorem dX10_read_109 : decode cX10_read 109 = .ok (.putfield 251, 3) := by decide +kernel
theorem dX10_read_112 : decode cX10_read 112 = .ok (.aload_n 0, 1) := by decide +kernel
theorem dX10_read_113 : decode cX10_read 113 = .ok (.getfield 209, 3) := by decide +kernel
theorem dX10_read_116 : decode cX10_read 116 = .ok (.ifCond .ne 18, 3) := by decide +kernel
theorem dX10_read_119 : decode cX10_read 119 = .ok (.aload_n 0, 1) := by decide +kernel
theorem dX10_read_120 : decode cX10_read 120 = .ok (.iconst 0, 1) := by decide +kernel
theorem dX10_read_121 : decode cX10_read 121 = .ok (.invokevirtual 227, 3) := by decide +kernel
theorem dX10_read_124 : decode cX10_read 124 = .ok (.ifCond .ne 10, 3) := by decide +kernel
theorem dX10_read_127 : decode cX10_read 127 = .ok (.aload_n 0, 1) := by decide +kernel
theorem dX10_read_128 : decode cX10_read 128 = .ok (.invokevirtual 254, 3) := by decide +kernel
theorem dX10_read_131 : decode cX10_read 131 = .ok (.goto (-19), 3) := by decide +kernel
theorem dX10_read_134 : decode cX10_read 134 = .ok (.aload_n 0, 1) := by decide +kernel
theorem dX10_read_135 : decode cX10_read 135 = .ok (.getfield 209, 3) := by decide +kernel
theorem dX10_read_138 : decode cX10_read 138 = .ok (.ifCond .ne 20, 3) := by decide +kernel
theorem dX10_read_141 : decode cX10_read 141 = .ok (.aload_n 0, 1) := by decide +kernel
theorem dX10_read_142 : decode cX10_read 142 = .ok (.invokevirtual 257, 3) := by decide +kernel
theorem dX10_read_145 : decode cX10_read 145 = .ok (.ifCond .ne 13, 3) := by decide +kernel
theorem dX10_read_148 : decode cX10_read 148 = .ok (.aload_n 0, 1) := by decide +kernel
theorem dX10_read_149 : decode cX10_read 149 = .ok (.bipush 6, 2) := by decide +kernel
theorem dX10_read_151 : decode cX10_read 151 = .ok (.aload_n 0, 1) := by decide +kernel
theorem dX10_read_152 : decode cX10_read 152 = .ok (.getfield 212, 3) := by decide +kernel
theorem dX10_read_155 : decode cX10_read 155 = .ok (.invokevirtual 261, 3) := by decide +kernel
theorem dX10_read_158 : decode cX10_read 158 = .ok (.aload_n 0, 1) := by decide +kernel
theorem dX10_read_159 : decode cX10_read 159 = .ok (.aload_n 0, 1) := by decide +kernel
theorem dX10_read_160 : decode cX10_read 160 = .ok (.getfield 209, 3) := by decide +kernel
theorem dX10_read_163 : decode cX10_read 163 = .ok (.ifCond .le 10, 3) := by decide +kernel
theorem dX10_read_166 : decode cX10_read 166 = .ok (.aload_n 0, 1) := by decide +kernel
theorem dX10_read_167 : decode cX10_read 167 = .ok (.getfield 215, 3) := by decide +kernel
theorem dX10_read_170 : decode cX10_read 170 = .ok (.goto 18, 3) := by decide +kernel
theorem dX10_read_173 : decode cX10_read 173 = .ok (.aload_n 0, 1) := by decide +kernel
theorem dX10_read_174 : decode cX10_read 174 = .ok (.getfield 218, 3) := by decide +kernel
theorem dX10_read_177 : decode cX10_read 177 = .ok (.ifCond .le 10, 3) := by decide +kernel
theorem dX10_read_180 : decode cX10_read 180 = .ok (.aload_n 0, 1) := by decide +kernel
theorem dX10_read_181 : decode cX10_read 181 = .ok (.getfield 221, 3) := by decide +kernel
theorem dX10_read_184 : decode cX10_read 184 = .ok (.goto 4, 3) := by decide +kernel
theorem dX10_read_187 : decode cX10_read 187 = .ok (.iconst (-1), 1) := by decide +kernel
theorem dX10_read_188 : decode cX10_read 188 = .ok (.putfield 37, 3) := by decide +kernel
theorem dX10_read_191 : decode cX10_read 191 = .ok (.aload_n 0, 1) := by decide +kernel
theorem dX10_read_192 : decode cX10_read 192 = .ok (.getfield 209, 3) := by decide +kernel
theorem dX10_read_195 : decode cX10_read 195 = .ok (.ifCond .le 8, 3) := by decide +kernel
theorem dX10_read_198 : decode cX10_read 198 = .ok (.aload_n 0, 1) := by decide +kernel
theorem dX10_read_199 : decode cX10_read 199 = .ok (.getfield 209, 3) := by decide +kernel
theorem dX10_read_202 : decode cX10_read 202 = .ok (.ireturn, 1) := by decide +kernel
theorem dX10_read_203 : decode cX10_read 203 = .ok (.aload_n 0, 1) := by decide +kernel
theorem dX10_read_204 : decode cX10_read 204 = .ok (.getfield 218, 3) := by decide +kernel
theorem dX10_read_207 : decode cX10_read 207 = .ok (.ifCond .le 8, 3) := by decide +kernel
theorem dX10_read_210 : decode cX10_read 210 = .ok (.aload_n 0, 1) := by decide +kernel
theorem dX10_read_211 : decode cX10_read 211 = .ok (.getfield 218, 3) := by decide +kernel
theorem dX10_read_214 : decode cX10_read 214 = .ok (.ireturn, 1) := by decide +kernel
theorem dX10_read_215 : decode cX10_read 215 = .ok (.aload_n 0, 1) := by decide +kernel
theorem dX10_read_216 : decode cX10_read 216 = .ok (.aload_n 0, 1) := by decide +kernel
theorem dX10_read_217 : decode cX10_read 217 = .ok (.getfield 242, 3) := by decide +kernel
theorem dX10_read_220 : decode cX10_read 220 = .ok (.putfield 239, 3) := by decide +kernel
theorem dX10_read_223 : decode cX10_read 223 = .ok (.aload_n 0, 1) := by decide +kernel
theorem dX10_read_224 : decode cX10_read 224 = .ok (.invokevirtual 166, 3) := by decide +kernel
theorem dX10_read_227 : decode cX10_read 227 = .ok (.aload_n 0, 1) := by decide +kernel
theorem dX10_read_228 : decode cX10_read 228 = .ok (.invokevirtual 169, 3) := by decide +kernel
theorem dX10_read_231 : decode cX10_read 231 = .ok (.aload_n 0, 1) := by decide +kernel
theorem dX10_read_232 : decode cX10_read 232 = .ok (.iconst 0, 1) := by decide +kernel
theorem dX10_read_233 : decode cX10_read 233 = .ok (.putfield 265, 3) := by decide +kernel
theorem dX10_read_236 : decode cX10_read 236 = .ok (.aload_n 0, 1) := by decide +kernel
theorem dX10_read_237 : decode cX10_read 237 = .ok (.iconst 0, 1) := by decide +kernel
theorem dX10_read_238 : decode cX10_read 238 = .ok (.putfield 268, 3) := by decide +kernel
theorem dX10_read_241 : decode cX10_read 241 = .ok (.iconst 0, 1) := by decide +kernel
theorem dX10_read_242 : decode cX10_read 242 = .ok (.istore_n 1, 1) := by decide +kernel
theorem dX10_read_243 : decode cX10_read 243 = .ok (.iload_n 1, 1) := by decide +kernel
theorem dX10_read_244 : decode cX10_read 244 = .ok (.iconst 3, 1) := by decide +kernel
theorem dX10_read_245 : decode cX10_read 245 = .ok (.if_icmp .ge 16, 3) := by decide +kernel
theorem dX10_read_248 : decode cX10_read 248 = .ok (.aload_n 0, 1) := by decide +kernel
theorem dX10_read_249 : decode cX10_read 249 = .ok (.getfield 152, 3) := by decide +kernel
theorem dX10_read_252 : decode cX10_read 252 = .ok (.iload_n 1, 1) := by decide +kernel
theorem dX10_read_253 : decode cX10_read 253 = .ok (.iconst 0, 1) := by decide +kernel
theorem dX10_read_254 : decode cX10_read 254 = .ok (.bastore, 1) := by decide +kernel
theorem dX10_read_255 : decode cX10_read 255 = .ok (.iinc 1 1, 3) := by decide +kernel
theorem dX10_read_258 : decode cX10_read 258 = .ok (.goto (-15), 3) := by decide +kernel
theorem dX10_read_261 : decode cX10_read 261 = .ok (.iconst 0, 1) := by decide +kernel
theorem dX10_read_262 : decode cX10_read 262 = .ok (.ireturn, 1) := by decide +kernel
theorem dX10_place_0 : decode cX10_place 0 = .ok (.aload_n 0, 1) := by decide +kernel
theorem dX10_place_1 : decode cX10_place 1 = .ok (.getfield 37, 3) := by decide +kernel
theorem dX10_place_4 : decode cX10_place 4 = .ok (.ireturn, 1) := by decide +kernel
theorem dX10_areFields_0 : decode cX10_areFields 0 = .ok (.iconst 0, 1) := by decide +kernel
theorem dX10_areFields_1 : decode cX10_areFields 1 = .ok (.istore_n 1, 1) := by decide +kernel
theorem dX10_areFields_2 : decode cX10_areFields 2 = .ok (.iload_n 1, 1) := by decide +kernel
theorem dX10_areFields_3 : decode cX10_areFields 3 = .ok (.aload_n 0, 1) := by decide +kernel
theorem dX10_areFields_4 : decode cX10_areFields 4 = .ok (.getfield 43, 3) := by decide +kernel
theorem dX10_areFields_7 : decode cX10_areFields 7 = .ok (.aload_n 0, 1) := by decide +kernel
theorem dX10_areFields_8 : decode cX10_areFields 8 = .ok (.getfield 242, 3) := by decide +kernel
theorem dX10_areFields_11 : decode cX10_areFields 11 = .ok (.iaload, 1) := by decide +kernel
theorem dX10_areFields_12 : decode cX10_areFields 12 = .ok (.if_icmp .ge 63, 3) := by decide +kernel
theorem dX10_areFields_15 : decode cX10_areFields 15 = .ok (.iconst 0, 1) := by decide +kernel
theorem dX10_areFields_16 : decode cX10_areFields 16 = .ok (.istore_n 2, 1) := by decide +kernel
theorem dX10_areFields_17 : decode cX10_areFields 17 = .ok (.iload_n 2, 1) := by decide +kernel
theorem dX10_areFields_18 : decode cX10_areFields 18 = .ok (.aload_n 0, 1) := by decide +kernel
theorem dX10_areFields_19 : decode cX10_areFields 19 = .ok (.getfield 46, 3) := by decide +kernel
theorem dX10_areFields_22 : decode cX10_areFields 22 = .ok (.aload_n 0, 1) := by decide +kernel
theorem dX10_areFields_23 : decode cX10_areFields 23 = .ok (.getfield 242, 3) := by decide +kernel
theorem dX10_areFields_26 : decode cX10_areFields 26 = .ok (.iaload, 1) := by decide +kernel
theorem dX10_areFields_27 : decode cX10_areFields 27 = .ok (.if_icmp .ge 42, 3) := by decide +kernel
theorem dX10_areFields_30 : decode cX10_areFields 30 = .ok (.aload_n 0, 1) := by decide +kernel
theorem dX10_areFields_31 : decode cX10_areFields 31 = .ok (.getfield 49, 3) := by decide +kernel
theorem dX10_areFields_34 : decode cX10_areFields 34 = .ok (.bipush 48, 2) := by decide +kernel
theorem dX10_areFields_36 : decode cX10_areFields 36 = .ok (.aload_n 0, 1) := by decide +kernel
theorem dX10_areFields_37 : decode cX10_areFields 37 = .ok (.getfield 242, 3) := by decide +kernel
theorem dX10_areFields_40 : decode cX10_areFields 40 = .ok (.imul, 1) := by decide +kernel
theorem dX10_areFields_41 : decode cX10_areFields 41 = .ok (.bipush 8, 2) := by decide +kernel
theorem dX10_areFields_43 : decode cX10_areFields 43 = .ok (.iload_n 1, 1) := by decide +kernel
theorem dX10_areFields_44 : decode cX10_areFields 44 = .ok (.imul, 1) := by decide +kernel
theorem dX10_areFields_45 : decode cX10_areFields 45 = .ok (.iadd, 1) := by decide +kernel
theorem dX10_areFields_46 : decode cX10_areFields 46 = .ok (.iload_n 2, 1) := by decide +kernel
theorem dX10_areFields_47 : decode cX10_areFields 47 = .ok (.iadd, 1) := by decide +kernel
theorem dX10_areFields_48 : decode cX10_areFields 48 = .ok (.iaload, 1) := by decide +kernel
theorem dX10_areFields_49 : decode cX10_areFields 49 = .ok (.aload_n 0, 1) := by decide +kernel
theorem dX10_areFields_50 : decode cX10_areFields 50 = .ok (.getfield 52, 3) := by decide +kernel
theorem dX10_areFields_53 : decode cX10_areFields 53 = .ok (.aload_n 0, 1) := by decide +kernel
theorem dX10_areFields_54 : decode cX10_areFields 54 = .ok (.getfield 242, 3) := by decide +kernel
theorem dX10_areFields_57 : decode cX10_areFields 57 = .ok (.iaload, 1) := by decide +kernel
theorem dX10_areFields_58 : decode cX10_areFields 58 = .ok (.if_icmp .lt 5, 3) := by decide +kernel
theorem dX10_areFields_61 : decode cX10_areFields 61 = .ok (.iconst 0, 1) := by decide +kernel
theorem dX10_areFields_62 : decode cX10_areFields 62 = .ok (.ireturn, 1) := by decide +kernel
theorem dX10_areFields_63 : decode cX10_areFields 63 = .ok (.iinc 2 1, 3) := by decide +kernel
theorem dX10_areFields_66 : decode cX10_areFields 66 = .ok (.goto (-49), 3) := by decide +kernel
theorem dX10_areFields_69 : decode cX10_areFields 69 = .ok (.iinc 1 1, 3) := by decide +kernel
theorem dX10_areFields_72 : decode cX10_areFields 72 = .ok (.goto (-70), 3) := by decide +kernel
theorem dX10_areFields_75 : decode cX10_areFields 75 = .ok (.iconst 1, 1) := by decide +kernel
theorem dX10_areFields_76 : decode cX10_areFields 76 = .ok (.ireturn, 1) := by decide +kernel
theorem dX10_roomFor_0 : decode cX10_roomFor 0 = .ok (.iload_n 1, 1) := by decide +kernel
theorem dX10_roomFor_1 : decode cX10_roomFor 1 = .ok (.iload_n 2, 1) := by decide +kernel
theorem dX10_roomFor_2 : decode cX10_roomFor 2 = .ok (.if_icmp .ne 8, 3) := by decide +kernel
theorem dX10_roomFor_5 : decode cX10_roomFor 5 = .ok (.aload_n 0, 1) := by decide +kernel
theorem dX10_roomFor_6 : decode cX10_roomFor 6 = .ok (.iconst 2, 1) := by decide +kernel
theorem dX10_roomFor_7 : decode cX10_roomFor 7 = .ok (.invokevirtual 224, 3) := by decide +kernel
theorem dX10_roomFor_10 : decode cX10_roomFor 10 = .ok (.aload_n 0, 1) := by decide +kernel
theorem dX10_roomFor_11 : decode cX10_roomFor 11 = .ok (.getfield 209, 3) := by decide +kernel
theorem dX10_roomFor_14 : decode cX10_roomFor 14 = .ok (.ifCond .ne 7, 3) := by decide +kernel
theorem dX10_roomFor_17 : decode cX10_roomFor 17 = .ok (.aload_n 0, 1) := by decide +kernel
theorem dX10_roomFor_18 : decode cX10_roomFor 18 = .ok (.invokevirtual 230, 3) := by decide +kernel
theorem dX10_roomFor_21 : decode cX10_roomFor 21 = .ok (.return_, 1) := by decide +kernel
theorem dX10_tellOne_0 : decode cX10_tellOne 0 = .ok (.aload_n 0, 1) := by decide +kernel
theorem dX10_tellOne_1 : decode cX10_tellOne 1 = .ok (.getfield 20, 3) := by decide +kernel
theorem dX10_tellOne_4 : decode cX10_tellOne 4 = .ok (.aload_n 0, 1) := by decide +kernel
theorem dX10_tellOne_5 : decode cX10_tellOne 5 = .ok (.getfield 212, 3) := by decide +kernel
theorem dX10_tellOne_8 : decode cX10_tellOne 8 = .ok (.iaload, 1) := by decide +kernel
theorem dX10_tellOne_9 : decode cX10_tellOne 9 = .ok (.tableswitch 223 20 28 #[51, 80, 109, 223, 223, 223, 137, 166, 194], 51) := by decide +kernel
theorem dX10_tellOne_60 : decode cX10_tellOne 60 = .ok (.aload_n 0, 1) := by decide +kernel
theorem dX10_tellOne_61 : decode cX10_tellOne 61 = .ok (.aload_n 0, 1) := by decide +kernel
theorem dX10_tellOne_62 : decode cX10_tellOne 62 = .ok (.getfield 43, 3) := by decide +kernel
theorem dX10_tellOne_65 : decode cX10_tellOne 65 = .ok (.aload_n 0, 1) := by decide +kernel
theorem dX10_tellOne_66 : decode cX10_tellOne 66 = .ok (.getfield 242, 3) := by decide +kernel
theorem dX10_tellOne_69 : decode cX10_tellOne 69 = .ok (.iaload, 1) := by decide +kernel
theorem dX10_tellOne_70 : decode cX10_tellOne 70 = .ok (.bipush 6, 2) := by decide +kernel
theorem dX10_tellOne_72 : decode cX10_tellOne 72 = .ok (.invokevirtual 271, 3) := by decide +kernel
theorem dX10_tellOne_75 : decode cX10_tellOne 75 = .ok (.aload_n 0, 1) := by decide +kernel
theorem dX10_tellOne_76 : decode cX10_tellOne 76 = .ok (.getfield 209, 3) := by decide +kernel
theorem dX10_tellOne_79 : decode cX10_tellOne 79 = .ok (.ifCond .ne 206, 3) := by decide +kernel
theorem dX10_tellOne_82 : decode cX10_tellOne 82 = .ok (.aload_n 0, 1) := by decide +kernel
theorem dX10_tellOne_83 : decode cX10_tellOne 83 = .ok (.invokevirtual 274, 3) := by decide +kernel
theorem dX10_tellOne_86 : decode cX10_tellOne 86 = .ok (.goto 199, 3) := by decide +kernel
theorem dX10_tellOne_89 : decode cX10_tellOne 89 = .ok (.aload_n 0, 1) := by decide +kernel
theorem dX10_tellOne_90 : decode cX10_tellOne 90 = .ok (.aload_n 0, 1) := by decide +kernel
theorem dX10_tellOne_91 : decode cX10_tellOne 91 = .ok (.getfield 52, 3) := by decide +kernel
theorem dX10_tellOne_94 : decode cX10_tellOne 94 = .ok (.aload_n 0, 1) := by decide +kernel
theorem dX10_tellOne_95 : decode cX10_tellOne 95 = .ok (.getfield 242, 3) := by decide +kernel
theorem dX10_tellOne_98 : decode cX10_tellOne 98 = .ok (.iaload, 1) := by decide +kernel
theorem dX10_tellOne_99 : decode cX10_tellOne 99 = .ok (.bipush 6, 2) := by decide +kernel
theorem dX10_tellOne_101 : decode cX10_tellOne 101 = .ok (.invokevirtual 271, 3) := by decide +kernel
theorem dX10_tellOne_104 : decode cX10_tellOne 104 = .ok (.aload_n 0, 1) := by decide +kernel
theorem dX10_tellOne_105 : decode cX10_tellOne 105 = .ok (.getfield 209, 3) := by decide +kernel
theorem dX10_tellOne_108 : decode cX10_tellOne 108 = .ok (.ifCond .ne 177, 3) := by decide +kernel
theorem dX10_tellOne_111 : decode cX10_tellOne 111 = .ok (.aload_n 0, 1) := by decide +kernel
theorem dX10_tellOne_112 : decode cX10_tellOne 112 = .ok (.invokevirtual 277, 3) := by decide +kernel
theorem dX10_tellOne_115 : decode cX10_tellOne 115 = .ok (.goto 170, 3) := by decide +kernel
theorem dX10_tellOne_118 : decode cX10_tellOne 118 = .ok (.aload_n 0, 1) := by decide +kernel
theorem dX10_tellOne_119 : decode cX10_tellOne 119 = .ok (.aload_n 0, 1) := by decide +kernel
theorem dX10_tellOne_120 : decode cX10_tellOne 120 = .ok (.getfield 61, 3) := by decide +kernel
theorem dX10_tellOne_123 : decode cX10_tellOne 123 = .ok (.aload_n 0, 1) := by decide +kernel
theorem dX10_tellOne_124 : decode cX10_tellOne 124 = .ok (.getfield 242, 3) := by decide +kernel
theorem dX10_tellOne_127 : decode cX10_tellOne 127 = .ok (.iaload, 1) := by decide +kernel
theorem dX10_tellOne_128 : decode cX10_tellOne 128 = .ok (.iconst 4, 1) := by decide +kernel
theorem dX10_tellOne_129 : decode cX10_tellOne 129 = .ok (.invokevirtual 271, 3) := by decide +kernel
theorem dX10_tellOne_132 : decode cX10_tellOne 132 = .ok (.aload_n 0, 1) := by decide +kernel
theorem dX10_tellOne_133 : decode cX10_tellOne 133 = .ok (.getfield 209, 3) := by decide +kernel
theorem dX10_tellOne_136 : decode cX10_tellOne 136 = .ok (.ifCond .ne 149, 3) := by decide +kernel
theorem dX10_tellOne_139 : decode cX10_tellOne 139 = .ok (.aload_n 0, 1) := by decide +kernel
theorem dX10_tellOne_140 : decode cX10_tellOne 140 = .ok (.invokevirtual 280, 3) := by decide +kernel
theorem dX10_tellOne_143 : decode cX10_tellOne 143 = .ok (.goto 142, 3) := by decide +kernel
theorem dX10_tellOne_146 : decode cX10_tellOne 146 = .ok (.aload_n 0, 1) := by decide +kernel
theorem dX10_tellOne_147 : decode cX10_tellOne 147 = .ok (.invokevirtual 230, 3) := by decide +kernel
theorem dX10_tellOne_150 : decode cX10_tellOne 150 = .ok (.aload_n 0, 1) := by decide +kernel
theorem dX10_tellOne_151 : decode cX10_tellOne 151 = .ok (.getfield 70, 3) := by decide +kernel
theorem dX10_tellOne_154 : decode cX10_tellOne 154 = .ok (.aload_n 0, 1) := by decide +kernel
theorem dX10_tellOne_155 : decode cX10_tellOne 155 = .ok (.getfield 242, 3) := by decide +kernel
theorem dX10_tellOne_158 : decode cX10_tellOne 158 = .ok (.aload_n 0, 1) := by decide +kernel
theorem dX10_tellOne_159 : decode cX10_tellOne 159 = .ok (.iconst 0, 1) := by decide +kernel
theorem dX10_tellOne_160 : decode cX10_tellOne 160 = .ok (.sipush 9999, 3) := by decide +kernel
theorem dX10_tellOne_163 : decode cX10_tellOne 163 = .ok (.invokevirtual 283, 3) := by decide +kernel
theorem dX10_tellOne_166 : decode cX10_tellOne 166 = .ok (.iastore, 1) := by decide +kernel
theorem dX10_tellOne_167 : decode cX10_tellOne 167 = .ok (.aload_n 0, 1) := by decide +kernel
theorem dX10_tellOne_168 : decode cX10_tellOne 168 = .ok (.iconst 4, 1) := by decide +kernel
theorem dX10_tellOne_169 : decode cX10_tellOne 169 = .ok (.invokevirtual 287, 3) := by decide +kernel
theorem dX10_tellOne_172 : decode cX10_tellOne 172 = .ok (.goto 113, 3) := by decide +kernel
theorem dX10_tellOne_175 : decode cX10_tellOne 175 = .ok (.aload_n 0, 1) := by decide +kernel
theorem dX10_tellOne_176 : decode cX10_tellOne 176 = .ok (.invokevirtual 230, 3) := by decide +kernel
theorem dX10_tellOne_179 : decode cX10_tellOne 179 = .ok (.aload_n 0, 1) := by decide +kernel
theorem dX10_tellOne_180 : decode cX10_tellOne 180 = .ok (.getfield 73, 3) := by decide +kernel
theorem dX10_tellOne_183 : decode cX10_tellOne 183 = .ok (.aload_n 0, 1) := by decide +kernel
theorem dX10_tellOne_184 : decode cX10_tellOne 184 = .ok (.getfield 242, 3) := by decide +kernel
theorem dX10_tellOne_187 : decode cX10_tellOne 187 = .ok (.aload_n 0, 1) := by decide +kernel
theorem dX10_tellOne_188 : decode cX10_tellOne 188 = .ok (.iconst 0, 1) := by decide +kernel
theorem dX10_tellOne_189 : decode cX10_tellOne 189 = .ok (.bipush 100, 2) := by decide +kernel
theorem dX10_tellOne_191 : decode cX10_tellOne 191 = .ok (.invokevirtual 283, 3) := by decide +kernel
theorem dX10_tellOne_194 : decode cX10_tellOne 194 = .ok (.iastore, 1) := by decide +kernel
theorem dX10_tellOne_195 : decode cX10_tellOne 195 = .ok (.aload_n 0, 1) := by decide +kernel
theorem dX10_tellOne_196 : decode cX10_tellOne 196 = .ok (.iconst 4, 1) := by decide +kernel
theorem dX10_tellOne_197 : decode cX10_tellOne 197 = .ok (.invokevirtual 287, 3) := by decide +kernel
theorem dX10_tellOne_200 : decode cX10_tellOne 200 = .ok (.goto 85, 3) := by decide +kernel
theorem dX10_tellOne_203 : decode cX10_tellOne 203 = .ok (.aload_n 0, 1) := by decide +kernel
theorem dX10_tellOne_204 : decode cX10_tellOne 204 = .ok (.invokevirtual 230, 3) := by decide +kernel
theorem dX10_tellOne_207 : decode cX10_tellOne 207 = .ok (.aload_n 0, 1) := by decide +kernel
theorem dX10_tellOne_208 : decode cX10_tellOne 208 = .ok (.getfield 76, 3) := by decide +kernel
theorem dX10_tellOne_211 : decode cX10_tellOne 211 = .ok (.aload_n 0, 1) := by decide +kernel
theorem dX10_tellOne_212 : decode cX10_tellOne 212 = .ok (.getfield 242, 3) := by decide +kernel
theorem dX10_tellOne_215 : decode cX10_tellOne 215 = .ok (.aload_n 0, 1) := by decide +kernel
theorem dX10_tellOne_216 : decode cX10_tellOne 216 = .ok (.iconst 0, 1) := by decide +kernel
theorem dX10_tellOne_217 : decode cX10_tellOne 217 = .ok (.sipush 9999, 3) := by decide +kernel
theorem dX10_tellOne_220 : decode cX10_tellOne 220 = .ok (.invokevirtual 283, 3) := by decide +kernel
theorem dX10_tellOne_223 : decode cX10_tellOne 223 = .ok (.iastore, 1) := by decide +kernel
theorem dX10_tellOne_224 : decode cX10_tellOne 224 = .ok (.aload_n 0, 1) := by decide +kernel
theorem dX10_tellOne_225 : decode cX10_tellOne 225 = .ok (.iconst 4, 1) := by decide +kernel
theorem dX10_tellOne_226 : decode cX10_tellOne 226 = .ok (.invokevirtual 287, 3) := by decide +kernel
theorem dX10_tellOne_229 : decode cX10_tellOne 229 = .ok (.goto 56, 3) := by decide +kernel
theorem dX10_tellOne_232 : decode cX10_tellOne 232 = .ok (.aload_n 0, 1) := by decide +kernel
theorem dX10_tellOne_233 : decode cX10_tellOne 233 = .ok (.getfield 20, 3) := by decide +kernel
theorem dX10_tellOne_236 : decode cX10_tellOne 236 = .ok (.aload_n 0, 1) := by decide +kernel
theorem dX10_tellOne_237 : decode cX10_tellOne 237 = .ok (.getfield 212, 3) := by decide +kernel
theorem dX10_tellOne_240 : decode cX10_tellOne 240 = .ok (.iaload, 1) := by decide +kernel
theorem dX10_tellOne_241 : decode cX10_tellOne 241 = .ok (.bipush 23, 2) := by decide +kernel
theorem dX10_tellOne_243 : decode cX10_tellOne 243 = .ok (.isub, 1) := by decide +kernel
theorem dX10_tellOne_244 : decode cX10_tellOne 244 = .ok (.istore_n 1, 1) := by decide +kernel
theorem dX10_tellOne_245 : decode cX10_tellOne 245 = .ok (.iload_n 1, 1) := by decide +kernel
theorem dX10_tellOne_246 : decode cX10_tellOne 246 = .ok (.ifCond .lt 17, 3) := by decide +kernel
theorem dX10_tellOne_249 : decode cX10_tellOne 249 = .ok (.aload_n 0, 1) := by decide +kernel
theorem dX10_tellOne_250 : decode cX10_tellOne 250 = .ok (.getfield 20, 3) := by decide +kernel
theorem dX10_tellOne_253 : decode cX10_tellOne 253 = .ok (.aload_n 0, 1) := by decide +kernel
theorem dX10_tellOne_254 : decode cX10_tellOne 254 = .ok (.getfield 212, 3) := by decide +kernel
theorem dX10_tellOne_257 : decode cX10_tellOne 257 = .ok (.iaload, 1) := by decide +kernel
theorem dX10_tellOne_258 : decode cX10_tellOne 258 = .ok (.bipush 25, 2) := by decide +kernel
theorem dX10_tellOne_260 : decode cX10_tellOne 260 = .ok (.if_icmp .le 8, 3) := by decide +kernel
theorem dX10_tellOne_263 : decode cX10_tellOne 263 = .ok (.aload_n 0, 1) := by decide +kernel
theorem dX10_tellOne_264 : decode cX10_tellOne 264 = .ok (.iconst 1, 1) := by decide +kernel
theorem dX10_tellOne_265 : decode cX10_tellOne 265 = .ok (.invokevirtual 224, 3) := by decide +kernel
theorem dX10_tellOne_268 : decode cX10_tellOne 268 = .ok (.aload_n 0, 1) := by decide +kernel
theorem dX10_tellOne_269 : decode cX10_tellOne 269 = .ok (.getfield 209, 3) := by decide +kernel
theorem dX10_tellOne_272 : decode cX10_tellOne 272 = .ok (.ifCond .le 4, 3) := by decide +kernel
theorem dX10_tellOne_275 : decode cX10_tellOne 275 = .ok (.return_, 1) := by decide +kernel
theorem dX10_tellOne_276 : decode cX10_tellOne 276 = .ok (.aload_n 0, 1) := by decide +kernel
theorem dX10_tellOne_277 : decode cX10_tellOne 277 = .ok (.invokevirtual 230, 3) := by decide +kernel
theorem dX10_tellOne_280 : decode cX10_tellOne 280 = .ok (.aload_n 0, 1) := by decide +kernel
theorem dX10_tellOne_281 : decode cX10_tellOne 281 = .ok (.iload_n 1, 1) := by decide +kernel
theorem dX10_tellOne_282 : decode cX10_tellOne 282 = .ok (.invokevirtual 290, 3) := by decide +kernel
theorem dX10_tellOne_285 : decode cX10_tellOne 285 = .ok (.return_, 1) := by decide +kernel
theorem dX10_named_0 : decode cX10_named 0 = .ok (.aload_n 0, 1) := by decide +kernel
theorem dX10_named_1 : decode cX10_named 1 = .ok (.getfield 212, 3) := by decide +kernel
theorem dX10_named_4 : decode cX10_named 4 = .ok (.istore_n 1, 1) := by decide +kernel
theorem dX10_named_5 : decode cX10_named 5 = .ok (.aload_n 0, 1) := by decide +kernel
theorem dX10_named_6 : decode cX10_named 6 = .ok (.iconst 1, 1) := by decide +kernel
theorem dX10_named_7 : decode cX10_named 7 = .ok (.invokevirtual 287, 3) := by decide +kernel
theorem dX10_named_10 : decode cX10_named 10 = .ok (.iconst 0, 1) := by decide +kernel
theorem dX10_named_11 : decode cX10_named 11 = .ok (.istore_n 2, 1) := by decide +kernel
theorem dX10_named_12 : decode cX10_named 12 = .ok (.iload_n 2, 1) := by decide +kernel
theorem dX10_named_13 : decode cX10_named 13 = .ok (.aload_n 0, 1) := by decide +kernel
theorem dX10_named_14 : decode cX10_named 14 = .ok (.getfield 245, 3) := by decide +kernel
theorem dX10_named_17 : decode cX10_named 17 = .ok (.if_icmp .ge 38, 3) := by decide +kernel
theorem dX10_named_20 : decode cX10_named 20 = .ok (.aload_n 0, 1) := by decide +kernel
theorem dX10_named_21 : decode cX10_named 21 = .ok (.getfield 209, 3) := by decide +kernel
theorem dX10_named_24 : decode cX10_named 24 = .ok (.ifCond .ne 31, 3) := by decide +kernel
theorem dX10_named_27 : decode cX10_named 27 = .ok (.aload_n 0, 1) := by decide +kernel
theorem dX10_named_28 : decode cX10_named 28 = .ok (.getfield 40, 3) := by decide +kernel
theorem dX10_named_31 : decode cX10_named 31 = .ok (.iload_n 2, 1) := by decide +kernel
theorem dX10_named_32 : decode cX10_named 32 = .ok (.laload, 1) := by decide +kernel
theorem dX10_named_33 : decode cX10_named 33 = .ok (.aload_n 0, 1) := by decide +kernel
theorem dX10_named_34 : decode cX10_named 34 = .ok (.getfield 30, 3) := by decide +kernel
theorem dX10_named_37 : decode cX10_named 37 = .ok (.iload_n 1, 1) := by decide +kernel
theorem dX10_named_38 : decode cX10_named 38 = .ok (.laload, 1) := by decide +kernel
theorem dX10_named_39 : decode cX10_named 39 = .ok (.lcmp, 1) := by decide +kernel
theorem dX10_named_40 : decode cX10_named 40 = .ok (.ifCond .ne 9, 3) := by decide +kernel
theorem dX10_named_43 : decode cX10_named 43 = .ok (.aload_n 0, 1) := by decide +kernel
theorem dX10_named_44 : decode cX10_named 44 = .ok (.iconst 3, 1) := by decide +kernel
theorem dX10_named_45 : decode cX10_named 45 = .ok (.iload_n 1, 1) := by decide +kernel
theorem dX10_named_46 : decode cX10_named 46 = .ok (.invokevirtual 261, 3) := by decide +kernel
theorem dX10_named_49 : decode cX10_named 49 = .ok (.iinc 2 1, 3) := by decide +kernel
theorem dX10_named_52 : decode cX10_named 52 = .ok (.goto (-40), 3) := by decide +kernel
theorem dX10_named_55 : decode cX10_named 55 = .ok (.iload_n 1, 1) := by decide +kernel
theorem dX10_named_56 : decode cX10_named 56 = .ok (.ireturn, 1) := by decide +kernel
theorem dX10_ends_0 : decode cX10_ends 0 = .ok (.aload_n 0, 1) := by decide +kernel
theorem dX10_ends_1 : decode cX10_ends 1 = .ok (.iconst 4, 1) := by decide +kernel
theorem dX10_ends_2 : decode cX10_ends 2 = .ok (.invokevirtual 287, 3) := by decide +kernel
theorem dX10_ends_5 : decode cX10_ends 5 = .ok (.aload_n 0, 1) := by decide +kernel
theorem dX10_ends_6 : decode cX10_ends 6 = .ok (.getfield 209, 3) := by decide +kernel
theorem dX10_ends_9 : decode cX10_ends 9 = .ok (.ifCond .le 4, 3) := by decide +kernel
theorem dX10_ends_12 : decode cX10_ends 12 = .ok (.return_, 1) := by decide +kernel
theorem dX10_ends_13 : decode cX10_ends 13 = .ok (.aload_n 0, 1) := by decide +kernel
theorem dX10_ends_14 : decode cX10_ends 14 = .ok (.getfield 40, 3) := by decide +kernel
theorem dX10_ends_17 : decode cX10_ends 17 = .ok (.aload_n 0, 1) := by decide +kernel
theorem dX10_ends_18 : decode cX10_ends 18 = .ok (.getfield 245, 3) := by decide +kernel
theorem dX10_ends_21 : decode cX10_ends 21 = .ok (.aload_n 0, 1) := by decide +kernel
theorem dX10_ends_22 : decode cX10_ends 22 = .ok (.getfield 30, 3) := by decide +kernel
theorem dX10_ends_25 : decode cX10_ends 25 = .ok (.iload_n 1, 1) := by decide +kernel
theorem dX10_ends_26 : decode cX10_ends 26 = .ok (.laload, 1) := by decide +kernel
theorem dX10_ends_27 : decode cX10_ends 27 = .ok (.lastore, 1) := by decide +kernel
theorem dX10_ends_28 : decode cX10_ends 28 = .ok (.aload_n 0, 1) := by decide +kernel
theorem dX10_ends_29 : decode cX10_ends 29 = .ok (.dup, 1) := by decide +kernel
theorem dX10_ends_30 : decode cX10_ends 30 = .ok (.getfield 245, 3) := by decide +kernel
theorem dX10_ends_33 : decode cX10_ends 33 = .ok (.iconst 1, 1) := by decide +kernel
theorem dX10_ends_34 : decode cX10_ends 34 = .ok (.iadd, 1) := by decide +kernel
theorem dX10_ends_35 : decode cX10_ends 35 = .ok (.putfield 245, 3) := by decide +kernel
theorem dX10_ends_38 : decode cX10_ends 38 = .ok (.return_, 1) := by decide +kernel
theorem dX10_bounded_0 : decode cX10_bounded 0 = .ok (.aload_n 0, 1) := by decide +kernel
theorem dX10_bounded_1 : decode cX10_bounded 1 = .ok (.getfield 209, 3) := by decide +kernel
theorem dX10_bounded_4 : decode cX10_bounded 4 = .ok (.ifCond .gt 11, 3) := by decide +kernel
theorem dX10_bounded_7 : decode cX10_bounded 7 = .ok (.aload_n 0, 1) := by decide +kernel
theorem dX10_bounded_8 : decode cX10_bounded 8 = .ok (.iconst 2, 1) := by decide +kernel
theorem dX10_bounded_9 : decode cX10_bounded 9 = .ok (.invokevirtual 227, 3) := by decide +kernel
theorem dX10_bounded_12 : decode cX10_bounded 12 = .ok (.ifCond .ne 10, 3) := by decide +kernel
theorem dX10_bounded_15 : decode cX10_bounded 15 = .ok (.aload_n 0, 1) := by decide +kernel
theorem dX10_bounded_16 : decode cX10_bounded 16 = .ok (.iconst 1, 1) := by decide +kernel
theorem dX10_bounded_17 : decode cX10_bounded 17 = .ok (.invokevirtual 224, 3) := by decide +kernel
theorem dX10_bounded_20 : decode cX10_bounded 20 = .ok (.iload_n 1, 1) := by decide +kernel
theorem dX10_bounded_21 : decode cX10_bounded 21 = .ok (.ireturn, 1) := by decide +kernel
theorem dX10_bounded_22 : decode cX10_bounded 22 = .ok (.aload_n 0, 1) := by decide +kernel
theorem dX10_bounded_23 : decode cX10_bounded 23 = .ok (.getfield 27, 3) := by decide +kernel
theorem dX10_bounded_26 : decode cX10_bounded 26 = .ok (.aload_n 0, 1) := by decide +kernel
theorem dX10_bounded_27 : decode cX10_bounded 27 = .ok (.getfield 212, 3) := by decide +kernel
theorem dX10_bounded_30 : decode cX10_bounded 30 = .ok (.iaload, 1) := by decide +kernel
theorem dX10_bounded_31 : decode cX10_bounded 31 = .ok (.istore_n 3, 1) := by decide +kernel
theorem dX10_bounded_32 : decode cX10_bounded 32 = .ok (.iload_n 3, 1) := by decide +kernel
theorem dX10_bounded_33 : decode cX10_bounded 33 = .ok (.iload_n 1, 1) := by decide +kernel
theorem dX10_bounded_34 : decode cX10_bounded 34 = .ok (.if_icmp .lt 8, 3) := by decide +kernel
theorem dX10_bounded_37 : decode cX10_bounded 37 = .ok (.iload_n 3, 1) := by decide +kernel
theorem dX10_bounded_38 : decode cX10_bounded 38 = .ok (.iload_n 2, 1) := by decide +kernel
theorem dX10_bounded_39 : decode cX10_bounded 39 = .ok (.if_icmp .le 12, 3) := by decide +kernel
theorem dX10_bounded_42 : decode cX10_bounded 42 = .ok (.aload_n 0, 1) := by decide +kernel
theorem dX10_bounded_43 : decode cX10_bounded 43 = .ok (.iconst 5, 1) := by decide +kernel
theorem dX10_bounded_44 : decode cX10_bounded 44 = .ok (.aload_n 0, 1) := by decide +kernel
theorem dX10_bounded_45 : decode cX10_bounded 45 = .ok (.getfield 212, 3) := by decide +kernel
theorem dX10_bounded_48 : decode cX10_bounded 48 = .ok (.invokevirtual 261, 3) := by decide +kernel
theorem dX10_bounded_51 : decode cX10_bounded 51 = .ok (.aload_n 0, 1) := by decide +kernel
theorem dX10_bounded_52 : decode cX10_bounded 52 = .ok (.invokevirtual 230, 3) := by decide +kernel
theorem dX10_bounded_55 : decode cX10_bounded 55 = .ok (.iload_n 3, 1) := by decide +kernel
theorem dX10_bounded_56 : decode cX10_bounded 56 = .ok (.ireturn, 1) := by decide +kernel
theorem dX10_tellRow_0 : decode cX10_tellRow 0 = .ok (.aload_n 0, 1) := by decide +kernel
theorem dX10_tellRow_1 : decode cX10_tellRow 1 = .ok (.getfield 212, 3) := by decide +kernel
theorem dX10_tellRow_4 : decode cX10_tellRow 4 = .ok (.istore_n 1, 1) := by decide +kernel
theorem dX10_tellRow_5 : decode cX10_tellRow 5 = .ok (.aload_n 0, 1) := by decide +kernel
theorem dX10_tellRow_6 : decode cX10_tellRow 6 = .ok (.iconst 1, 1) := by decide +kernel
theorem dX10_tellRow_7 : decode cX10_tellRow 7 = .ok (.invokevirtual 287, 3) := by decide +kernel
theorem dX10_tellRow_10 : decode cX10_tellRow 10 = .ok (.aload_n 0, 1) := by decide +kernel
theorem dX10_tellRow_11 : decode cX10_tellRow 11 = .ok (.getfield 209, 3) := by decide +kernel
theorem dX10_tellRow_14 : decode cX10_tellRow 14 = .ok (.ifCond .ne 181, 3) := by decide +kernel
theorem dX10_tellRow_17 : decode cX10_tellRow 17 = .ok (.aload_n 0, 1) := by decide +kernel
theorem dX10_tellRow_18 : decode cX10_tellRow 18 = .ok (.getfield 30, 3) := by decide +kernel
theorem dX10_tellRow_21 : decode cX10_tellRow 21 = .ok (.iload_n 1, 1) := by decide +kernel
theorem dX10_tellRow_22 : decode cX10_tellRow 22 = .ok (.laload, 1) := by decide +kernel
theorem dX10_tellRow_23 : decode cX10_tellRow 23 = .ok (.lstore_n 2, 1) := by decide +kernel
theorem dX10_tellRow_24 : decode cX10_tellRow 24 = .ok (.iconst 0, 1) := by decide +kernel
theorem dX10_tellRow_25 : decode cX10_tellRow 25 = .ok (.istore 4, 2) := by decide +kernel
theorem dX10_tellRow_27 : decode cX10_tellRow 27 = .ok (.lload_n 2, 1) := by decide +kernel
theorem dX10_tellRow_28 : decode cX10_tellRow 28 = .ok (.lstore 5, 2) := by decide +kernel
theorem dX10_tellRow_30 : decode cX10_tellRow 30 = .ok (.lload 5, 2) := by decide +kernel
theorem dX10_tellRow_32 : decode cX10_tellRow 32 = .ok (.lconst 0, 1) := by decide +kernel
theorem dX10_tellRow_33 : decode cX10_tellRow 33 = .ok (.lcmp, 1) := by decide +kernel
theorem dX10_tellRow_34 : decode cX10_tellRow 34 = .ok (.ifCond .le 17, 3) := by decide +kernel
theorem dX10_tellRow_37 : decode cX10_tellRow 37 = .ok (.iinc 4 1, 3) := by decide +kernel
theorem dX10_tellRow_40 : decode cX10_tellRow 40 = .ok (.lload 5, 2) := by decide +kernel
theorem dX10_tellRow_42 : decode cX10_tellRow 42 = .ok (.ldc2_w 181, 3) := by decide +kernel
theorem dX10_tellRow_45 : decode cX10_tellRow 45 = .ok (.ldiv, 1) := by decide +kernel
theorem dX10_tellRow_46 : decode cX10_tellRow 46 = .ok (.lstore 5, 2) := by decide +kernel
theorem dX10_tellRow_48 : decode cX10_tellRow 48 = .ok (.goto (-18), 3) := by decide +kernel
theorem dX10_tellRow_51 : decode cX10_tellRow 51 = .ok (.aload_n 0, 1) := by decide +kernel
theorem dX10_tellRow_52 : decode cX10_tellRow 52 = .ok (.getfield 43, 3) := by decide +kernel
theorem dX10_tellRow_55 : decode cX10_tellRow 55 = .ok (.aload_n 0, 1) := by decide +kernel
theorem dX10_tellRow_56 : decode cX10_tellRow 56 = .ok (.getfield 242, 3) := by decide +kernel
theorem dX10_tellRow_59 : decode cX10_tellRow 59 = .ok (.iaload, 1) := by decide +kernel
theorem dX10_tellRow_60 : decode cX10_tellRow 60 = .ok (.ifCond .ne 14, 3) := by decide +kernel
theorem dX10_tellRow_63 : decode cX10_tellRow 63 = .ok (.aload_n 0, 1) := by decide +kernel
theorem dX10_tellRow_64 : decode cX10_tellRow 64 = .ok (.getfield 46, 3) := by decide +kernel
theorem dX10_tellRow_67 : decode cX10_tellRow 67 = .ok (.aload_n 0, 1) := by decide +kernel
theorem dX10_tellRow_68 : decode cX10_tellRow 68 = .ok (.getfield 242, 3) := by decide +kernel
theorem dX10_tellRow_71 : decode cX10_tellRow 71 = .ok (.iload 4, 2) := by decide +kernel
theorem dX10_tellRow_73 : decode cX10_tellRow 73 = .ok (.iastore, 1) := by decide +kernel
theorem dX10_tellRow_74 : decode cX10_tellRow 74 = .ok (.iload 4, 2) := by decide +kernel
theorem dX10_tellRow_76 : decode cX10_tellRow 76 = .ok (.aload_n 0, 1) := by decide +kernel
theorem dX10_tellRow_77 : decode cX10_tellRow 77 = .ok (.getfield 46, 3) := by decide +kernel
theorem dX10_tellRow_80 : decode cX10_tellRow 80 = .ok (.aload_n 0, 1) := by decide +kernel
theorem dX10_tellRow_81 : decode cX10_tellRow 81 = .ok (.getfield 242, 3) := by decide +kernel
theorem dX10_tellRow_84 : decode cX10_tellRow 84 = .ok (.iaload, 1) := by decide +kernel
theorem dX10_tellRow_85 : decode cX10_tellRow 85 = .ok (.if_icmp .eq 10, 3) := by decide +kernel
theorem dX10_tellRow_88 : decode cX10_tellRow 88 = .ok (.aload_n 0, 1) := by decide +kernel
theorem dX10_tellRow_89 : decode cX10_tellRow 89 = .ok (.bipush 6, 2) := by decide +kernel
theorem dX10_tellRow_91 : decode cX10_tellRow 91 = .ok (.iload_n 1, 1) := by decide +kernel
theorem dX10_tellRow_92 : decode cX10_tellRow 92 = .ok (.invokevirtual 261, 3) := by decide +kernel
theorem dX10_tellRow_95 : decode cX10_tellRow 95 = .ok (.iload 4, 2) := by decide +kernel
theorem dX10_tellRow_97 : decode cX10_tellRow 97 = .ok (.iconst 1, 1) := by decide +kernel
theorem dX10_tellRow_98 : decode cX10_tellRow 98 = .ok (.isub, 1) := by decide +kernel
theorem dX10_tellRow_99 : decode cX10_tellRow 99 = .ok (.istore 5, 2) := by decide +kernel
theorem dX10_tellRow_101 : decode cX10_tellRow 101 = .ok (.iload 5, 2) := by decide +kernel
theorem dX10_tellRow_103 : decode cX10_tellRow 103 = .ok (.ifCond .lt 92, 3) := by decide +kernel
theorem dX10_tellRow_106 : decode cX10_tellRow 106 = .ok (.bipush 96, 2) := by decide +kernel
theorem dX10_tellRow_108 : decode cX10_tellRow 108 = .ok (.lload_n 2, 1) := by decide +kernel
theorem dX10_tellRow_109 : decode cX10_tellRow 109 = .ok (.ldc2_w 181, 3) := by decide +kernel
theorem dX10_tellRow_112 : decode cX10_tellRow 112 = .ok (.lrem, 1) := by decide +kernel
theorem dX10_tellRow_113 : decode cX10_tellRow 113 = .ok (.l2i, 1) := by decide +kernel
theorem dX10_tellRow_114 : decode cX10_tellRow 114 = .ok (.iadd, 1) := by decide +kernel
theorem dX10_tellRow_115 : decode cX10_tellRow 115 = .ok (.istore 6, 2) := by decide +kernel
theorem dX10_tellRow_117 : decode cX10_tellRow 117 = .ok (.iload 6, 2) := by decide +kernel
theorem dX10_tellRow_119 : decode cX10_tellRow 119 = .ok (.bipush 111, 2) := by decide +kernel
theorem dX10_tellRow_121 : decode cX10_tellRow 121 = .ok (.if_icmp .eq 17, 3) := by decide +kernel
theorem dX10_tellRow_124 : decode cX10_tellRow 124 = .ok (.iload 6, 2) := by decide +kernel
theorem dX10_tellRow_126 : decode cX10_tellRow 126 = .ok (.bipush 102, 2) := by decide +kernel
theorem dX10_tellRow_128 : decode cX10_tellRow 128 = .ok (.if_icmp .le 10, 3) := by decide +kernel
theorem dX10_tellRow_131 : decode cX10_tellRow 131 = .ok (.aload_n 0, 1) := by decide +kernel
theorem dX10_tellRow_132 : decode cX10_tellRow 132 = .ok (.bipush 6, 2) := by decide +kernel
theorem dX10_tellRow_134 : decode cX10_tellRow 134 = .ok (.iload_n 1, 1) := by decide +kernel
theorem dX10_tellRow_135 : decode cX10_tellRow 135 = .ok (.invokevirtual 261, 3) := by decide +kernel
theorem dX10_tellRow_138 : decode cX10_tellRow 138 = .ok (.aload_n 0, 1) := by decide +kernel
theorem dX10_tellRow_139 : decode cX10_tellRow 139 = .ok (.getfield 49, 3) := by decide +kernel
theorem dX10_tellRow_142 : decode cX10_tellRow 142 = .ok (.bipush 48, 2) := by decide +kernel
theorem dX10_tellRow_144 : decode cX10_tellRow 144 = .ok (.aload_n 0, 1) := by decide +kernel
theorem dX10_tellRow_145 : decode cX10_tellRow 145 = .ok (.getfield 242, 3) := by decide +kernel
theorem dX10_tellRow_148 : decode cX10_tellRow 148 = .ok (.imul, 1) := by decide +kernel
theorem dX10_tellRow_149 : decode cX10_tellRow 149 = .ok (.bipush 8, 2) := by decide +kernel
theorem dX10_tellRow_151 : decode cX10_tellRow 151 = .ok (.aload_n 0, 1) := by decide +kernel
theorem dX10_tellRow_152 : decode cX10_tellRow 152 = .ok (.getfield 43, 3) := by decide +kernel
theorem dX10_tellRow_155 : decode cX10_tellRow 155 = .ok (.aload_n 0, 1) := by decide +kernel
theorem dX10_tellRow_156 : decode cX10_tellRow 156 = .ok (.getfield 242, 3) := by decide +kernel
theorem dX10_tellRow_159 : decode cX10_tellRow 159 = .ok (.iaload, 1) := by decide +kernel
theorem dX10_tellRow_160 : decode cX10_tellRow 160 = .ok (.imul, 1) := by decide +kernel
theorem dX10_tellRow_161 : decode cX10_tellRow 161 = .ok (.iadd, 1) := by decide +kernel
theorem dX10_tellRow_162 : decode cX10_tellRow 162 = .ok (.iload 5, 2) := by decide +kernel
theorem dX10_tellRow_164 : decode cX10_tellRow 164 = .ok (.iadd, 1) := by decide +kernel
theorem dX10_tellRow_165 : decode cX10_tellRow 165 = .ok (.iload 6, 2) := by decide +kernel
theorem dX10_tellRow_167 : decode cX10_tellRow 167 = .ok (.bipush 111, 2) := by decide +kernel
theorem dX10_tellRow_169 : decode cX10_tellRow 169 = .ok (.if_icmp .ne 8, 3) := by decide +kernel
theorem dX10_tellRow_172 : decode cX10_tellRow 172 = .ok (.bipush (-2), 2) := by decide +kernel
theorem dX10_tellRow_174 : decode cX10_tellRow 174 = .ok (.goto 8, 3) := by decide +kernel
theorem dX10_tellRow_177 : decode cX10_tellRow 177 = .ok (.iload 6, 2) := by decide +kernel
theorem dX10_tellRow_179 : decode cX10_tellRow 179 = .ok (.bipush 97, 2) := by decide +kernel
theorem dX10_tellRow_181 : decode cX10_tellRow 181 = .ok (.isub, 1) := by decide +kernel
theorem dX10_tellRow_182 : decode cX10_tellRow 182 = .ok (.iastore, 1) := by decide +kernel
theorem dX10_tellRow_183 : decode cX10_tellRow 183 = .ok (.lload_n 2, 1) := by decide +kernel
theorem dX10_tellRow_184 : decode cX10_tellRow 184 = .ok (.ldc2_w 181, 3) := by decide +kernel
theorem dX10_tellRow_187 : decode cX10_tellRow 187 = .ok (.ldiv, 1) := by decide +kernel
theorem dX10_tellRow_188 : decode cX10_tellRow 188 = .ok (.lstore_n 2, 1) := by decide +kernel
theorem dX10_tellRow_189 : decode cX10_tellRow 189 = .ok (.iinc 5 (-1), 3) := by decide +kernel
theorem dX10_tellRow_192 : decode cX10_tellRow 192 = .ok (.goto (-91), 3) := by decide +kernel
theorem dX10_tellRow_195 : decode cX10_tellRow 195 = .ok (.aload_n 0, 1) := by decide +kernel
theorem dX10_tellRow_196 : decode cX10_tellRow 196 = .ok (.iconst 4, 1) := by decide +kernel
theorem dX10_tellRow_197 : decode cX10_tellRow 197 = .ok (.invokevirtual 287, 3) := by decide +kernel
theorem dX10_tellRow_200 : decode cX10_tellRow 200 = .ok (.aload_n 0, 1) := by decide +kernel
theorem dX10_tellRow_201 : decode cX10_tellRow 201 = .ok (.getfield 209, 3) := by decide +kernel
theorem dX10_tellRow_204 : decode cX10_tellRow 204 = .ok (.ifCond .ne 16, 3) := by decide +kernel
theorem dX10_tellRow_207 : decode cX10_tellRow 207 = .ok (.aload_n 0, 1) := by decide +kernel
theorem dX10_tellRow_208 : decode cX10_tellRow 208 = .ok (.getfield 43, 3) := by decide +kernel
theorem dX10_tellRow_211 : decode cX10_tellRow 211 = .ok (.aload_n 0, 1) := by decide +kernel
theorem dX10_tellRow_212 : decode cX10_tellRow 212 = .ok (.getfield 242, 3) := by decide +kernel
theorem dX10_tellRow_215 : decode cX10_tellRow 215 = .ok (.dup2, 1) := by decide +kernel
theorem dX10_tellRow_216 : decode cX10_tellRow 216 = .ok (.iaload, 1) := by decide +kernel
theorem dX10_tellRow_217 : decode cX10_tellRow 217 = .ok (.iconst 1, 1) := by decide +kernel
theorem dX10_tellRow_218 : decode cX10_tellRow 218 = .ok (.iadd, 1) := by decide +kernel
theorem dX10_tellRow_219 : decode cX10_tellRow 219 = .ok (.iastore, 1) := by decide +kernel
theorem dX10_tellRow_220 : decode cX10_tellRow 220 = .ok (.return_, 1) := by decide +kernel
theorem dX10_tellField_0 : decode cX10_tellField 0 = .ok (.bipush 6, 2) := by decide +kernel
theorem dX10_tellField_2 : decode cX10_tellField 2 = .ok (.aload_n 0, 1) := by decide +kernel
theorem dX10_tellField_3 : decode cX10_tellField 3 = .ok (.getfield 242, 3) := by decide +kernel
theorem dX10_tellField_6 : decode cX10_tellField 6 = .ok (.imul, 1) := by decide +kernel
theorem dX10_tellField_7 : decode cX10_tellField 7 = .ok (.aload_n 0, 1) := by decide +kernel
theorem dX10_tellField_8 : decode cX10_tellField 8 = .ok (.getfield 52, 3) := by decide +kernel
theorem dX10_tellField_11 : decode cX10_tellField 11 = .ok (.aload_n 0, 1) := by decide +kernel
theorem dX10_tellField_12 : decode cX10_tellField 12 = .ok (.getfield 242, 3) := by decide +kernel
theorem dX10_tellField_15 : decode cX10_tellField 15 = .ok (.iaload, 1) := by decide +kernel
theorem dX10_tellField_16 : decode cX10_tellField 16 = .ok (.iadd, 1) := by decide +kernel
theorem dX10_tellField_17 : decode cX10_tellField 17 = .ok (.istore_n 1, 1) := by decide +kernel
theorem dX10_tellField_18 : decode cX10_tellField 18 = .ok (.aload_n 0, 1) := by decide +kernel
theorem dX10_tellField_19 : decode cX10_tellField 19 = .ok (.invokevirtual 293, 3) := by decide +kernel
theorem dX10_tellField_22 : decode cX10_tellField 22 = .ok (.istore_n 2, 1) := by decide +kernel
theorem dX10_tellField_23 : decode cX10_tellField 23 = .ok (.aload_n 0, 1) := by decide +kernel
theorem dX10_tellField_24 : decode cX10_tellField 24 = .ok (.getfield 55, 3) := by decide +kernel
theorem dX10_tellField_27 : decode cX10_tellField 27 = .ok (.iload_n 1, 1) := by decide +kernel
theorem dX10_tellField_28 : decode cX10_tellField 28 = .ok (.aload_n 0, 1) := by decide +kernel
theorem dX10_tellField_29 : decode cX10_tellField 29 = .ok (.iconst 0, 1) := by decide +kernel
theorem dX10_tellField_30 : decode cX10_tellField 30 = .ok (.bipush 99, 2) := by decide +kernel
theorem dX10_tellField_32 : decode cX10_tellField 32 = .ok (.invokevirtual 283, 3) := by decide +kernel
theorem dX10_tellField_35 : decode cX10_tellField 35 = .ok (.iastore, 1) := by decide +kernel
theorem dX10_tellField_36 : decode cX10_tellField 36 = .ok (.aload_n 0, 1) := by decide +kernel
theorem dX10_tellField_37 : decode cX10_tellField 37 = .ok (.getfield 58, 3) := by decide +kernel
theorem dX10_tellField_40 : decode cX10_tellField 40 = .ok (.iload_n 1, 1) := by decide +kernel
theorem dX10_tellField_41 : decode cX10_tellField 41 = .ok (.aload_n 0, 1) := by decide +kernel
theorem dX10_tellField_42 : decode cX10_tellField 42 = .ok (.iconst 0, 1) := by decide +kernel
theorem dX10_tellField_43 : decode cX10_tellField 43 = .ok (.sipush 999, 3) := by decide +kernel
theorem dX10_tellField_46 : decode cX10_tellField 46 = .ok (.invokevirtual 283, 3) := by decide +kernel
theorem dX10_tellField_49 : decode cX10_tellField 49 = .ok (.iastore, 1) := by decide +kernel
theorem dX10_tellField_50 : decode cX10_tellField 50 = .ok (.aload_n 0, 1) := by decide +kernel
theorem dX10_tellField_51 : decode cX10_tellField 51 = .ok (.iload_n 2, 1) := by decide +kernel
theorem dX10_tellField_52 : decode cX10_tellField 52 = .ok (.invokevirtual 297, 3) := by decide +kernel
theorem dX10_tellField_55 : decode cX10_tellField 55 = .ok (.aload_n 0, 1) := by decide +kernel
theorem dX10_tellField_56 : decode cX10_tellField 56 = .ok (.getfield 209, 3) := by decide +kernel
theorem dX10_tellField_59 : decode cX10_tellField 59 = .ok (.ifCond .ne 16, 3) := by decide +kernel
theorem dX10_tellField_62 : decode cX10_tellField 62 = .ok (.aload_n 0, 1) := by decide +kernel
theorem dX10_tellField_63 : decode cX10_tellField 63 = .ok (.getfield 52, 3) := by decide +kernel
theorem dX10_tellField_66 : decode cX10_tellField 66 = .ok (.aload_n 0, 1) := by decide +kernel
theorem dX10_tellField_67 : decode cX10_tellField 67 = .ok (.getfield 242, 3) := by decide +kernel
theorem dX10_tellField_70 : decode cX10_tellField 70 = .ok (.dup2, 1) := by decide +kernel
theorem dX10_tellField_71 : decode cX10_tellField 71 = .ok (.iaload, 1) := by decide +kernel
theorem dX10_tellField_72 : decode cX10_tellField 72 = .ok (.iconst 1, 1) := by decide +kernel
theorem dX10_tellField_73 : decode cX10_tellField 73 = .ok (.iadd, 1) := by decide +kernel
theorem dX10_tellField_74 : decode cX10_tellField 74 = .ok (.iastore, 1) := by decide +kernel
theorem dX10_tellField_75 : decode cX10_tellField 75 = .ok (.return_, 1) := by decide +kernel
theorem dX10_tellLoom_0 : decode cX10_tellLoom 0 = .ok (.iconst 4, 1) := by decide +kernel
theorem dX10_tellLoom_1 : decode cX10_tellLoom 1 = .ok (.aload_n 0, 1) := by decide +kernel
theorem dX10_tellLoom_2 : decode cX10_tellLoom 2 = .ok (.getfield 242, 3) := by decide +kernel
theorem dX10_tellLoom_5 : decode cX10_tellLoom 5 = .ok (.imul, 1) := by decide +kernel
theorem dX10_tellLoom_6 : decode cX10_tellLoom 6 = .ok (.aload_n 0, 1) := by decide +kernel
theorem dX10_tellLoom_7 : decode cX10_tellLoom 7 = .ok (.getfield 61, 3) := by decide +kernel
theorem dX10_tellLoom_10 : decode cX10_tellLoom 10 = .ok (.aload_n 0, 1) := by decide +kernel
theorem dX10_tellLoom_11 : decode cX10_tellLoom 11 = .ok (.getfield 242, 3) := by decide +kernel
theorem dX10_tellLoom_14 : decode cX10_tellLoom 14 = .ok (.iaload, 1) := by decide +kernel
theorem dX10_tellLoom_15 : decode cX10_tellLoom 15 = .ok (.iadd, 1) := by decide +kernel
theorem dX10_tellLoom_16 : decode cX10_tellLoom 16 = .ok (.istore_n 1, 1) := by decide +kernel
theorem dX10_tellLoom_17 : decode cX10_tellLoom 17 = .ok (.aload_n 0, 1) := by decide +kernel
theorem dX10_tellLoom_18 : decode cX10_tellLoom 18 = .ok (.invokevirtual 293, 3) := by decide +kernel
theorem dX10_tellLoom_21 : decode cX10_tellLoom 21 = .ok (.istore_n 2, 1) := by decide +kernel
theorem dX10_tellLoom_22 : decode cX10_tellLoom 22 = .ok (.aload_n 0, 1) := by decide +kernel
theorem dX10_tellLoom_23 : decode cX10_tellLoom 23 = .ok (.getfield 64, 3) := by decide +kernel
theorem dX10_tellLoom_26 : decode cX10_tellLoom 26 = .ok (.iload_n 1, 1) := by decide +kernel
theorem dX10_tellLoom_27 : decode cX10_tellLoom 27 = .ok (.aload_n 0, 1) := by decide +kernel
theorem dX10_tellLoom_28 : decode cX10_tellLoom 28 = .ok (.iconst 1, 1) := by decide +kernel
theorem dX10_tellLoom_29 : decode cX10_tellLoom 29 = .ok (.bipush 8, 2) := by decide +kernel
theorem dX10_tellLoom_31 : decode cX10_tellLoom 31 = .ok (.invokevirtual 283, 3) := by decide +kernel
theorem dX10_tellLoom_34 : decode cX10_tellLoom 34 = .ok (.iastore, 1) := by decide +kernel
theorem dX10_tellLoom_35 : decode cX10_tellLoom 35 = .ok (.aload_n 0, 1) := by decide +kernel
theorem dX10_tellLoom_36 : decode cX10_tellLoom 36 = .ok (.getfield 67, 3) := by decide +kernel
theorem dX10_tellLoom_39 : decode cX10_tellLoom 39 = .ok (.iload_n 1, 1) := by decide +kernel
theorem dX10_tellLoom_40 : decode cX10_tellLoom 40 = .ok (.aload_n 0, 1) := by decide +kernel
theorem dX10_tellLoom_41 : decode cX10_tellLoom 41 = .ok (.iconst 0, 1) := by decide +kernel
theorem dX10_tellLoom_42 : decode cX10_tellLoom 42 = .ok (.bipush 99, 2) := by decide +kernel
theorem dX10_tellLoom_44 : decode cX10_tellLoom 44 = .ok (.invokevirtual 283, 3) := by decide +kernel
theorem dX10_tellLoom_47 : decode cX10_tellLoom 47 = .ok (.iastore, 1) := by decide +kernel
theorem dX10_tellLoom_48 : decode cX10_tellLoom 48 = .ok (.aload_n 0, 1) := by decide +kernel
theorem dX10_tellLoom_49 : decode cX10_tellLoom 49 = .ok (.iload_n 2, 1) := by decide +kernel
theorem dX10_tellLoom_50 : decode cX10_tellLoom 50 = .ok (.invokevirtual 297, 3) := by decide +kernel
theorem dX10_tellLoom_53 : decode cX10_tellLoom 53 = .ok (.aload_n 0, 1) := by decide +kernel
theorem dX10_tellLoom_54 : decode cX10_tellLoom 54 = .ok (.getfield 209, 3) := by decide +kernel
theorem dX10_tellLoom_57 : decode cX10_tellLoom 57 = .ok (.ifCond .ne 16, 3) := by decide +kernel
theorem dX10_tellLoom_60 : decode cX10_tellLoom 60 = .ok (.aload_n 0, 1) := by decide +kernel
theorem dX10_tellLoom_61 : decode cX10_tellLoom 61 = .ok (.getfield 61, 3) := by decide +kernel
theorem dX10_tellLoom_64 : decode cX10_tellLoom 64 = .ok (.aload_n 0, 1) := by decide +kernel
theorem dX10_tellLoom_65 : decode cX10_tellLoom 65 = .ok (.getfield 242, 3) := by decide +kernel
theorem dX10_tellLoom_68 : decode cX10_tellLoom 68 = .ok (.dup2, 1) := by decide +kernel
theorem dX10_tellLoom_69 : decode cX10_tellLoom 69 = .ok (.iaload, 1) := by decide +kernel
theorem dX10_tellLoom_70 : decode cX10_tellLoom 70 = .ok (.iconst 1, 1) := by decide +kernel
theorem dX10_tellLoom_71 : decode cX10_tellLoom 71 = .ok (.iadd, 1) := by decide +kernel
theorem dX10_tellLoom_72 : decode cX10_tellLoom 72 = .ok (.iastore, 1) := by decide +kernel
theorem dX10_tellLoom_73 : decode cX10_tellLoom 73 = .ok (.return_, 1) := by decide +kernel
theorem dX10_tellLaw_0 : decode cX10_tellLaw 0 = .ok (.aload_n 0, 1) := by decide +kernel
theorem dX10_tellLaw_1 : decode cX10_tellLaw 1 = .ok (.iconst 5, 1) := by decide +kernel
theorem dX10_tellLaw_2 : decode cX10_tellLaw 2 = .ok (.invokevirtual 287, 3) := by decide +kernel
theorem dX10_tellLaw_5 : decode cX10_tellLaw 5 = .ok (.aload_n 0, 1) := by decide +kernel
theorem dX10_tellLaw_6 : decode cX10_tellLaw 6 = .ok (.getfield 248, 3) := by decide +kernel
theorem dX10_tellLaw_9 : decode cX10_tellLaw 9 = .ok (.istore_n 2, 1) := by decide +kernel
theorem dX10_tellLaw_10 : decode cX10_tellLaw 10 = .ok (.iconst 0, 1) := by decide +kernel
theorem dX10_tellLaw_11 : decode cX10_tellLaw 11 = .ok (.istore_n 3, 1) := by decide +kernel
theorem dX10_tellLaw_12 : decode cX10_tellLaw 12 = .ok (.aload_n 0, 1) := by decide +kernel
theorem dX10_tellLaw_13 : decode cX10_tellLaw 13 = .ok (.getfield 209, 3) := by decide +kernel
theorem dX10_tellLaw_16 : decode cX10_tellLaw 16 = .ok (.ifCond .ne 113, 3) := by decide +kernel
theorem dX10_tellLaw_19 : decode cX10_tellLaw 19 = .ok (.aload_n 0, 1) := by decide +kernel
theorem dX10_tellLaw_20 : decode cX10_tellLaw 20 = .ok (.bipush 29, 2) := by decide +kernel
theorem dX10_tellLaw_22 : decode cX10_tellLaw 22 = .ok (.invokevirtual 227, 3) := by decide +kernel
theorem dX10_tellLaw_25 : decode cX10_tellLaw 25 = .ok (.ifCond .eq 104, 3) := by decide +kernel
theorem dX10_tellLaw_28 : decode cX10_tellLaw 28 = .ok (.iload_n 3, 1) := by decide +kernel
theorem dX10_tellLaw_29 : decode cX10_tellLaw 29 = .ok (.iconst 4, 1) := by decide +kernel
theorem dX10_tellLaw_30 : decode cX10_tellLaw 30 = .ok (.if_icmp .ne 8, 3) := by decide +kernel
theorem dX10_tellLaw_33 : decode cX10_tellLaw 33 = .ok (.aload_n 0, 1) := by decide +kernel
theorem dX10_tellLaw_34 : decode cX10_tellLaw 34 = .ok (.iconst 2, 1) := by decide +kernel
theorem dX10_tellLaw_35 : decode cX10_tellLaw 35 = .ok (.invokevirtual 224, 3) := by decide +kernel
theorem dX10_tellLaw_38 : decode cX10_tellLaw 38 = .ok (.aload_n 0, 1) := by decide +kernel
theorem dX10_tellLaw_39 : decode cX10_tellLaw 39 = .ok (.getfield 209, 3) := by decide +kernel
theorem dX10_tellLaw_42 : decode cX10_tellLaw 42 = .ok (.ifCond .le 4, 3) := by decide +kernel
theorem dX10_tellLaw_45 : decode cX10_tellLaw 45 = .ok (.return_, 1) := by decide +kernel
theorem dX10_tellLaw_46 : decode cX10_tellLaw 46 = .ok (.iinc 3 1, 3) := by decide +kernel
theorem dX10_tellLaw_49 : decode cX10_tellLaw 49 = .ok (.aload_n 0, 1) := by decide +kernel
theorem dX10_tellLaw_50 : decode cX10_tellLaw 50 = .ok (.invokevirtual 230, 3) := by decide +kernel
theorem dX10_tellLaw_53 : decode cX10_tellLaw 53 = .ok (.aload_n 0, 1) := by decide +kernel
theorem dX10_tellLaw_54 : decode cX10_tellLaw 54 = .ok (.getfield 85, 3) := by decide +kernel
theorem dX10_tellLaw_57 : decode cX10_tellLaw 57 = .ok (.aload_n 0, 1) := by decide +kernel
theorem dX10_tellLaw_58 : decode cX10_tellLaw 58 = .ok (.getfield 248, 3) := by decide +kernel
theorem dX10_tellLaw_61 : decode cX10_tellLaw 61 = .ok (.iconst 1, 1) := by decide +kernel
theorem dX10_tellLaw_62 : decode cX10_tellLaw 62 = .ok (.bastore, 1) := by decide +kernel
theorem dX10_tellLaw_63 : decode cX10_tellLaw 63 = .ok (.aload_n 0, 1) := by decide +kernel
theorem dX10_tellLaw_64 : decode cX10_tellLaw 64 = .ok (.getfield 89, 3) := by decide +kernel
theorem dX10_tellLaw_67 : decode cX10_tellLaw 67 = .ok (.aload_n 0, 1) := by decide +kernel
theorem dX10_tellLaw_68 : decode cX10_tellLaw 68 = .ok (.getfield 248, 3) := by decide +kernel
theorem dX10_tellLaw_71 : decode cX10_tellLaw 71 = .ok (.aload_n 0, 1) := by decide +kernel
theorem dX10_tellLaw_72 : decode cX10_tellLaw 72 = .ok (.getfield 251, 3) := by decide +kernel
theorem dX10_tellLaw_75 : decode cX10_tellLaw 75 = .ok (.iastore, 1) := by decide +kernel
theorem dX10_tellLaw_76 : decode cX10_tellLaw 76 = .ok (.aload_n 0, 1) := by decide +kernel
theorem dX10_tellLaw_77 : decode cX10_tellLaw 77 = .ok (.invokevirtual 300, 3) := by decide +kernel
theorem dX10_tellLaw_80 : decode cX10_tellLaw 80 = .ok (.aload_n 0, 1) := by decide +kernel
theorem dX10_tellLaw_81 : decode cX10_tellLaw 81 = .ok (.bipush 13, 2) := by decide +kernel
theorem dX10_tellLaw_83 : decode cX10_tellLaw 83 = .ok (.invokevirtual 287, 3) := by decide +kernel
theorem dX10_tellLaw_86 : decode cX10_tellLaw 86 = .ok (.aload_n 0, 1) := by decide +kernel
theorem dX10_tellLaw_87 : decode cX10_tellLaw 87 = .ok (.getfield 92, 3) := by decide +kernel
theorem dX10_tellLaw_90 : decode cX10_tellLaw 90 = .ok (.aload_n 0, 1) := by decide +kernel
theorem dX10_tellLaw_91 : decode cX10_tellLaw 91 = .ok (.getfield 248, 3) := by decide +kernel
theorem dX10_tellLaw_94 : decode cX10_tellLaw 94 = .ok (.aload_n 0, 1) := by decide +kernel
theorem dX10_tellLaw_95 : decode cX10_tellLaw 95 = .ok (.getfield 251, 3) := by decide +kernel
theorem dX10_tellLaw_98 : decode cX10_tellLaw 98 = .ok (.iastore, 1) := by decide +kernel
theorem dX10_tellLaw_99 : decode cX10_tellLaw 99 = .ok (.aload_n 0, 1) := by decide +kernel
theorem dX10_tellLaw_100 : decode cX10_tellLaw 100 = .ok (.getfield 209, 3) := by decide +kernel
theorem dX10_tellLaw_103 : decode cX10_tellLaw 103 = .ok (.ifCond .ne 7, 3) := by decide +kernel
theorem dX10_tellLaw_106 : decode cX10_tellLaw 106 = .ok (.aload_n 0, 1) := by decide +kernel
theorem dX10_tellLaw_107 : decode cX10_tellLaw 107 = .ok (.invokevirtual 300, 3) := by decide +kernel
theorem dX10_tellLaw_110 : decode cX10_tellLaw 110 = .ok (.aload_n 0, 1) := by decide +kernel
theorem dX10_tellLaw_111 : decode cX10_tellLaw 111 = .ok (.bipush 30, 2) := by decide +kernel
theorem dX10_tellLaw_113 : decode cX10_tellLaw 113 = .ok (.invokevirtual 287, 3) := by decide +kernel
theorem dX10_tellLaw_116 : decode cX10_tellLaw 116 = .ok (.aload_n 0, 1) := by decide +kernel
theorem dX10_tellLaw_117 : decode cX10_tellLaw 117 = .ok (.invokevirtual 303, 3) := by decide +kernel
theorem dX10_tellLaw_120 : decode cX10_tellLaw 120 = .ok (.aload_n 0, 1) := by decide +kernel
theorem dX10_tellLaw_121 : decode cX10_tellLaw 121 = .ok (.bipush 31, 2) := by decide +kernel
theorem dX10_tellLaw_123 : decode cX10_tellLaw 123 = .ok (.invokevirtual 287, 3) := by decide +kernel
theorem dX10_tellLaw_126 : decode cX10_tellLaw 126 = .ok (.goto (-114), 3) := by decide +kernel
theorem dX10_tellLaw_129 : decode cX10_tellLaw 129 = .ok (.aload_n 0, 1) := by decide +kernel
theorem dX10_tellLaw_130 : decode cX10_tellLaw 130 = .ok (.getfield 85, 3) := by decide +kernel
theorem dX10_tellLaw_133 : decode cX10_tellLaw 133 = .ok (.aload_n 0, 1) := by decide +kernel
theorem dX10_tellLaw_134 : decode cX10_tellLaw 134 = .ok (.getfield 248, 3) := by decide +kernel
theorem dX10_tellLaw_137 : decode cX10_tellLaw 137 = .ok (.iconst 0, 1) := by decide +kernel
theorem dX10_tellLaw_138 : decode cX10_tellLaw 138 = .ok (.bastore, 1) := by decide +kernel
theorem dX10_tellLaw_139 : decode cX10_tellLaw 139 = .ok (.aload_n 0, 1) := by decide +kernel
theorem dX10_tellLaw_140 : decode cX10_tellLaw 140 = .ok (.invokevirtual 303, 3) := by decide +kernel
theorem dX10_tellLaw_143 : decode cX10_tellLaw 143 = .ok (.aload_n 0, 1) := by decide +kernel
theorem dX10_tellLaw_144 : decode cX10_tellLaw 144 = .ok (.iconst 4, 1) := by decide +kernel
theorem dX10_tellLaw_145 : decode cX10_tellLaw 145 = .ok (.invokevirtual 287, 3) := by decide +kernel
theorem dX10_tellLaw_148 : decode cX10_tellLaw 148 = .ok (.aload_n 0, 1) := by decide +kernel
theorem dX10_tellLaw_149 : decode cX10_tellLaw 149 = .ok (.getfield 209, 3) := by decide +kernel
theorem dX10_tellLaw_152 : decode cX10_tellLaw 152 = .ok (.ifCond .le 4, 3) := by decide +kernel
theorem dX10_tellLaw_155 : decode cX10_tellLaw 155 = .ok (.return_, 1) := by decide +kernel
theorem dX10_tellLaw_156 : decode cX10_tellLaw 156 = .ok (.aload_n 0, 1) := by decide +kernel
theorem dX10_tellLaw_157 : decode cX10_tellLaw 157 = .ok (.getfield 79, 3) := by decide +kernel
theorem dX10_tellLaw_160 : decode cX10_tellLaw 160 = .ok (.iconst 3, 1) := by decide +kernel
theorem dX10_tellLaw_161 : decode cX10_tellLaw 161 = .ok (.aload_n 0, 1) := by decide +kernel
theorem dX10_tellLaw_162 : decode cX10_tellLaw 162 = .ok (.getfield 242, 3) := by decide +kernel
theorem dX10_tellLaw_165 : decode cX10_tellLaw 165 = .ok (.imul, 1) := by decide +kernel
theorem dX10_tellLaw_166 : decode cX10_tellLaw 166 = .ok (.iload_n 1, 1) := by decide +kernel
theorem dX10_tellLaw_167 : decode cX10_tellLaw 167 = .ok (.iadd, 1) := by decide +kernel
theorem dX10_tellLaw_168 : decode cX10_tellLaw 168 = .ok (.iload_n 2, 1) := by decide +kernel
theorem dX10_tellLaw_169 : decode cX10_tellLaw 169 = .ok (.iastore, 1) := by decide +kernel
theorem dX10_tellLaw_170 : decode cX10_tellLaw 170 = .ok (.aload_n 0, 1) := by decide +kernel
theorem dX10_tellLaw_171 : decode cX10_tellLaw 171 = .ok (.getfield 82, 3) := by decide +kernel
theorem dX10_tellLaw_174 : decode cX10_tellLaw 174 = .ok (.iconst 3, 1) := by decide +kernel
theorem dX10_tellLaw_175 : decode cX10_tellLaw 175 = .ok (.aload_n 0, 1) := by decide +kernel
theorem dX10_tellLaw_176 : decode cX10_tellLaw 176 = .ok (.getfield 242, 3) := by decide +kernel
theorem dX10_tellLaw_179 : decode cX10_tellLaw 179 = .ok (.imul, 1) := by decide +kernel
theorem dX10_tellLaw_180 : decode cX10_tellLaw 180 = .ok (.iload_n 1, 1) := by decide +kernel
theorem dX10_tellLaw_181 : decode cX10_tellLaw 181 = .ok (.iadd, 1) := by decide +kernel
theorem dX10_tellLaw_182 : decode cX10_tellLaw 182 = .ok (.aload_n 0, 1) := by decide +kernel
theorem dX10_tellLaw_183 : decode cX10_tellLaw 183 = .ok (.getfield 248, 3) := by decide +kernel
theorem dX10_tellLaw_186 : decode cX10_tellLaw 186 = .ok (.iastore, 1) := by decide +kernel
theorem dX10_tellLaw_187 : decode cX10_tellLaw 187 = .ok (.return_, 1) := by decide +kernel
theorem dX10_term_0 : decode cX10_term 0 = .ok (.aload_n 0, 1) := by decide +kernel
theorem dX10_term_1 : decode cX10_term 1 = .ok (.getfield 95, 3) := by decide +kernel
theorem dX10_term_4 : decode cX10_term 4 = .ok (.aload_n 0, 1) := by decide +kernel
theorem dX10_term_5 : decode cX10_term 5 = .ok (.getfield 248, 3) := by decide +kernel
theorem dX10_term_8 : decode cX10_term 8 = .ok (.aload_n 0, 1) := by decide +kernel
theorem dX10_term_9 : decode cX10_term 9 = .ok (.getfield 251, 3) := by decide +kernel
theorem dX10_term_12 : decode cX10_term 12 = .ok (.iastore, 1) := by decide +kernel
theorem dX10_term_13 : decode cX10_term 13 = .ok (.aload_n 0, 1) := by decide +kernel
theorem dX10_term_14 : decode cX10_term 14 = .ok (.getfield 209, 3) := by decide +kernel
theorem dX10_term_17 : decode cX10_term 17 = .ok (.ifCond .ne 7, 3) := by decide +kernel
theorem dX10_term_20 : decode cX10_term 20 = .ok (.aload_n 0, 1) := by decide +kernel
theorem dX10_term_21 : decode cX10_term 21 = .ok (.invokevirtual 300, 3) := by decide +kernel
theorem dX10_term_24 : decode cX10_term 24 = .ok (.aload_n 0, 1) := by decide +kernel
theorem dX10_term_25 : decode cX10_term 25 = .ok (.getfield 98, 3) := by decide +kernel
theorem dX10_term_28 : decode cX10_term 28 = .ok (.aload_n 0, 1) := by decide +kernel
theorem dX10_term_29 : decode cX10_term 29 = .ok (.getfield 248, 3) := by decide +kernel
theorem dX10_term_32 : decode cX10_term 32 = .ok (.aload_n 0, 1) := by decide +kernel
theorem dX10_term_33 : decode cX10_term 33 = .ok (.getfield 251, 3) := by decide +kernel
theorem dX10_term_36 : decode cX10_term 36 = .ok (.iastore, 1) := by decide +kernel
theorem dX10_term_37 : decode cX10_term 37 = .ok (.aload_n 0, 1) := by decide +kernel
theorem dX10_term_38 : decode cX10_term 38 = .ok (.dup, 1) := by decide +kernel
theorem dX10_term_39 : decode cX10_term 39 = .ok (.getfield 248, 3) := by decide +kernel
theorem dX10_term_42 : decode cX10_term 42 = .ok (.iconst 1, 1) := by decide +kernel
theorem dX10_term_43 : decode cX10_term 43 = .ok (.iadd, 1) := by decide +kernel
theorem dX10_term_44 : decode cX10_term 44 = .ok (.putfield 248, 3) := by decide +kernel
theorem dX10_term_47 : decode cX10_term 47 = .ok (.return_, 1) := by decide +kernel
theorem dX10_emit_0 : decode cX10_emit 0 = .ok (.aload_n 0, 1) := by decide +kernel
theorem dX10_emit_1 : decode cX10_emit 1 = .ok (.getfield 101, 3) := by decide +kernel
theorem dX10_emit_4 : decode cX10_emit 4 = .ok (.aload_n 0, 1) := by decide +kernel
theorem dX10_emit_5 : decode cX10_emit 5 = .ok (.getfield 251, 3) := by decide +kernel
theorem dX10_emit_8 : decode cX10_emit 8 = .ok (.iload_n 1, 1) := by decide +kernel
theorem dX10_emit_9 : decode cX10_emit 9 = .ok (.iastore, 1) := by decide +kernel
theorem dX10_emit_10 : decode cX10_emit 10 = .ok (.aload_n 0, 1) := by decide +kernel
theorem dX10_emit_11 : decode cX10_emit 11 = .ok (.getfield 104, 3) := by decide +kernel
theorem dX10_emit_14 : decode cX10_emit 14 = .ok (.aload_n 0, 1) := by decide +kernel
theorem dX10_emit_15 : decode cX10_emit 15 = .ok (.getfield 251, 3) := by decide +kernel
theorem dX10_emit_18 : decode cX10_emit 18 = .ok (.iload_n 2, 1) := by decide +kernel
theorem dX10_emit_19 : decode cX10_emit 19 = .ok (.iastore, 1) := by decide +kernel
theorem dX10_emit_20 : decode cX10_emit 20 = .ok (.aload_n 0, 1) := by decide +kernel
theorem dX10_emit_21 : decode cX10_emit 21 = .ok (.dup, 1) := by decide +kernel
theorem dX10_emit_22 : decode cX10_emit 22 = .ok (.getfield 251, 3) := by decide +kernel
theorem dX10_emit_25 : decode cX10_emit 25 = .ok (.iconst 1, 1) := by decide +kernel
theorem dX10_emit_26 : decode cX10_emit 26 = .ok (.iadd, 1) := by decide +kernel
theorem dX10_emit_27 : decode cX10_emit 27 = .ok (.putfield 251, 3) := by decide +kernel
theorem dX10_emit_30 : decode cX10_emit 30 = .ok (.return_, 1) := by decide +kernel
theorem dX10_comesOut_0 : decode cX10_comesOut 0 = .ok (.aload_n 0, 1) := by decide +kernel
theorem dX10_comesOut_1 : decode cX10_comesOut 1 = .ok (.getfield 306, 3) := by decide +kernel
theorem dX10_comesOut_4 : decode cX10_comesOut 4 = .ok (.ifCond .le 87, 3) := by decide +kernel
theorem dX10_comesOut_7 : decode cX10_comesOut 7 = .ok (.aload_n 0, 1) := by decide +kernel
theorem dX10_comesOut_8 : decode cX10_comesOut 8 = .ok (.getfield 107, 3) := by decide +kernel
theorem dX10_comesOut_11 : decode cX10_comesOut 11 = .ok (.aload_n 0, 1) := by decide +kernel
theorem dX10_comesOut_12 : decode cX10_comesOut 12 = .ok (.getfield 306, 3) := by decide +kernel
theorem dX10_comesOut_15 : decode cX10_comesOut 15 = .ok (.iconst 1, 1) := by decide +kernel
theorem dX10_comesOut_16 : decode cX10_comesOut 16 = .ok (.isub, 1) := by decide +kernel
theorem dX10_comesOut_17 : decode cX10_comesOut 17 = .ok (.iaload, 1) := by decide +kernel
theorem dX10_comesOut_18 : decode cX10_comesOut 18 = .ok (.istore_n 2, 1) := by decide +kernel
theorem dX10_comesOut_19 : decode cX10_comesOut 19 = .ok (.iload_n 2, 1) := by decide +kernel
theorem dX10_comesOut_20 : decode cX10_comesOut 20 = .ok (.bipush 6, 2) := by decide +kernel
theorem dX10_comesOut_22 : decode cX10_comesOut 22 = .ok (.if_icmp .eq 19, 3) := by decide +kernel
theorem dX10_comesOut_25 : decode cX10_comesOut 25 = .ok (.iload_n 1, 1) := by decide +kernel
theorem dX10_comesOut_26 : decode cX10_comesOut 26 = .ok (.ifCond .eq 16, 3) := by decide +kernel
theorem dX10_comesOut_29 : decode cX10_comesOut 29 = .ok (.iload_n 2, 1) := by decide +kernel
theorem dX10_comesOut_30 : decode cX10_comesOut 30 = .ok (.bipush 8, 2) := by decide +kernel
theorem dX10_comesOut_32 : decode cX10_comesOut 32 = .ok (.if_icmp .eq 9, 3) := by decide +kernel
theorem dX10_comesOut_35 : decode cX10_comesOut 35 = .ok (.iload_n 2, 1) := by decide +kernel
theorem dX10_comesOut_36 : decode cX10_comesOut 36 = .ok (.bipush 9, 2) := by decide +kernel
theorem dX10_comesOut_38 : decode cX10_comesOut 38 = .ok (.if_icmp .ne 4, 3) := by decide +kernel
theorem dX10_comesOut_41 : decode cX10_comesOut 41 = .ok (.return_, 1) := by decide +kernel
theorem dX10_comesOut_42 : decode cX10_comesOut 42 = .ok (.aload_n 0, 1) := by decide +kernel
theorem dX10_comesOut_43 : decode cX10_comesOut 43 = .ok (.dup, 1) := by decide +kernel
theorem dX10_comesOut_44 : decode cX10_comesOut 44 = .ok (.getfield 306, 3) := by decide +kernel
theorem dX10_comesOut_47 : decode cX10_comesOut 47 = .ok (.iconst 1, 1) := by decide +kernel
theorem dX10_comesOut_48 : decode cX10_comesOut 48 = .ok (.isub, 1) := by decide +kernel
theorem dX10_comesOut_49 : decode cX10_comesOut 49 = .ok (.putfield 306, 3) := by decide +kernel
theorem dX10_comesOut_52 : decode cX10_comesOut 52 = .ok (.aload_n 0, 1) := by decide +kernel
theorem dX10_comesOut_53 : decode cX10_comesOut 53 = .ok (.iload_n 2, 1) := by decide +kernel
theorem dX10_comesOut_54 : decode cX10_comesOut 54 = .ok (.bipush 8, 2) := by decide +kernel
theorem dX10_comesOut_56 : decode cX10_comesOut 56 = .ok (.if_icmp .ne 7, 3) := by decide +kernel
theorem dX10_comesOut_59 : decode cX10_comesOut 59 = .ok (.iconst 2, 1) := by decide +kernel
theorem dX10_comesOut_60 : decode cX10_comesOut 60 = .ok (.goto 24, 3) := by decide +kernel
theorem dX10_comesOut_63 : decode cX10_comesOut 63 = .ok (.iload_n 2, 1) := by decide +kernel
theorem dX10_comesOut_64 : decode cX10_comesOut 64 = .ok (.bipush 9, 2) := by decide +kernel
theorem dX10_comesOut_66 : decode cX10_comesOut 66 = .ok (.if_icmp .ne 7, 3) := by decide +kernel
theorem dX10_comesOut_69 : decode cX10_comesOut 69 = .ok (.iconst 3, 1) := by decide +kernel
theorem dX10_comesOut_70 : decode cX10_comesOut 70 = .ok (.goto 14, 3) := by decide +kernel
theorem dX10_comesOut_73 : decode cX10_comesOut 73 = .ok (.iload_n 2, 1) := by decide +kernel
theorem dX10_comesOut_74 : decode cX10_comesOut 74 = .ok (.bipush 10, 2) := by decide +kernel
theorem dX10_comesOut_76 : decode cX10_comesOut 76 = .ok (.if_icmp .ne 7, 3) := by decide +kernel
theorem dX10_comesOut_79 : decode cX10_comesOut 79 = .ok (.iconst 4, 1) := by decide +kernel
theorem dX10_comesOut_80 : decode cX10_comesOut 80 = .ok (.goto 4, 3) := by decide +kernel
theorem dX10_comesOut_83 : decode cX10_comesOut 83 = .ok (.iconst 5, 1) := by decide +kernel
theorem dX10_comesOut_84 : decode cX10_comesOut 84 = .ok (.iconst 0, 1) := by decide +kernel
theorem dX10_comesOut_85 : decode cX10_comesOut 85 = .ok (.invokevirtual 309, 3) := by decide +kernel
theorem dX10_comesOut_88 : decode cX10_comesOut 88 = .ok (.goto (-88), 3) := by decide +kernel
theorem dX10_comesOut_91 : decode cX10_comesOut 91 = .ok (.return_, 1) := by decide +kernel
theorem dX10_expression_0 : decode cX10_expression 0 = .ok (.aload_n 0, 1) := by decide +kernel
theorem dX10_expression_1 : decode cX10_expression 1 = .ok (.iconst 0, 1) := by decide +kernel
theorem dX10_expression_2 : decode cX10_expression 2 = .ok (.putfield 306, 3) := by decide +kernel
theorem dX10_expression_5 : decode cX10_expression 5 = .ok (.aload_n 0, 1) := by decide +kernel
theorem dX10_expression_6 : decode cX10_expression 6 = .ok (.getfield 236, 3) := by decide +kernel
theorem dX10_expression_9 : decode cX10_expression 9 = .ok (.istore_n 1, 1) := by decide +kernel
theorem dX10_expression_10 : decode cX10_expression 10 = .ok (.iconst 1, 1) := by decide +kernel
theorem dX10_expression_11 : decode cX10_expression 11 = .ok (.istore_n 2, 1) := by decide +kernel
theorem dX10_expression_12 : decode cX10_expression 12 = .ok (.iload_n 2, 1) := by decide +kernel
theorem dX10_expression_13 : decode cX10_expression 13 = .ok (.ifCond .eq 259, 3) := by decide +kernel
theorem dX10_expression_16 : decode cX10_expression 16 = .ok (.aload_n 0, 1) := by decide +kernel
theorem dX10_expression_17 : decode cX10_expression 17 = .ok (.getfield 209, 3) := by decide +kernel
theorem dX10_expression_20 : decode cX10_expression 20 = .ok (.ifCond .ne 252, 3) := by decide +kernel
theorem dX10_expression_23 : decode cX10_expression 23 = .ok (.aload_n 0, 1) := by decide +kernel
theorem dX10_expression_24 : decode cX10_expression 24 = .ok (.bipush 6, 2) := by decide +kernel
theorem dX10_expression_26 : decode cX10_expression 26 = .ok (.invokevirtual 227, 3) := by decide +kernel
theorem dX10_expression_29 : decode cX10_expression 29 = .ok (.ifCond .eq 55, 3) := by decide +kernel
theorem dX10_expression_32 : decode cX10_expression 32 = .ok (.aload_n 0, 1) := by decide +kernel
theorem dX10_expression_33 : decode cX10_expression 33 = .ok (.getfield 236, 3) := by decide +kernel
theorem dX10_expression_36 : decode cX10_expression 36 = .ok (.bipush 6, 2) := by decide +kernel
theorem dX10_expression_38 : decode cX10_expression 38 = .ok (.if_icmp .ne 8, 3) := by decide +kernel
theorem dX10_expression_41 : decode cX10_expression 41 = .ok (.aload_n 0, 1) := by decide +kernel
theorem dX10_expression_42 : decode cX10_expression 42 = .ok (.iconst 2, 1) := by decide +kernel
theorem dX10_expression_43 : decode cX10_expression 43 = .ok (.invokevirtual 224, 3) := by decide +kernel
theorem dX10_expression_46 : decode cX10_expression 46 = .ok (.aload_n 0, 1) := by decide +kernel
theorem dX10_expression_47 : decode cX10_expression 47 = .ok (.dup, 1) := by decide +kernel
theorem dX10_expression_48 : decode cX10_expression 48 = .ok (.getfield 236, 3) := by decide +kernel
theorem dX10_expression_51 : decode cX10_expression 51 = .ok (.iconst 1, 1) := by decide +kernel
theorem dX10_expression_52 : decode cX10_expression 52 = .ok (.iadd, 1) := by decide +kernel
theorem dX10_expression_53 : decode cX10_expression 53 = .ok (.putfield 236, 3) := by decide +kernel
theorem dX10_expression_56 : decode cX10_expression 56 = .ok (.aload_n 0, 1) := by decide +kernel
theorem dX10_expression_57 : decode cX10_expression 57 = .ok (.invokevirtual 230, 3) := by decide +kernel
theorem dX10_expression_60 : decode cX10_expression 60 = .ok (.aload_n 0, 1) := by decide +kernel
theorem dX10_expression_61 : decode cX10_expression 61 = .ok (.getfield 107, 3) := by decide +kernel
theorem dX10_expression_64 : decode cX10_expression 64 = .ok (.aload_n 0, 1) := by decide +kernel
theorem dX10_expression_65 : decode cX10_expression 65 = .ok (.getfield 306, 3) := by decide +kernel
theorem dX10_expression_68 : decode cX10_expression 68 = .ok (.bipush 6, 2) := by decide +kernel
theorem dX10_expression_70 : decode cX10_expression 70 = .ok (.iastore, 1) := by decide +kernel
theorem dX10_expression_71 : decode cX10_expression 71 = .ok (.aload_n 0, 1) := by decide +kernel
theorem dX10_expression_72 : decode cX10_expression 72 = .ok (.dup, 1) := by decide +kernel
theorem dX10_expression_73 : decode cX10_expression 73 = .ok (.getfield 306, 3) := by decide +kernel
theorem dX10_expression_76 : decode cX10_expression 76 = .ok (.iconst 1, 1) := by decide +kernel
theorem dX10_expression_77 : decode cX10_expression 77 = .ok (.iadd, 1) := by decide +kernel
theorem dX10_expression_78 : decode cX10_expression 78 = .ok (.putfield 306, 3) := by decide +kernel
theorem dX10_expression_81 : decode cX10_expression 81 = .ok (.goto (-58), 3) := by decide +kernel
theorem dX10_expression_84 : decode cX10_expression 84 = .ok (.aload_n 0, 1) := by decide +kernel
theorem dX10_expression_85 : decode cX10_expression 85 = .ok (.invokevirtual 312, 3) := by decide +kernel
theorem dX10_expression_88 : decode cX10_expression 88 = .ok (.aload_n 0, 1) := by decide +kernel
theorem dX10_expression_89 : decode cX10_expression 89 = .ok (.getfield 209, 3) := by decide +kernel
theorem dX10_expression_92 : decode cX10_expression 92 = .ok (.ifCond .le 4, 3) := by decide +kernel
theorem dX10_expression_95 : decode cX10_expression 95 = .ok (.return_, 1) := by decide +kernel
theorem dX10_expression_96 : decode cX10_expression 96 = .ok (.aload_n 0, 1) := by decide +kernel
theorem dX10_expression_97 : decode cX10_expression 97 = .ok (.bipush 7, 2) := by decide +kernel
theorem dX10_expression_99 : decode cX10_expression 99 = .ok (.invokevirtual 227, 3) := by decide +kernel
theorem dX10_expression_102 : decode cX10_expression 102 = .ok (.ifCond .eq 43, 3) := by decide +kernel
theorem dX10_expression_105 : decode cX10_expression 105 = .ok (.aload_n 0, 1) := by decide +kernel
theorem dX10_expression_106 : decode cX10_expression 106 = .ok (.getfield 236, 3) := by decide +kernel
theorem dX10_expression_109 : decode cX10_expression 109 = .ok (.iload_n 1, 1) := by decide +kernel
theorem dX10_expression_110 : decode cX10_expression 110 = .ok (.if_icmp .le 35, 3) := by decide +kernel
theorem dX10_expression_113 : decode cX10_expression 113 = .ok (.aload_n 0, 1) := by decide +kernel
theorem dX10_expression_114 : decode cX10_expression 114 = .ok (.iconst 0, 1) := by decide +kernel
theorem dX10_expression_115 : decode cX10_expression 115 = .ok (.invokevirtual 315, 3) := by decide +kernel
theorem dX10_expression_118 : decode cX10_expression 118 = .ok (.aload_n 0, 1) := by decide +kernel
theorem dX10_expression_119 : decode cX10_expression 119 = .ok (.dup, 1) := by decide +kernel
theorem dX10_expression_120 : decode cX10_expression 120 = .ok (.getfield 306, 3) := by decide +kernel
theorem dX10_expression_123 : decode cX10_expression 123 = .ok (.iconst 1, 1) := by decide +kernel
theorem dX10_expression_124 : decode cX10_expression 124 = .ok (.isub, 1) := by decide +kernel
theorem dX10_expression_125 : decode cX10_expression 125 = .ok (.putfield 306, 3) := by decide +kernel
theorem dX10_expression_128 : decode cX10_expression 128 = .ok (.aload_n 0, 1) := by decide +kernel
theorem dX10_expression_129 : decode cX10_expression 129 = .ok (.dup, 1) := by decide +kernel
theorem dX10_expression_130 : decode cX10_expression 130 = .ok (.getfield 236, 3) := by decide +kernel
theorem dX10_expression_133 : decode cX10_expression 133 = .ok (.iconst 1, 1) := by decide +kernel
theorem dX10_expression_134 : decode cX10_expression 134 = .ok (.isub, 1) := by decide +kernel
theorem dX10_expression_135 : decode cX10_expression 135 = .ok (.putfield 236, 3) := by decide +kernel
theorem dX10_expression_138 : decode cX10_expression 138 = .ok (.aload_n 0, 1) := by decide +kernel
theorem dX10_expression_139 : decode cX10_expression 139 = .ok (.invokevirtual 230, 3) := by decide +kernel
theorem dX10_expression_142 : decode cX10_expression 142 = .ok (.goto (-46), 3) := by decide +kernel
theorem dX10_expression_145 : decode cX10_expression 145 = .ok (.aload_n 0, 1) := by decide +kernel
theorem dX10_expression_146 : decode cX10_expression 146 = .ok (.bipush 8, 2) := by decide +kernel
theorem dX10_expression_148 : decode cX10_expression 148 = .ok (.invokevirtual 227, 3) := by decide +kernel
theorem dX10_expression_151 : decode cX10_expression 151 = .ok (.ifCond .ne 30, 3) := by decide +kernel
theorem dX10_expression_154 : decode cX10_expression 154 = .ok (.aload_n 0, 1) := by decide +kernel
theorem dX10_expression_155 : decode cX10_expression 155 = .ok (.bipush 9, 2) := by decide +kernel
theorem dX10_expression_157 : decode cX10_expression 157 = .ok (.invokevirtual 227, 3) := by decide +kernel
theorem dX10_expression_160 : decode cX10_expression 160 = .ok (.ifCond .ne 21, 3) := by decide +kernel
theorem dX10_expression_163 : decode cX10_expression 163 = .ok (.aload_n 0, 1) := by decide +kernel
theorem dX10_expression_164 : decode cX10_expression 164 = .ok (.bipush 10, 2) := by decide +kernel
theorem dX10_expression_166 : decode cX10_expression 166 = .ok (.invokevirtual 227, 3) := by decide +kernel
theorem dX10_expression_169 : decode cX10_expression 169 = .ok (.ifCond .ne 12, 3) := by decide +kernel
theorem dX10_expression_172 : decode cX10_expression 172 = .ok (.aload_n 0, 1) := by decide +kernel
theorem dX10_expression_173 : decode cX10_expression 173 = .ok (.bipush 15, 2) := by decide +kernel
theorem dX10_expression_175 : decode cX10_expression 175 = .ok (.invokevirtual 227, 3) := by decide +kernel
theorem dX10_expression_178 : decode cX10_expression 178 = .ok (.ifCond .eq 7, 3) := by decide +kernel
theorem dX10_expression_181 : decode cX10_expression 181 = .ok (.iconst 1, 1) := by decide +kernel
theorem dX10_expression_182 : decode cX10_expression 182 = .ok (.goto 4, 3) := by decide +kernel
theorem dX10_expression_185 : decode cX10_expression 185 = .ok (.iconst 0, 1) := by decide +kernel
theorem dX10_expression_186 : decode cX10_expression 186 = .ok (.istore_n 2, 1) := by decide +kernel
theorem dX10_expression_187 : decode cX10_expression 187 = .ok (.iload_n 2, 1) := by decide +kernel
theorem dX10_expression_188 : decode cX10_expression 188 = .ok (.ifCond .ne 22, 3) := by decide +kernel
theorem dX10_expression_191 : decode cX10_expression 191 = .ok (.aload_n 0, 1) := by decide +kernel
theorem dX10_expression_192 : decode cX10_expression 192 = .ok (.getfield 236, 3) := by decide +kernel
theorem dX10_expression_195 : decode cX10_expression 195 = .ok (.iload_n 1, 1) := by decide +kernel
theorem dX10_expression_196 : decode cX10_expression 196 = .ok (.if_icmp .le 8, 3) := by decide +kernel
theorem dX10_expression_199 : decode cX10_expression 199 = .ok (.aload_n 0, 1) := by decide +kernel
theorem dX10_expression_200 : decode cX10_expression 200 = .ok (.iconst 1, 1) := by decide +kernel
theorem dX10_expression_201 : decode cX10_expression 201 = .ok (.invokevirtual 224, 3) := by decide +kernel
theorem dX10_expression_204 : decode cX10_expression 204 = .ok (.aload_n 0, 1) := by decide +kernel
theorem dX10_expression_205 : decode cX10_expression 205 = .ok (.iconst 0, 1) := by decide +kernel
theorem dX10_expression_206 : decode cX10_expression 206 = .ok (.invokevirtual 315, 3) := by decide +kernel
theorem dX10_expression_209 : decode cX10_expression 209 = .ok (.return_, 1) := by decide +kernel
theorem dX10_expression_210 : decode cX10_expression 210 = .ok (.aload_n 0, 1) := by decide +kernel
theorem dX10_expression_211 : decode cX10_expression 211 = .ok (.aload_n 0, 1) := by decide +kernel
theorem dX10_expression_212 : decode cX10_expression 212 = .ok (.bipush 10, 2) := by decide +kernel
theorem dX10_expression_214 : decode cX10_expression 214 = .ok (.invokevirtual 227, 3) := by decide +kernel
theorem dX10_expression_217 : decode cX10_expression 217 = .ok (.ifCond .ne 12, 3) := by decide +kernel
theorem dX10_expression_220 : decode cX10_expression 220 = .ok (.aload_n 0, 1) := by decide +kernel
theorem dX10_expression_221 : decode cX10_expression 221 = .ok (.bipush 15, 2) := by decide +kernel
theorem dX10_expression_223 : decode cX10_expression 223 = .ok (.invokevirtual 227, 3) := by decide +kernel
theorem dX10_expression_226 : decode cX10_expression 226 = .ok (.ifCond .eq 7, 3) := by decide +kernel
theorem dX10_expression_229 : decode cX10_expression 229 = .ok (.iconst 1, 1) := by decide +kernel
theorem dX10_expression_230 : decode cX10_expression 230 = .ok (.goto 4, 3) := by decide +kernel
theorem dX10_expression_233 : decode cX10_expression 233 = .ok (.iconst 0, 1) := by decide +kernel
theorem dX10_expression_234 : decode cX10_expression 234 = .ok (.invokevirtual 315, 3) := by decide +kernel
theorem dX10_expression_237 : decode cX10_expression 237 = .ok (.aload_n 0, 1) := by decide +kernel
theorem dX10_expression_238 : decode cX10_expression 238 = .ok (.getfield 107, 3) := by decide +kernel
theorem dX10_expression_241 : decode cX10_expression 241 = .ok (.aload_n 0, 1) := by decide +kernel
theorem dX10_expression_242 : decode cX10_expression 242 = .ok (.getfield 306, 3) := by decide +kernel
theorem dX10_expression_245 : decode cX10_expression 245 = .ok (.aload_n 0, 1) := by decide +kernel
theorem dX10_expression_246 : decode cX10_expression 246 = .ok (.getfield 20, 3) := by decide +kernel
theorem dX10_expression_249 : decode cX10_expression 249 = .ok (.aload_n 0, 1) := by decide +kernel
theorem dX10_expression_250 : decode cX10_expression 250 = .ok (.getfield 212, 3) := by decide +kernel
theorem dX10_expression_253 : decode cX10_expression 253 = .ok (.iaload, 1) := by decide +kernel
theorem dX10_expression_254 : decode cX10_expression 254 = .ok (.iastore, 1) := by decide +kernel
theorem dX10_expression_255 : decode cX10_expression 255 = .ok (.aload_n 0, 1) := by decide +kernel
theorem dX10_expression_256 : decode cX10_expression 256 = .ok (.dup, 1) := by decide +kernel
theorem dX10_expression_257 : decode cX10_expression 257 = .ok (.getfield 306, 3) := by decide +kernel
theorem dX10_expression_260 : decode cX10_expression 260 = .ok (.iconst 1, 1) := by decide +kernel
theorem dX10_expression_261 : decode cX10_expression 261 = .ok (.iadd, 1) := by decide +kernel
theorem dX10_expression_262 : decode cX10_expression 262 = .ok (.putfield 306, 3) := by decide +kernel
theorem dX10_expression_265 : decode cX10_expression 265 = .ok (.aload_n 0, 1) := by decide +kernel
theorem dX10_expression_266 : decode cX10_expression 266 = .ok (.invokevirtual 230, 3) := by decide +kernel
theorem dX10_expression_269 : decode cX10_expression 269 = .ok (.goto (-257), 3) := by decide +kernel
theorem dX10_expression_272 : decode cX10_expression 272 = .ok (.return_, 1) := by decide +kernel
theorem dX10_unit_0 : decode cX10_unit 0 = .ok (.aload_n 0, 1) := by decide +kernel
theorem dX10_unit_1 : decode cX10_unit 1 = .ok (.iconst 2, 1) := by decide +kernel
theorem dX10_unit_2 : decode cX10_unit 2 = .ok (.invokevirtual 227, 3) := by decide +kernel
theorem dX10_unit_5 : decode cX10_unit 5 = .ok (.ifCond .eq 24, 3) := by decide +kernel
theorem dX10_unit_8 : decode cX10_unit 8 = .ok (.aload_n 0, 1) := by decide +kernel
theorem dX10_unit_9 : decode cX10_unit 9 = .ok (.iconst 0, 1) := by decide +kernel
theorem dX10_unit_10 : decode cX10_unit 10 = .ok (.aload_n 0, 1) := by decide +kernel
theorem dX10_unit_11 : decode cX10_unit 11 = .ok (.getfield 27, 3) := by decide +kernel
theorem dX10_unit_14 : decode cX10_unit 14 = .ok (.aload_n 0, 1) := by decide +kernel
theorem dX10_unit_15 : decode cX10_unit 15 = .ok (.getfield 212, 3) := by decide +kernel
theorem dX10_unit_18 : decode cX10_unit 18 = .ok (.iaload, 1) := by decide +kernel
theorem dX10_unit_19 : decode cX10_unit 19 = .ok (.invokevirtual 309, 3) := by decide +kernel
theorem dX10_unit_22 : decode cX10_unit 22 = .ok (.aload_n 0, 1) := by decide +kernel
theorem dX10_unit_23 : decode cX10_unit 23 = .ok (.invokevirtual 230, 3) := by decide +kernel
theorem dX10_unit_26 : decode cX10_unit 26 = .ok (.goto 67, 3) := by decide +kernel
theorem dX10_unit_29 : decode cX10_unit 29 = .ok (.aload_n 0, 1) := by decide +kernel
theorem dX10_unit_30 : decode cX10_unit 30 = .ok (.getfield 209, 3) := by decide +kernel
theorem dX10_unit_33 : decode cX10_unit 33 = .ok (.ifCond .ne 55, 3) := by decide +kernel
theorem dX10_unit_36 : decode cX10_unit 36 = .ok (.aload_n 0, 1) := by decide +kernel
theorem dX10_unit_37 : decode cX10_unit 37 = .ok (.getfield 20, 3) := by decide +kernel
theorem dX10_unit_40 : decode cX10_unit 40 = .ok (.aload_n 0, 1) := by decide +kernel
theorem dX10_unit_41 : decode cX10_unit 41 = .ok (.getfield 212, 3) := by decide +kernel
theorem dX10_unit_44 : decode cX10_unit 44 = .ok (.iaload, 1) := by decide +kernel
theorem dX10_unit_45 : decode cX10_unit 45 = .ok (.bipush 32, 2) := by decide +kernel
theorem dX10_unit_47 : decode cX10_unit 47 = .ok (.if_icmp .lt 41, 3) := by decide +kernel
theorem dX10_unit_50 : decode cX10_unit 50 = .ok (.aload_n 0, 1) := by decide +kernel
theorem dX10_unit_51 : decode cX10_unit 51 = .ok (.getfield 20, 3) := by decide +kernel
theorem dX10_unit_54 : decode cX10_unit 54 = .ok (.aload_n 0, 1) := by decide +kernel
theorem dX10_unit_55 : decode cX10_unit 55 = .ok (.getfield 212, 3) := by decide +kernel
theorem dX10_unit_58 : decode cX10_unit 58 = .ok (.iaload, 1) := by decide +kernel
theorem dX10_unit_59 : decode cX10_unit 59 = .ok (.bipush 40, 2) := by decide +kernel
theorem dX10_unit_61 : decode cX10_unit 61 = .ok (.if_icmp .gt 27, 3) := by decide +kernel
theorem dX10_unit_64 : decode cX10_unit 64 = .ok (.aload_n 0, 1) := by decide +kernel
theorem dX10_unit_65 : decode cX10_unit 65 = .ok (.iconst 1, 1) := by decide +kernel
theorem dX10_unit_66 : decode cX10_unit 66 = .ok (.aload_n 0, 1) := by decide +kernel
theorem dX10_unit_67 : decode cX10_unit 67 = .ok (.getfield 20, 3) := by decide +kernel
theorem dX10_unit_70 : decode cX10_unit 70 = .ok (.aload_n 0, 1) := by decide +kernel
theorem dX10_unit_71 : decode cX10_unit 71 = .ok (.getfield 212, 3) := by decide +kernel
theorem dX10_unit_74 : decode cX10_unit 74 = .ok (.iaload, 1) := by decide +kernel
theorem dX10_unit_75 : decode cX10_unit 75 = .ok (.bipush 32, 2) := by decide +kernel
theorem dX10_unit_77 : decode cX10_unit 77 = .ok (.isub, 1) := by decide +kernel
theorem dX10_unit_78 : decode cX10_unit 78 = .ok (.invokevirtual 309, 3) := by decide +kernel
theorem dX10_unit_81 : decode cX10_unit 81 = .ok (.aload_n 0, 1) := by decide +kernel
theorem dX10_unit_82 : decode cX10_unit 82 = .ok (.invokevirtual 230, 3) := by decide +kernel
theorem dX10_unit_85 : decode cX10_unit 85 = .ok (.goto 8, 3) := by decide +kernel
theorem dX10_unit_88 : decode cX10_unit 88 = .ok (.aload_n 0, 1) := by decide +kernel
theorem dX10_unit_89 : decode cX10_unit 89 = .ok (.iconst 1, 1) := by decide +kernel
theorem dX10_unit_90 : decode cX10_unit 90 = .ok (.invokevirtual 224, 3) := by decide +kernel
theorem dX10_unit_93 : decode cX10_unit 93 = .ok (.return_, 1) := by decide +kernel
theorem dX10_termOf_0 : decode cX10_termOf 0 = .ok (.iconst 0, 1) := by decide +kernel
theorem dX10_termOf_1 : decode cX10_termOf 1 = .ok (.istore_n 3, 1) := by decide +kernel
theorem dX10_termOf_2 : decode cX10_termOf 2 = .ok (.iload_n 1, 1) := by decide +kernel
theorem dX10_termOf_3 : decode cX10_termOf 3 = .ok (.istore 4, 2) := by decide +kernel
theorem dX10_termOf_5 : decode cX10_termOf 5 = .ok (.iload 4, 2) := by decide +kernel
theorem dX10_termOf_7 : decode cX10_termOf 7 = .ok (.iload_n 2, 1) := by decide +kernel
theorem dX10_termOf_8 : decode cX10_termOf 8 = .ok (.if_icmp .ge 157, 3) := by decide +kernel
theorem dX10_termOf_11 : decode cX10_termOf 11 = .ok (.aload_n 0, 1) := by decide +kernel
theorem dX10_termOf_12 : decode cX10_termOf 12 = .ok (.getfield 101, 3) := by decide +kernel
theorem dX10_termOf_15 : decode cX10_termOf 15 = .ok (.iload 4, 2) := by decide +kernel
theorem dX10_termOf_17 : decode cX10_termOf 17 = .ok (.iaload, 1) := by decide +kernel
theorem dX10_termOf_18 : decode cX10_termOf 18 = .ok (.istore 5, 2) := by decide +kernel
theorem dX10_termOf_20 : decode cX10_termOf 20 = .ok (.iload 5, 2) := by decide +kernel
theorem dX10_termOf_22 : decode cX10_termOf 22 = .ok (.iconst 2, 1) := by decide +kernel
theorem dX10_termOf_23 : decode cX10_termOf 23 = .ok (.if_icmp .ge 42, 3) := by decide +kernel
theorem dX10_termOf_26 : decode cX10_termOf 26 = .ok (.aload_n 0, 1) := by decide +kernel
theorem dX10_termOf_27 : decode cX10_termOf 27 = .ok (.getfield 113, 3) := by decide +kernel
theorem dX10_termOf_30 : decode cX10_termOf 30 = .ok (.iload_n 3, 1) := by decide +kernel
theorem dX10_termOf_31 : decode cX10_termOf 31 = .ok (.iload 5, 2) := by decide +kernel
theorem dX10_termOf_33 : decode cX10_termOf 33 = .ok (.ifCond .ne 13, 3) := by decide +kernel
theorem dX10_termOf_36 : decode cX10_termOf 36 = .ok (.aload_n 0, 1) := by decide +kernel
theorem dX10_termOf_37 : decode cX10_termOf 37 = .ok (.getfield 104, 3) := by decide +kernel
theorem dX10_termOf_40 : decode cX10_termOf 40 = .ok (.iload 4, 2) := by decide +kernel
theorem dX10_termOf_42 : decode cX10_termOf 42 = .ok (.iaload, 1) := by decide +kernel
theorem dX10_termOf_43 : decode cX10_termOf 43 = .ok (.goto 15, 3) := by decide +kernel
theorem dX10_termOf_46 : decode cX10_termOf 46 = .ok (.aload_n 0, 1) := by decide +kernel
theorem dX10_termOf_47 : decode cX10_termOf 47 = .ok (.getfield 110, 3) := by decide +kernel
theorem dX10_termOf_50 : decode cX10_termOf 50 = .ok (.aload_n 0, 1) := by decide +kernel
theorem dX10_termOf_51 : decode cX10_termOf 51 = .ok (.getfield 104, 3) := by decide +kernel
theorem dX10_termOf_54 : decode cX10_termOf 54 = .ok (.iload 4, 2) := by decide +kernel
theorem dX10_termOf_56 : decode cX10_termOf 56 = .ok (.iaload, 1) := by decide +kernel
theorem dX10_termOf_57 : decode cX10_termOf 57 = .ok (.iaload, 1) := by decide +kernel
theorem dX10_termOf_58 : decode cX10_termOf 58 = .ok (.iastore, 1) := by decide +kernel
theorem dX10_termOf_59 : decode cX10_termOf 59 = .ok (.iinc 3 1, 3) := by decide +kernel
theorem dX10_termOf_62 : decode cX10_termOf 62 = .ok (.goto 97, 3) := by decide +kernel
theorem dX10_termOf_65 : decode cX10_termOf 65 = .ok (.iinc 3 (-1), 3) := by decide +kernel
theorem dX10_termOf_68 : decode cX10_termOf 68 = .ok (.aload_n 0, 1) := by decide +kernel
theorem dX10_termOf_69 : decode cX10_termOf 69 = .ok (.getfield 113, 3) := by decide +kernel
theorem dX10_termOf_72 : decode cX10_termOf 72 = .ok (.iload_n 3, 1) := by decide +kernel
theorem dX10_termOf_73 : decode cX10_termOf 73 = .ok (.iconst 1, 1) := by decide +kernel
theorem dX10_termOf_74 : decode cX10_termOf 74 = .ok (.isub, 1) := by decide +kernel
theorem dX10_termOf_75 : decode cX10_termOf 75 = .ok (.iaload, 1) := by decide +kernel
theorem dX10_termOf_76 : decode cX10_termOf 76 = .ok (.istore 6, 2) := by decide +kernel
theorem dX10_termOf_78 : decode cX10_termOf 78 = .ok (.aload_n 0, 1) := by decide +kernel
theorem dX10_termOf_79 : decode cX10_termOf 79 = .ok (.getfield 113, 3) := by decide +kernel
theorem dX10_termOf_82 : decode cX10_termOf 82 = .ok (.iload_n 3, 1) := by decide +kernel
theorem dX10_termOf_83 : decode cX10_termOf 83 = .ok (.iaload, 1) := by decide +kernel
theorem dX10_termOf_84 : decode cX10_termOf 84 = .ok (.istore 7, 2) := by decide +kernel
theorem dX10_termOf_86 : decode cX10_termOf 86 = .ok (.iload 5, 2) := by decide +kernel
theorem dX10_termOf_88 : decode cX10_termOf 88 = .ok (.iconst 5, 1) := by decide +kernel
theorem dX10_termOf_89 : decode cX10_termOf 89 = .ok (.if_icmp .ne 15, 3) := by decide +kernel
theorem dX10_termOf_92 : decode cX10_termOf 92 = .ok (.iload 7, 2) := by decide +kernel
theorem dX10_termOf_94 : decode cX10_termOf 94 = .ok (.ifCond .ne 10, 3) := by decide +kernel
theorem dX10_termOf_97 : decode cX10_termOf 97 = .ok (.aload_n 0, 1) := by decide +kernel
theorem dX10_termOf_98 : decode cX10_termOf 98 = .ok (.iconst 1, 1) := by decide +kernel
theorem dX10_termOf_99 : decode cX10_termOf 99 = .ok (.putfield 319, 3) := by decide +kernel
theorem dX10_termOf_102 : decode cX10_termOf 102 = .ok (.iconst 0, 1) := by decide +kernel
theorem dX10_termOf_103 : decode cX10_termOf 103 = .ok (.ireturn, 1) := by decide +kernel
theorem dX10_termOf_104 : decode cX10_termOf 104 = .ok (.aload_n 0, 1) := by decide +kernel
theorem dX10_termOf_105 : decode cX10_termOf 105 = .ok (.getfield 113, 3) := by decide +kernel
theorem dX10_termOf_108 : decode cX10_termOf 108 = .ok (.iload_n 3, 1) := by decide +kernel
theorem dX10_termOf_109 : decode cX10_termOf 109 = .ok (.iconst 1, 1) := by decide +kernel
theorem dX10_termOf_110 : decode cX10_termOf 110 = .ok (.isub, 1) := by decide +kernel
theorem dX10_termOf_111 : decode cX10_termOf 111 = .ok (.iload 5, 2) := by decide +kernel
theorem dX10_termOf_113 : decode cX10_termOf 113 = .ok (.iconst 2, 1) := by decide +kernel
theorem dX10_termOf_114 : decode cX10_termOf 114 = .ok (.if_icmp .ne 11, 3) := by decide +kernel
theorem dX10_termOf_117 : decode cX10_termOf 117 = .ok (.iload 6, 2) := by decide +kernel
theorem dX10_termOf_119 : decode cX10_termOf 119 = .ok (.iload 7, 2) := by decide +kernel
theorem dX10_termOf_121 : decode cX10_termOf 121 = .ok (.iadd, 1) := by decide +kernel
theorem dX10_termOf_122 : decode cX10_termOf 122 = .ok (.goto 36, 3) := by decide +kernel
theorem dX10_termOf_125 : decode cX10_termOf 125 = .ok (.iload 5, 2) := by decide +kernel
theorem dX10_termOf_127 : decode cX10_termOf 127 = .ok (.iconst 3, 1) := by decide +kernel
theorem dX10_termOf_128 : decode cX10_termOf 128 = .ok (.if_icmp .ne 11, 3) := by decide +kernel
theorem dX10_termOf_131 : decode cX10_termOf 131 = .ok (.iload 6, 2) := by decide +kernel
theorem dX10_termOf_133 : decode cX10_termOf 133 = .ok (.iload 7, 2) := by decide +kernel
theorem dX10_termOf_135 : decode cX10_termOf 135 = .ok (.isub, 1) := by decide +kernel
theorem dX10_termOf_136 : decode cX10_termOf 136 = .ok (.goto 22, 3) := by decide +kernel
theorem dX10_termOf_139 : decode cX10_termOf 139 = .ok (.iload 5, 2) := by decide +kernel
theorem dX10_termOf_141 : decode cX10_termOf 141 = .ok (.iconst 4, 1) := by decide +kernel
theorem dX10_termOf_142 : decode cX10_termOf 142 = .ok (.if_icmp .ne 11, 3) := by decide +kernel
theorem dX10_termOf_145 : decode cX10_termOf 145 = .ok (.iload 6, 2) := by decide +kernel
theorem dX10_termOf_147 : decode cX10_termOf 147 = .ok (.iload 7, 2) := by decide +kernel
theorem dX10_termOf_149 : decode cX10_termOf 149 = .ok (.imul, 1) := by decide +kernel
theorem dX10_termOf_150 : decode cX10_termOf 150 = .ok (.goto 8, 3) := by decide +kernel
theorem dX10_termOf_153 : decode cX10_termOf 153 = .ok (.iload 6, 2) := by decide +kernel
theorem dX10_termOf_155 : decode cX10_termOf 155 = .ok (.iload 7, 2) := by decide +kernel
theorem dX10_termOf_157 : decode cX10_termOf 157 = .ok (.idiv, 1) := by decide +kernel
theorem dX10_termOf_158 : decode cX10_termOf 158 = .ok (.iastore, 1) := by decide +kernel
theorem dX10_termOf_159 : decode cX10_termOf 159 = .ok (.iinc 4 1, 3) := by decide +kernel
theorem dX10_termOf_162 : decode cX10_termOf 162 = .ok (.goto (-157), 3) := by decide +kernel
theorem dX10_termOf_165 : decode cX10_termOf 165 = .ok (.aload_n 0, 1) := by decide +kernel
theorem dX10_termOf_166 : decode cX10_termOf 166 = .ok (.getfield 113, 3) := by decide +kernel
theorem dX10_termOf_169 : decode cX10_termOf 169 = .ok (.iconst 0, 1) := by decide +kernel
theorem dX10_termOf_170 : decode cX10_termOf 170 = .ok (.iaload, 1) := by decide +kernel
theorem dX10_termOf_171 : decode cX10_termOf 171 = .ok (.ireturn, 1) := by decide +kernel
theorem dX10_in_0 : decode cX10_in 0 = .ok (.iload_n 0, 1) := by decide +kernel
theorem dX10_in_1 : decode cX10_in 1 = .ok (.iload_n 1, 1) := by decide +kernel
theorem dX10_in_2 : decode cX10_in 2 = .ok (.if_icmp .lt 12, 3) := by decide +kernel
theorem dX10_in_5 : decode cX10_in 5 = .ok (.iload_n 0, 1) := by decide +kernel
theorem dX10_in_6 : decode cX10_in 6 = .ok (.iload_n 2, 1) := by decide +kernel
theorem dX10_in_7 : decode cX10_in 7 = .ok (.if_icmp .gt 7, 3) := by decide +kernel
theorem dX10_in_10 : decode cX10_in 10 = .ok (.iconst 1, 1) := by decide +kernel
theorem dX10_in_11 : decode cX10_in 11 = .ok (.goto 4, 3) := by decide +kernel
theorem dX10_in_14 : decode cX10_in 14 = .ok (.iconst 0, 1) := by decide +kernel
theorem dX10_in_15 : decode cX10_in 15 = .ok (.ireturn, 1) := by decide +kernel
theorem dX10_isCell_0 : decode cX10_isCell 0 = .ok (.iload_n 1, 1) := by decide +kernel
theorem dX10_isCell_1 : decode cX10_isCell 1 = .ok (.iconst 0, 1) := by decide +kernel
theorem dX10_isCell_2 : decode cX10_isCell 2 = .ok (.aload_n 0, 1) := by decide +kernel
theorem dX10_isCell_3 : decode cX10_isCell 3 = .ok (.getfield 46, 3) := by decide +kernel
theorem dX10_isCell_6 : decode cX10_isCell 6 = .ok (.aload_n 0, 1) := by decide +kernel
theorem dX10_isCell_7 : decode cX10_isCell 7 = .ok (.getfield 239, 3) := by decide +kernel
theorem dX10_isCell_10 : decode cX10_isCell 10 = .ok (.iaload, 1) := by decide +kernel
theorem dX10_isCell_11 : decode cX10_isCell 11 = .ok (.iconst 1, 1) := by decide +kernel
theorem dX10_isCell_12 : decode cX10_isCell 12 = .ok (.isub, 1) := by decide +kernel
theorem dX10_isCell_13 : decode cX10_isCell 13 = .ok (.invokestatic 323, 3) := by decide +kernel
theorem dX10_isCell_16 : decode cX10_isCell 16 = .ok (.ifCond .eq 26, 3) := by decide +kernel
theorem dX10_isCell_19 : decode cX10_isCell 19 = .ok (.iload_n 2, 1) := by decide +kernel
theorem dX10_isCell_20 : decode cX10_isCell 20 = .ok (.iconst 0, 1) := by decide +kernel
theorem dX10_isCell_21 : decode cX10_isCell 21 = .ok (.aload_n 0, 1) := by decide +kernel
theorem dX10_isCell_22 : decode cX10_isCell 22 = .ok (.getfield 43, 3) := by decide +kernel
theorem dX10_isCell_25 : decode cX10_isCell 25 = .ok (.aload_n 0, 1) := by decide +kernel
theorem dX10_isCell_26 : decode cX10_isCell 26 = .ok (.getfield 239, 3) := by decide +kernel
theorem dX10_isCell_29 : decode cX10_isCell 29 = .ok (.iaload, 1) := by decide +kernel
theorem dX10_isCell_30 : decode cX10_isCell 30 = .ok (.iconst 1, 1) := by decide +kernel
theorem dX10_isCell_31 : decode cX10_isCell 31 = .ok (.isub, 1) := by decide +kernel
theorem dX10_isCell_32 : decode cX10_isCell 32 = .ok (.invokestatic 323, 3) := by decide +kernel
theorem dX10_isCell_35 : decode cX10_isCell 35 = .ok (.ifCond .eq 7, 3) := by decide +kernel
theorem dX10_isCell_38 : decode cX10_isCell 38 = .ok (.iconst 1, 1) := by decide +kernel
theorem dX10_isCell_39 : decode cX10_isCell 39 = .ok (.goto 4, 3) := by decide +kernel
theorem dX10_isCell_42 : decode cX10_isCell 42 = .ok (.iconst 0, 1) := by decide +kernel
theorem dX10_isCell_43 : decode cX10_isCell 43 = .ok (.ireturn, 1) := by decide +kernel
theorem dX10_isField_0 : decode cX10_isField 0 = .ok (.iload_n 1, 1) := by decide +kernel
theorem dX10_isField_1 : decode cX10_isField 1 = .ok (.iconst 0, 1) := by decide +kernel
theorem dX10_isField_2 : decode cX10_isField 2 = .ok (.aload_n 0, 1) := by decide +kernel
theorem dX10_isField_3 : decode cX10_isField 3 = .ok (.getfield 52, 3) := by decide +kernel
theorem dX10_isField_6 : decode cX10_isField 6 = .ok (.aload_n 0, 1) := by decide +kernel
theorem dX10_isField_7 : decode cX10_isField 7 = .ok (.getfield 239, 3) := by decide +kernel
theorem dX10_isField_10 : decode cX10_isField 10 = .ok (.iaload, 1) := by decide +kernel
theorem dX10_isField_11 : decode cX10_isField 11 = .ok (.iconst 1, 1) := by decide +kernel
theorem dX10_isField_12 : decode cX10_isField 12 = .ok (.isub, 1) := by decide +kernel
theorem dX10_isField_13 : decode cX10_isField 13 = .ok (.invokestatic 323, 3) := by decide +kernel
theorem dX10_isField_16 : decode cX10_isField 16 = .ok (.ireturn, 1) := by decide +kernel
theorem dX10_isLoom_0 : decode cX10_isLoom 0 = .ok (.iload_n 1, 1) := by decide +kernel
theorem dX10_isLoom_1 : decode cX10_isLoom 1 = .ok (.iconst 0, 1) := by decide +kernel
theorem dX10_isLoom_2 : decode cX10_isLoom 2 = .ok (.aload_n 0, 1) := by decide +kernel
theorem dX10_isLoom_3 : decode cX10_isLoom 3 = .ok (.getfield 61, 3) := by decide +kernel
theorem dX10_isLoom_6 : decode cX10_isLoom 6 = .ok (.aload_n 0, 1) := by decide +kernel
theorem dX10_isLoom_7 : decode cX10_isLoom 7 = .ok (.getfield 239, 3) := by decide +kernel
theorem dX10_isLoom_10 : decode cX10_isLoom 10 = .ok (.iaload, 1) := by decide +kernel
theorem dX10_isLoom_11 : decode cX10_isLoom 11 = .ok (.iconst 1, 1) := by decide +kernel
theorem dX10_isLoom_12 : decode cX10_isLoom 12 = .ok (.isub, 1) := by decide +kernel
theorem dX10_isLoom_13 : decode cX10_isLoom 13 = .ok (.invokestatic 323, 3) := by decide +kernel
theorem dX10_isLoom_16 : decode cX10_isLoom 16 = .ok (.ireturn, 1) := by decide +kernel
theorem dX10_begins_0 : decode cX10_begins 0 = .ok (.iconst 0, 1) := by decide +kernel
theorem dX10_begins_1 : decode cX10_begins 1 = .ok (.istore_n 1, 1) := by decide +kernel
theorem dX10_begins_2 : decode cX10_begins 2 = .ok (.iload_n 1, 1) := by decide +kernel
theorem dX10_begins_3 : decode cX10_begins 3 = .ok (.bipush 92, 2) := by decide +kernel
theorem dX10_begins_5 : decode cX10_begins 5 = .ok (.if_icmp .ge 16, 3) := by decide +kernel
theorem dX10_begins_8 : decode cX10_begins 8 = .ok (.aload_n 0, 1) := by decide +kernel
theorem dX10_begins_9 : decode cX10_begins 9 = .ok (.getfield 119, 3) := by decide +kernel
theorem dX10_begins_12 : decode cX10_begins 12 = .ok (.iload_n 1, 1) := by decide +kernel
theorem dX10_begins_13 : decode cX10_begins 13 = .ok (.iconst 0, 1) := by decide +kernel
theorem dX10_begins_14 : decode cX10_begins 14 = .ok (.iastore, 1) := by decide +kernel
theorem dX10_begins_15 : decode cX10_begins 15 = .ok (.iinc 1 1, 3) := by decide +kernel
theorem dX10_begins_18 : decode cX10_begins 18 = .ok (.goto (-16), 3) := by decide +kernel
theorem dX10_begins_21 : decode cX10_begins 21 = .ok (.iconst 0, 1) := by decide +kernel
theorem dX10_begins_22 : decode cX10_begins 22 = .ok (.istore_n 1, 1) := by decide +kernel
theorem dX10_begins_23 : decode cX10_begins 23 = .ok (.iload_n 1, 1) := by decide +kernel
theorem dX10_begins_24 : decode cX10_begins 24 = .ok (.aload_n 0, 1) := by decide +kernel
theorem dX10_begins_25 : decode cX10_begins 25 = .ok (.getfield 61, 3) := by decide +kernel
theorem dX10_begins_28 : decode cX10_begins 28 = .ok (.aload_n 0, 1) := by decide +kernel
theorem dX10_begins_29 : decode cX10_begins 29 = .ok (.getfield 239, 3) := by decide +kernel
theorem dX10_begins_32 : decode cX10_begins 32 = .ok (.iaload, 1) := by decide +kernel
theorem dX10_begins_33 : decode cX10_begins 33 = .ok (.if_icmp .ge 31, 3) := by decide +kernel
theorem dX10_begins_36 : decode cX10_begins 36 = .ok (.aload_n 0, 1) := by decide +kernel
theorem dX10_begins_37 : decode cX10_begins 37 = .ok (.getfield 119, 3) := by decide +kernel
theorem dX10_begins_40 : decode cX10_begins 40 = .ok (.bipush 48, 2) := by decide +kernel
theorem dX10_begins_42 : decode cX10_begins 42 = .ok (.iload_n 1, 1) := by decide +kernel
theorem dX10_begins_43 : decode cX10_begins 43 = .ok (.iadd, 1) := by decide +kernel
theorem dX10_begins_44 : decode cX10_begins 44 = .ok (.aload_n 0, 1) := by decide +kernel
theorem dX10_begins_45 : decode cX10_begins 45 = .ok (.getfield 67, 3) := by decide +kernel
theorem dX10_begins_48 : decode cX10_begins 48 = .ok (.iconst 4, 1) := by decide +kernel
theorem dX10_begins_49 : decode cX10_begins 49 = .ok (.aload_n 0, 1) := by decide +kernel
theorem dX10_begins_50 : decode cX10_begins 50 = .ok (.getfield 239, 3) := by decide +kernel
theorem dX10_begins_53 : decode cX10_begins 53 = .ok (.imul, 1) := by decide +kernel
theorem dX10_begins_54 : decode cX10_begins 54 = .ok (.iload_n 1, 1) := by decide +kernel
theorem dX10_begins_55 : decode cX10_begins 55 = .ok (.iadd, 1) := by decide +kernel
theorem dX10_begins_56 : decode cX10_begins 56 = .ok (.iaload, 1) := by decide +kernel
theorem dX10_begins_57 : decode cX10_begins 57 = .ok (.iastore, 1) := by decide +kernel
theorem dX10_begins_58 : decode cX10_begins 58 = .ok (.iinc 1 1, 3) := by decide +kernel
theorem dX10_begins_61 : decode cX10_begins 61 = .ok (.goto (-38), 3) := by decide +kernel
theorem dX10_begins_64 : decode cX10_begins 64 = .ok (.aload_n 0, 1) := by decide +kernel
theorem dX10_begins_65 : decode cX10_begins 65 = .ok (.getfield 119, 3) := by decide +kernel
theorem dX10_begins_68 : decode cX10_begins 68 = .ok (.bipush 88, 2) := by decide +kernel
theorem dX10_begins_70 : decode cX10_begins 70 = .ok (.aload_n 0, 1) := by decide +kernel
theorem dX10_begins_71 : decode cX10_begins 71 = .ok (.getfield 70, 3) := by decide +kernel
theorem dX10_begins_74 : decode cX10_begins 74 = .ok (.aload_n 0, 1) := by decide +kernel
theorem dX10_begins_75 : decode cX10_begins 75 = .ok (.getfield 239, 3) := by decide +kernel
theorem dX10_begins_78 : decode cX10_begins 78 = .ok (.iaload, 1) := by decide +kernel
theorem dX10_begins_79 : decode cX10_begins 79 = .ok (.iastore, 1) := by decide +kernel
theorem dX10_begins_80 : decode cX10_begins 80 = .ok (.aload_n 0, 1) := by decide +kernel
theorem dX10_begins_81 : decode cX10_begins 81 = .ok (.aload_n 0, 1) := by decide +kernel
theorem dX10_begins_82 : decode cX10_begins 82 = .ok (.getfield 76, 3) := by decide +kernel
theorem dX10_begins_85 : decode cX10_begins 85 = .ok (.aload_n 0, 1) := by decide +kernel
theorem dX10_begins_86 : decode cX10_begins 86 = .ok (.getfield 239, 3) := by decide +kernel
theorem dX10_begins_89 : decode cX10_begins 89 = .ok (.iaload, 1) := by decide +kernel
theorem dX10_begins_90 : decode cX10_begins 90 = .ok (.putfield 327, 3) := by decide +kernel
theorem dX10_begins_93 : decode cX10_begins 93 = .ok (.return_, 1) := by decide +kernel
theorem dX10_keepsRow_0 : decode cX10_keepsRow 0 = .ok (.iconst 0, 1) := by decide +kernel
theorem dX10_keepsRow_1 : decode cX10_keepsRow 1 = .ok (.istore_n 1, 1) := by decide +kernel
theorem dX10_keepsRow_2 : decode cX10_keepsRow 2 = .ok (.iload_n 1, 1) := by decide +kernel
theorem dX10_keepsRow_3 : decode cX10_keepsRow 3 = .ok (.bipush 92, 2) := by decide +kernel
theorem dX10_keepsRow_5 : decode cX10_keepsRow 5 = .ok (.if_icmp .ge 21, 3) := by decide +kernel
theorem dX10_keepsRow_8 : decode cX10_keepsRow 8 = .ok (.aload_n 0, 1) := by decide +kernel
theorem dX10_keepsRow_9 : decode cX10_keepsRow 9 = .ok (.getfield 116, 3) := by decide +kernel
theorem dX10_keepsRow_12 : decode cX10_keepsRow 12 = .ok (.iload_n 1, 1) := by decide +kernel
theorem dX10_keepsRow_13 : decode cX10_keepsRow 13 = .ok (.aload_n 0, 1) := by decide +kernel
theorem dX10_keepsRow_14 : decode cX10_keepsRow 14 = .ok (.getfield 119, 3) := by decide +kernel
theorem dX10_keepsRow_17 : decode cX10_keepsRow 17 = .ok (.iload_n 1, 1) := by decide +kernel
theorem dX10_keepsRow_18 : decode cX10_keepsRow 18 = .ok (.iaload, 1) := by decide +kernel
theorem dX10_keepsRow_19 : decode cX10_keepsRow 19 = .ok (.iastore, 1) := by decide +kernel
theorem dX10_keepsRow_20 : decode cX10_keepsRow 20 = .ok (.iinc 1 1, 3) := by decide +kernel
theorem dX10_keepsRow_23 : decode cX10_keepsRow 23 = .ok (.goto (-21), 3) := by decide +kernel
theorem dX10_keepsRow_26 : decode cX10_keepsRow 26 = .ok (.return_, 1) := by decide +kernel
theorem dX10_copies_0 : decode cX10_copies 0 = .ok (.iconst 0, 1) := by decide +kernel
theorem dX10_copies_1 : decode cX10_copies 1 = .ok (.istore_n 1, 1) := by decide +kernel
theorem dX10_copies_2 : decode cX10_copies 2 = .ok (.iload_n 1, 1) := by decide +kernel
theorem dX10_copies_3 : decode cX10_copies 3 = .ok (.bipush 92, 2) := by decide +kernel
theorem dX10_copies_5 : decode cX10_copies 5 = .ok (.if_icmp .ge 21, 3) := by decide +kernel
theorem dX10_copies_8 : decode cX10_copies 8 = .ok (.aload_n 0, 1) := by decide +kernel
theorem dX10_copies_9 : decode cX10_copies 9 = .ok (.getfield 119, 3) := by decide +kernel
theorem dX10_copies_12 : decode cX10_copies 12 = .ok (.iload_n 1, 1) := by decide +kernel
theorem dX10_copies_13 : decode cX10_copies 13 = .ok (.aload_n 0, 1) := by decide +kernel
theorem dX10_copies_14 : decode cX10_copies 14 = .ok (.getfield 116, 3) := by decide +kernel
theorem dX10_copies_17 : decode cX10_copies 17 = .ok (.iload_n 1, 1) := by decide +kernel
theorem dX10_copies_18 : decode cX10_copies 18 = .ok (.iaload, 1) := by decide +kernel
theorem dX10_copies_19 : decode cX10_copies 19 = .ok (.iastore, 1) := by decide +kernel
theorem dX10_copies_20 : decode cX10_copies 20 = .ok (.iinc 1 1, 3) := by decide +kernel
theorem dX10_copies_23 : decode cX10_copies 23 = .ok (.goto (-21), 3) := by decide +kernel
theorem dX10_copies_26 : decode cX10_copies 26 = .ok (.aload_n 0, 1) := by decide +kernel
theorem dX10_copies_27 : decode cX10_copies 27 = .ok (.aload_n 0, 1) := by decide +kernel
theorem dX10_copies_28 : decode cX10_copies 28 = .ok (.getfield 76, 3) := by decide +kernel
theorem dX10_copies_31 : decode cX10_copies 31 = .ok (.aload_n 0, 1) := by decide +kernel
theorem dX10_copies_32 : decode cX10_copies 32 = .ok (.getfield 239, 3) := by decide +kernel
theorem dX10_copies_35 : decode cX10_copies 35 = .ok (.iaload, 1) := by decide +kernel
theorem dX10_copies_36 : decode cX10_copies 36 = .ok (.putfield 327, 3) := by decide +kernel
theorem dX10_copies_39 : decode cX10_copies 39 = .ok (.return_, 1) := by decide +kernel
theorem dX10_mixed_0 : decode cX10_mixed 0 = .ok (.iload_n 0, 1) := by decide +kernel
theorem dX10_mixed_1 : decode cX10_mixed 1 = .ok (.iload_n 1, 1) := by decide +kernel
theorem dX10_mixed_2 : decode cX10_mixed 2 = .ok (.ixor, 1) := by decide +kernel
theorem dX10_mixed_3 : decode cX10_mixed 3 = .ok (.ldc_w 330, 3) := by decide +kernel
theorem dX10_mixed_6 : decode cX10_mixed 6 = .ok (.imul, 1) := by decide +kernel
theorem dX10_mixed_7 : decode cX10_mixed 7 = .ok (.sipush 12345, 3) := by decide +kernel
theorem dX10_mixed_10 : decode cX10_mixed 10 = .ok (.iadd, 1) := by decide +kernel
theorem dX10_mixed_11 : decode cX10_mixed 11 = .ok (.istore_n 2, 1) := by decide +kernel
theorem dX10_mixed_12 : decode cX10_mixed 12 = .ok (.iload_n 2, 1) := by decide +kernel
theorem dX10_mixed_13 : decode cX10_mixed 13 = .ok (.iload_n 2, 1) := by decide +kernel
theorem dX10_mixed_14 : decode cX10_mixed 14 = .ok (.bipush 15, 2) := by decide +kernel
theorem dX10_mixed_16 : decode cX10_mixed 16 = .ok (.iushr, 1) := by decide +kernel
theorem dX10_mixed_17 : decode cX10_mixed 17 = .ok (.ixor, 1) := by decide +kernel
theorem dX10_mixed_18 : decode cX10_mixed 18 = .ok (.ireturn, 1) := by decide +kernel
theorem dX10_lotOf_0 : decode cX10_lotOf 0 = .ok (.aload_n 0, 1) := by decide +kernel
theorem dX10_lotOf_1 : decode cX10_lotOf 1 = .ok (.getfield 327, 3) := by decide +kernel
theorem dX10_lotOf_4 : decode cX10_lotOf 4 = .ok (.bipush 75, 2) := by decide +kernel
theorem dX10_lotOf_6 : decode cX10_lotOf 6 = .ok (.invokestatic 331, 3) := by decide +kernel
theorem dX10_lotOf_9 : decode cX10_lotOf 9 = .ok (.iload_n 1, 1) := by decide +kernel
theorem dX10_lotOf_10 : decode cX10_lotOf 10 = .ok (.invokestatic 331, 3) := by decide +kernel
theorem dX10_lotOf_13 : decode cX10_lotOf 13 = .ok (.iconst 1, 1) := by decide +kernel
theorem dX10_lotOf_14 : decode cX10_lotOf 14 = .ok (.iushr, 1) := by decide +kernel
theorem dX10_lotOf_15 : decode cX10_lotOf 15 = .ok (.bipush 100, 2) := by decide +kernel
theorem dX10_lotOf_17 : decode cX10_lotOf 17 = .ok (.irem, 1) := by decide +kernel
theorem dX10_lotOf_18 : decode cX10_lotOf 18 = .ok (.ireturn, 1) := by decide +kernel
theorem dX10_looks_0 : decode cX10_looks 0 = .ok (.iconst 0, 1) := by decide +kernel
theorem dX10_looks_1 : decode cX10_looks 1 = .ok (.istore_n 1, 1) := by decide +kernel
theorem dX10_looks_2 : decode cX10_looks 2 = .ok (.iload_n 1, 1) := by decide +kernel
theorem dX10_looks_3 : decode cX10_looks 3 = .ok (.bipush 9, 2) := by decide +kernel
theorem dX10_looks_5 : decode cX10_looks 5 = .ok (.if_icmp .ge 16, 3) := by decide +kernel
theorem dX10_looks_8 : decode cX10_looks 8 = .ok (.aload_n 0, 1) := by decide +kernel
theorem dX10_looks_9 : decode cX10_looks 9 = .ok (.getfield 110, 3) := by decide +kernel
theorem dX10_looks_12 : decode cX10_looks 12 = .ok (.iload_n 1, 1) := by decide +kernel
theorem dX10_looks_13 : decode cX10_looks 13 = .ok (.iconst 0, 1) := by decide +kernel
theorem dX10_looks_14 : decode cX10_looks 14 = .ok (.iastore, 1) := by decide +kernel
theorem dX10_looks_15 : decode cX10_looks 15 = .ok (.iinc 1 1, 3) := by decide +kernel
theorem dX10_looks_18 : decode cX10_looks 18 = .ok (.goto (-16), 3) := by decide +kernel
theorem dX10_looks_21 : decode cX10_looks 21 = .ok (.return_, 1) := by decide +kernel
theorem dX10_asks_0 : decode cX10_asks 0 = .ok (.iconst 3, 1) := by decide +kernel
theorem dX10_asks_1 : decode cX10_asks 1 = .ok (.aload_n 0, 1) := by decide +kernel
theorem dX10_asks_2 : decode cX10_asks 2 = .ok (.getfield 239, 3) := by decide +kernel
theorem dX10_asks_5 : decode cX10_asks 5 = .ok (.imul, 1) := by decide +kernel
theorem dX10_asks_6 : decode cX10_asks 6 = .ok (.iload_n 1, 1) := by decide +kernel
theorem dX10_asks_7 : decode cX10_asks 7 = .ok (.iadd, 1) := by decide +kernel
theorem dX10_asks_8 : decode cX10_asks 8 = .ok (.istore 4, 2) := by decide +kernel
theorem dX10_asks_10 : decode cX10_asks 10 = .ok (.aload_n 0, 1) := by decide +kernel
theorem dX10_asks_11 : decode cX10_asks 11 = .ok (.getfield 79, 3) := by decide +kernel
theorem dX10_asks_14 : decode cX10_asks 14 = .ok (.iload 4, 2) := by decide +kernel
theorem dX10_asks_16 : decode cX10_asks 16 = .ok (.iaload, 1) := by decide +kernel
theorem dX10_asks_17 : decode cX10_asks 17 = .ok (.aload_n 0, 1) := by decide +kernel
theorem dX10_asks_18 : decode cX10_asks 18 = .ok (.getfield 82, 3) := by decide +kernel
theorem dX10_asks_21 : decode cX10_asks 21 = .ok (.iload 4, 2) := by decide +kernel
theorem dX10_asks_23 : decode cX10_asks 23 = .ok (.iaload, 1) := by decide +kernel
theorem dX10_asks_24 : decode cX10_asks 24 = .ok (.if_icmp .ne 5, 3) := by decide +kernel
theorem dX10_asks_27 : decode cX10_asks 27 = .ok (.iload_n 2, 1) := by decide +kernel
theorem dX10_asks_28 : decode cX10_asks 28 = .ok (.ireturn, 1) := by decide +kernel
theorem dX10_asks_29 : decode cX10_asks 29 = .ok (.aload_n 0, 1) := by decide +kernel
theorem dX10_asks_30 : decode cX10_asks 30 = .ok (.iconst 0, 1) := by decide +kernel
theorem dX10_asks_31 : decode cX10_asks 31 = .ok (.putfield 319, 3) := by decide +kernel
theorem dX10_asks_34 : decode cX10_asks 34 = .ok (.aload_n 0, 1) := by decide +kernel
theorem dX10_asks_35 : decode cX10_asks 35 = .ok (.getfield 79, 3) := by decide +kernel
theorem dX10_asks_38 : decode cX10_asks 38 = .ok (.iload 4, 2) := by decide +kernel
theorem dX10_asks_40 : decode cX10_asks 40 = .ok (.iaload, 1) := by decide +kernel
theorem dX10_asks_41 : decode cX10_asks 41 = .ok (.istore 5, 2) := by decide +kernel
theorem dX10_asks_43 : decode cX10_asks 43 = .ok (.iload 5, 2) := by decide +kernel
theorem dX10_asks_45 : decode cX10_asks 45 = .ok (.aload_n 0, 1) := by decide +kernel
theorem dX10_asks_46 : decode cX10_asks 46 = .ok (.getfield 82, 3) := by decide +kernel
theorem dX10_asks_49 : decode cX10_asks 49 = .ok (.iload 4, 2) := by decide +kernel
theorem dX10_asks_51 : decode cX10_asks 51 = .ok (.iaload, 1) := by decide +kernel
theorem dX10_asks_52 : decode cX10_asks 52 = .ok (.if_icmp .ge 127, 3) := by decide +kernel
theorem dX10_asks_55 : decode cX10_asks 55 = .ok (.aload_n 0, 1) := by decide +kernel
theorem dX10_asks_56 : decode cX10_asks 56 = .ok (.getfield 85, 3) := by decide +kernel
theorem dX10_asks_59 : decode cX10_asks 59 = .ok (.iload 5, 2) := by decide +kernel
theorem dX10_asks_61 : decode cX10_asks 61 = .ok (.baload, 1) := by decide +kernel
theorem dX10_asks_62 : decode cX10_asks 62 = .ok (.ifCond .eq 62, 3) := by decide +kernel
theorem dX10_asks_65 : decode cX10_asks 65 = .ok (.aload_n 0, 1) := by decide +kernel
theorem dX10_asks_66 : decode cX10_asks 66 = .ok (.aload_n 0, 1) := by decide +kernel
theorem dX10_asks_67 : decode cX10_asks 67 = .ok (.getfield 89, 3) := by decide +kernel
theorem dX10_asks_70 : decode cX10_asks 70 = .ok (.iload 5, 2) := by decide +kernel
theorem dX10_asks_72 : decode cX10_asks 72 = .ok (.iaload, 1) := by decide +kernel
theorem dX10_asks_73 : decode cX10_asks 73 = .ok (.aload_n 0, 1) := by decide +kernel
theorem dX10_asks_74 : decode cX10_asks 74 = .ok (.getfield 92, 3) := by decide +kernel
theorem dX10_asks_77 : decode cX10_asks 77 = .ok (.iload 5, 2) := by decide +kernel
theorem dX10_asks_79 : decode cX10_asks 79 = .ok (.iaload, 1) := by decide +kernel
theorem dX10_asks_80 : decode cX10_asks 80 = .ok (.invokevirtual 334, 3) := by decide +kernel
theorem dX10_asks_83 : decode cX10_asks 83 = .ok (.istore 6, 2) := by decide +kernel
theorem dX10_asks_85 : decode cX10_asks 85 = .ok (.aload_n 0, 1) := by decide +kernel
theorem dX10_asks_86 : decode cX10_asks 86 = .ok (.aload_n 0, 1) := by decide +kernel
theorem dX10_asks_87 : decode cX10_asks 87 = .ok (.getfield 92, 3) := by decide +kernel
theorem dX10_asks_90 : decode cX10_asks 90 = .ok (.iload 5, 2) := by decide +kernel
theorem dX10_asks_92 : decode cX10_asks 92 = .ok (.iaload, 1) := by decide +kernel
theorem dX10_asks_93 : decode cX10_asks 93 = .ok (.aload_n 0, 1) := by decide +kernel
theorem dX10_asks_94 : decode cX10_asks 94 = .ok (.getfield 95, 3) := by decide +kernel
theorem dX10_asks_97 : decode cX10_asks 97 = .ok (.iload 5, 2) := by decide +kernel
theorem dX10_asks_99 : decode cX10_asks 99 = .ok (.iaload, 1) := by decide +kernel
theorem dX10_asks_100 : decode cX10_asks 100 = .ok (.invokevirtual 334, 3) := by decide +kernel
theorem dX10_asks_103 : decode cX10_asks 103 = .ok (.istore 7, 2) := by decide +kernel
theorem dX10_asks_105 : decode cX10_asks 105 = .ok (.aload_n 0, 1) := by decide +kernel
theorem dX10_asks_106 : decode cX10_asks 106 = .ok (.getfield 319, 3) := by decide +kernel
theorem dX10_asks_109 : decode cX10_asks 109 = .ok (.ifCond .eq 5, 3) := by decide +kernel
theorem dX10_asks_112 : decode cX10_asks 112 = .ok (.iconst 0, 1) := by decide +kernel
theorem dX10_asks_113 : decode cX10_asks 113 = .ok (.ireturn, 1) := by decide +kernel
theorem dX10_asks_114 : decode cX10_asks 114 = .ok (.iload 6, 2) := by decide +kernel
theorem dX10_asks_116 : decode cX10_asks 116 = .ok (.iload 7, 2) := by decide +kernel
theorem dX10_asks_118 : decode cX10_asks 118 = .ok (.if_icmp .lt 6, 3) := by decide +kernel
theorem dX10_asks_121 : decode cX10_asks 121 = .ok (.goto 52, 3) := by decide +kernel
theorem dX10_asks_124 : decode cX10_asks 124 = .ok (.aload_n 0, 1) := by decide +kernel
theorem dX10_asks_125 : decode cX10_asks 125 = .ok (.aload_n 0, 1) := by decide +kernel
theorem dX10_asks_126 : decode cX10_asks 126 = .ok (.getfield 95, 3) := by decide +kernel
theorem dX10_asks_129 : decode cX10_asks 129 = .ok (.iload 5, 2) := by decide +kernel
theorem dX10_asks_131 : decode cX10_asks 131 = .ok (.iaload, 1) := by decide +kernel
theorem dX10_asks_132 : decode cX10_asks 132 = .ok (.aload_n 0, 1) := by decide +kernel
theorem dX10_asks_133 : decode cX10_asks 133 = .ok (.getfield 98, 3) := by decide +kernel
theorem dX10_asks_136 : decode cX10_asks 136 = .ok (.iload 5, 2) := by decide +kernel
theorem dX10_asks_138 : decode cX10_asks 138 = .ok (.iaload, 1) := by decide +kernel
theorem dX10_asks_139 : decode cX10_asks 139 = .ok (.invokevirtual 334, 3) := by decide +kernel
theorem dX10_asks_142 : decode cX10_asks 142 = .ok (.istore 6, 2) := by decide +kernel
theorem dX10_asks_144 : decode cX10_asks 144 = .ok (.aload_n 0, 1) := by decide +kernel
theorem dX10_asks_145 : decode cX10_asks 145 = .ok (.getfield 319, 3) := by decide +kernel
theorem dX10_asks_148 : decode cX10_asks 148 = .ok (.ifCond .ne 8, 3) := by decide +kernel
theorem dX10_asks_151 : decode cX10_asks 151 = .ok (.iload 6, 2) := by decide +kernel
theorem dX10_asks_153 : decode cX10_asks 153 = .ok (.ifCond .ge 7, 3) := by decide +kernel
theorem dX10_asks_156 : decode cX10_asks 156 = .ok (.iconst 0, 1) := by decide +kernel
theorem dX10_asks_157 : decode cX10_asks 157 = .ok (.goto 15, 3) := by decide +kernel
theorem dX10_asks_160 : decode cX10_asks 160 = .ok (.iload 6, 2) := by decide +kernel
theorem dX10_asks_162 : decode cX10_asks 162 = .ok (.iload_n 3, 1) := by decide +kernel
theorem dX10_asks_163 : decode cX10_asks 163 = .ok (.if_icmp .le 7, 3) := by decide +kernel
theorem dX10_asks_166 : decode cX10_asks 166 = .ok (.iload_n 3, 1) := by decide +kernel
theorem dX10_asks_167 : decode cX10_asks 167 = .ok (.goto 5, 3) := by decide +kernel
theorem dX10_asks_170 : decode cX10_asks 170 = .ok (.iload 6, 2) := by decide +kernel
theorem dX10_asks_172 : decode cX10_asks 172 = .ok (.ireturn, 1) := by decide +kernel
theorem dX10_asks_173 : decode cX10_asks 173 = .ok (.iinc 5 1, 3) := by decide +kernel
theorem dX10_asks_176 : decode cX10_asks 176 = .ok (.goto (-133), 3) := by decide +kernel
theorem dX10_asks_179 : decode cX10_asks 179 = .ok (.iconst 0, 1) := by decide +kernel
theorem dX10_asks_180 : decode cX10_asks 180 = .ok (.ireturn, 1) := by decide +kernel
theorem dX10_threadOf_0 : decode cX10_threadOf 0 = .ok (.aload_n 0, 1) := by decide +kernel
theorem dX10_threadOf_1 : decode cX10_threadOf 1 = .ok (.invokevirtual 337, 3) := by decide +kernel
theorem dX10_threadOf_4 : decode cX10_threadOf 4 = .ok (.aload_n 0, 1) := by decide +kernel
theorem dX10_threadOf_5 : decode cX10_threadOf 5 = .ok (.getfield 110, 3) := by decide +kernel
theorem dX10_threadOf_8 : decode cX10_threadOf 8 = .ok (.iconst 0, 1) := by decide +kernel
theorem dX10_threadOf_9 : decode cX10_threadOf 9 = .ok (.iload_n 3, 1) := by decide +kernel
theorem dX10_threadOf_10 : decode cX10_threadOf 10 = .ok (.iconst 4, 1) := by decide +kernel
theorem dX10_threadOf_11 : decode cX10_threadOf 11 = .ok (.irem, 1) := by decide +kernel
theorem dX10_threadOf_12 : decode cX10_threadOf 12 = .ok (.iastore, 1) := by decide +kernel
theorem dX10_threadOf_13 : decode cX10_threadOf 13 = .ok (.aload_n 0, 1) := by decide +kernel
theorem dX10_threadOf_14 : decode cX10_threadOf 14 = .ok (.getfield 110, 3) := by decide +kernel
theorem dX10_threadOf_17 : decode cX10_threadOf 17 = .ok (.iconst 1, 1) := by decide +kernel
theorem dX10_threadOf_18 : decode cX10_threadOf 18 = .ok (.iload_n 2, 1) := by decide +kernel
theorem dX10_threadOf_19 : decode cX10_threadOf 19 = .ok (.iastore, 1) := by decide +kernel
theorem dX10_threadOf_20 : decode cX10_threadOf 20 = .ok (.aload_n 0, 1) := by decide +kernel
theorem dX10_threadOf_21 : decode cX10_threadOf 21 = .ok (.getfield 110, 3) := by decide +kernel
theorem dX10_threadOf_24 : decode cX10_threadOf 24 = .ok (.iconst 2, 1) := by decide +kernel
theorem dX10_threadOf_25 : decode cX10_threadOf 25 = .ok (.iload_n 3, 1) := by decide +kernel
theorem dX10_threadOf_26 : decode cX10_threadOf 26 = .ok (.iastore, 1) := by decide +kernel
theorem dX10_threadOf_27 : decode cX10_threadOf 27 = .ok (.aload_n 0, 1) := by decide +kernel
theorem dX10_threadOf_28 : decode cX10_threadOf 28 = .ok (.getfield 110, 3) := by decide +kernel
theorem dX10_threadOf_31 : decode cX10_threadOf 31 = .ok (.bipush 7, 2) := by decide +kernel
theorem dX10_threadOf_33 : decode cX10_threadOf 33 = .ok (.iload_n 1, 1) := by decide +kernel
theorem dX10_threadOf_34 : decode cX10_threadOf 34 = .ok (.iastore, 1) := by decide +kernel
theorem dX10_threadOf_35 : decode cX10_threadOf 35 = .ok (.aload_n 0, 1) := by decide +kernel
theorem dX10_threadOf_36 : decode cX10_threadOf 36 = .ok (.getfield 110, 3) := by decide +kernel
theorem dX10_threadOf_39 : decode cX10_threadOf 39 = .ok (.bipush 8, 2) := by decide +kernel
theorem dX10_threadOf_41 : decode cX10_threadOf 41 = .ok (.aload_n 0, 1) := by decide +kernel
theorem dX10_threadOf_42 : decode cX10_threadOf 42 = .ok (.getfield 64, 3) := by decide +kernel
theorem dX10_threadOf_45 : decode cX10_threadOf 45 = .ok (.iconst 4, 1) := by decide +kernel
theorem dX10_threadOf_46 : decode cX10_threadOf 46 = .ok (.aload_n 0, 1) := by decide +kernel
theorem dX10_threadOf_47 : decode cX10_threadOf 47 = .ok (.getfield 239, 3) := by decide +kernel
theorem dX10_threadOf_50 : decode cX10_threadOf 50 = .ok (.imul, 1) := by decide +kernel
theorem dX10_threadOf_51 : decode cX10_threadOf 51 = .ok (.iload_n 1, 1) := by decide +kernel
theorem dX10_threadOf_52 : decode cX10_threadOf 52 = .ok (.iadd, 1) := by decide +kernel
theorem dX10_threadOf_53 : decode cX10_threadOf 53 = .ok (.iaload, 1) := by decide +kernel
theorem dX10_threadOf_54 : decode cX10_threadOf 54 = .ok (.iastore, 1) := by decide +kernel
theorem dX10_threadOf_55 : decode cX10_threadOf 55 = .ok (.aload_n 0, 1) := by decide +kernel
theorem dX10_threadOf_56 : decode cX10_threadOf 56 = .ok (.iconst 0, 1) := by decide +kernel
theorem dX10_threadOf_57 : decode cX10_threadOf 57 = .ok (.iconst 1, 1) := by decide +kernel
theorem dX10_threadOf_58 : decode cX10_threadOf 58 = .ok (.bipush 9, 2) := by decide +kernel
theorem dX10_threadOf_60 : decode cX10_threadOf 60 = .ok (.invokevirtual 340, 3) := by decide +kernel
theorem dX10_threadOf_63 : decode cX10_threadOf 63 = .ok (.ireturn, 1) := by decide +kernel
theorem dX10_fieldAt_0 : decode cX10_fieldAt 0 = .ok (.aload_n 0, 1) := by decide +kernel
theorem dX10_fieldAt_1 : decode cX10_fieldAt 1 = .ok (.getfield 49, 3) := by decide +kernel
theorem dX10_fieldAt_4 : decode cX10_fieldAt 4 = .ok (.bipush 48, 2) := by decide +kernel
theorem dX10_fieldAt_6 : decode cX10_fieldAt 6 = .ok (.aload_n 0, 1) := by decide +kernel
theorem dX10_fieldAt_7 : decode cX10_fieldAt 7 = .ok (.getfield 239, 3) := by decide +kernel
theorem dX10_fieldAt_10 : decode cX10_fieldAt 10 = .ok (.imul, 1) := by decide +kernel
theorem dX10_fieldAt_11 : decode cX10_fieldAt 11 = .ok (.iload_n 1, 1) := by decide +kernel
theorem dX10_fieldAt_12 : decode cX10_fieldAt 12 = .ok (.iadd, 1) := by decide +kernel
theorem dX10_fieldAt_13 : decode cX10_fieldAt 13 = .ok (.iaload, 1) := by decide +kernel
theorem dX10_fieldAt_14 : decode cX10_fieldAt 14 = .ok (.ireturn, 1) := by decide +kernel
theorem dX10_isLand_0 : decode cX10_isLand 0 = .ok (.aload_n 0, 1) := by decide +kernel
theorem dX10_isLand_1 : decode cX10_isLand 1 = .ok (.iload_n 1, 1) := by decide +kernel
theorem dX10_isLand_2 : decode cX10_isLand 2 = .ok (.bipush 8, 2) := by decide +kernel
theorem dX10_isLand_4 : decode cX10_isLand 4 = .ok (.irem, 1) := by decide +kernel
theorem dX10_isLand_5 : decode cX10_isLand 5 = .ok (.iload_n 1, 1) := by decide +kernel
theorem dX10_isLand_6 : decode cX10_isLand 6 = .ok (.bipush 8, 2) := by decide +kernel
theorem dX10_isLand_8 : decode cX10_isLand 8 = .ok (.idiv, 1) := by decide +kernel
theorem dX10_isLand_9 : decode cX10_isLand 9 = .ok (.invokevirtual 343, 3) := by decide +kernel
theorem dX10_isLand_12 : decode cX10_isLand 12 = .ok (.ireturn, 1) := by decide +kernel
theorem dX10_needOf_0 : decode cX10_needOf 0 = .ok (.aload_n 0, 1) := by decide +kernel
theorem dX10_needOf_1 : decode cX10_needOf 1 = .ok (.iload_n 1, 1) := by decide +kernel
theorem dX10_needOf_2 : decode cX10_needOf 2 = .ok (.invokevirtual 347, 3) := by decide +kernel
theorem dX10_needOf_5 : decode cX10_needOf 5 = .ok (.ifCond .ge 7, 3) := by decide +kernel
theorem dX10_needOf_8 : decode cX10_needOf 8 = .ok (.iconst 0, 1) := by decide +kernel
theorem dX10_needOf_9 : decode cX10_needOf 9 = .ok (.goto 21, 3) := by decide +kernel
theorem dX10_needOf_12 : decode cX10_needOf 12 = .ok (.aload_n 0, 1) := by decide +kernel
theorem dX10_needOf_13 : decode cX10_needOf 13 = .ok (.getfield 55, 3) := by decide +kernel
theorem dX10_needOf_16 : decode cX10_needOf 16 = .ok (.bipush 6, 2) := by decide +kernel
theorem dX10_needOf_18 : decode cX10_needOf 18 = .ok (.aload_n 0, 1) := by decide +kernel
theorem dX10_needOf_19 : decode cX10_needOf 19 = .ok (.getfield 239, 3) := by decide +kernel
theorem dX10_needOf_22 : decode cX10_needOf 22 = .ok (.imul, 1) := by decide +kernel
theorem dX10_needOf_23 : decode cX10_needOf 23 = .ok (.aload_n 0, 1) := by decide +kernel
theorem dX10_needOf_24 : decode cX10_needOf 24 = .ok (.iload_n 1, 1) := by decide +kernel
theorem dX10_needOf_25 : decode cX10_needOf 25 = .ok (.invokevirtual 347, 3) := by decide +kernel
theorem dX10_needOf_28 : decode cX10_needOf 28 = .ok (.iadd, 1) := by decide +kernel
theorem dX10_needOf_29 : decode cX10_needOf 29 = .ok (.iaload, 1) := by decide +kernel
theorem dX10_needOf_30 : decode cX10_needOf 30 = .ok (.ireturn, 1) := by decide +kernel
theorem dX10_drownOf_0 : decode cX10_drownOf 0 = .ok (.aload_n 0, 1) := by decide +kernel
theorem dX10_drownOf_1 : decode cX10_drownOf 1 = .ok (.iload_n 1, 1) := by decide +kernel
theorem dX10_drownOf_2 : decode cX10_drownOf 2 = .ok (.invokevirtual 347, 3) := by decide +kernel
theorem dX10_drownOf_5 : decode cX10_drownOf 5 = .ok (.ifCond .ge 7, 3) := by decide +kernel
theorem dX10_drownOf_8 : decode cX10_drownOf 8 = .ok (.iconst 0, 1) := by decide +kernel
theorem dX10_drownOf_9 : decode cX10_drownOf 9 = .ok (.goto 21, 3) := by decide +kernel
theorem dX10_drownOf_12 : decode cX10_drownOf 12 = .ok (.aload_n 0, 1) := by decide +kernel
theorem dX10_drownOf_13 : decode cX10_drownOf 13 = .ok (.getfield 58, 3) := by decide +kernel
theorem dX10_drownOf_16 : decode cX10_drownOf 16 = .ok (.bipush 6, 2) := by decide +kernel
theorem dX10_drownOf_18 : decode cX10_drownOf 18 = .ok (.aload_n 0, 1) := by decide +kernel
theorem dX10_drownOf_19 : decode cX10_drownOf 19 = .ok (.getfield 239, 3) := by decide +kernel
theorem dX10_drownOf_22 : decode cX10_drownOf 22 = .ok (.imul, 1) := by decide +kernel
theorem dX10_drownOf_23 : decode cX10_drownOf 23 = .ok (.aload_n 0, 1) := by decide +kernel
theorem dX10_drownOf_24 : decode cX10_drownOf 24 = .ok (.iload_n 1, 1) := by decide +kernel
theorem dX10_drownOf_25 : decode cX10_drownOf 25 = .ok (.invokevirtual 347, 3) := by decide +kernel
theorem dX10_drownOf_28 : decode cX10_drownOf 28 = .ok (.iadd, 1) := by decide +kernel
theorem dX10_drownOf_29 : decode cX10_drownOf 29 = .ok (.iaload, 1) := by decide +kernel
theorem dX10_drownOf_30 : decode cX10_drownOf 30 = .ok (.ireturn, 1) := by decide +kernel
theorem dX10_isLacking_0 : decode cX10_isLacking 0 = .ok (.aload_n 0, 1) := by decide +kernel
theorem dX10_isLacking_1 : decode cX10_isLacking 1 = .ok (.iload_n 1, 1) := by decide +kernel
theorem dX10_isLacking_2 : decode cX10_isLacking 2 = .ok (.invokevirtual 347, 3) := by decide +kernel
theorem dX10_isLacking_5 : decode cX10_isLacking 5 = .ok (.ifCond .lt 21, 3) := by decide +kernel
theorem dX10_isLacking_8 : decode cX10_isLacking 8 = .ok (.aload_n 0, 1) := by decide +kernel
theorem dX10_isLacking_9 : decode cX10_isLacking 9 = .ok (.getfield 119, 3) := by decide +kernel
theorem dX10_isLacking_12 : decode cX10_isLacking 12 = .ok (.iload_n 1, 1) := by decide +kernel
theorem dX10_isLacking_13 : decode cX10_isLacking 13 = .ok (.iaload, 1) := by decide +kernel
theorem dX10_isLacking_14 : decode cX10_isLacking 14 = .ok (.aload_n 0, 1) := by decide +kernel
theorem dX10_isLacking_15 : decode cX10_isLacking 15 = .ok (.iload_n 1, 1) := by decide +kernel
theorem dX10_isLacking_16 : decode cX10_isLacking 16 = .ok (.invokevirtual 350, 3) := by decide +kernel
theorem dX10_isLacking_19 : decode cX10_isLacking 19 = .ok (.if_icmp .ge 7, 3) := by decide +kernel
theorem dX10_isLacking_22 : decode cX10_isLacking 22 = .ok (.iconst 1, 1) := by decide +kernel
theorem dX10_isLacking_23 : decode cX10_isLacking 23 = .ok (.goto 4, 3) := by decide +kernel
theorem dX10_isLacking_26 : decode cX10_isLacking 26 = .ok (.iconst 0, 1) := by decide +kernel
theorem dX10_isLacking_27 : decode cX10_isLacking 27 = .ok (.ireturn, 1) := by decide +kernel
theorem dX10_isFlooded_0 : decode cX10_isFlooded 0 = .ok (.aload_n 0, 1) := by decide +kernel
theorem dX10_isFlooded_1 : decode cX10_isFlooded 1 = .ok (.iload_n 1, 1) := by decide +kernel
theorem dX10_isFlooded_2 : decode cX10_isFlooded 2 = .ok (.invokevirtual 347, 3) := by decide +kernel
theorem dX10_isFlooded_5 : decode cX10_isFlooded 5 = .ok (.ifCond .lt 21, 3) := by decide +kernel
theorem dX10_isFlooded_8 : decode cX10_isFlooded 8 = .ok (.aload_n 0, 1) := by decide +kernel
theorem dX10_isFlooded_9 : decode cX10_isFlooded 9 = .ok (.getfield 119, 3) := by decide +kernel
theorem dX10_isFlooded_12 : decode cX10_isFlooded 12 = .ok (.iload_n 1, 1) := by decide +kernel
theorem dX10_isFlooded_13 : decode cX10_isFlooded 13 = .ok (.iaload, 1) := by decide +kernel
theorem dX10_isFlooded_14 : decode cX10_isFlooded 14 = .ok (.aload_n 0, 1) := by decide +kernel
theorem dX10_isFlooded_15 : decode cX10_isFlooded 15 = .ok (.iload_n 1, 1) := by decide +kernel
theorem dX10_isFlooded_16 : decode cX10_isFlooded 16 = .ok (.invokevirtual 353, 3) := by decide +kernel
theorem dX10_isFlooded_19 : decode cX10_isFlooded 19 = .ok (.if_icmp .le 7, 3) := by decide +kernel
theorem dX10_isFlooded_22 : decode cX10_isFlooded 22 = .ok (.iconst 1, 1) := by decide +kernel
theorem dX10_isFlooded_23 : decode cX10_isFlooded 23 = .ok (.goto 4, 3) := by decide +kernel
theorem dX10_isFlooded_26 : decode cX10_isFlooded 26 = .ok (.iconst 0, 1) := by decide +kernel
theorem dX10_isFlooded_27 : decode cX10_isFlooded 27 = .ok (.ireturn, 1) := by decide +kernel
theorem dX10_falls_0 : decode cX10_falls 0 = .ok (.iconst 0, 1) := by decide +kernel
theorem dX10_falls_1 : decode cX10_falls 1 = .ok (.istore 6, 2) := by decide +kernel
theorem dX10_falls_3 : decode cX10_falls 3 = .ok (.aload_n 0, 1) := by decide +kernel
theorem dX10_falls_4 : decode cX10_falls 4 = .ok (.getfield 119, 3) := by decide +kernel
theorem dX10_falls_7 : decode cX10_falls 7 = .ok (.bipush 48, 2) := by decide +kernel
theorem dX10_falls_9 : decode cX10_falls 9 = .ok (.iload_n 1, 1) := by decide +kernel
theorem dX10_falls_10 : decode cX10_falls 10 = .ok (.iadd, 1) := by decide +kernel
theorem dX10_falls_11 : decode cX10_falls 11 = .ok (.iaload, 1) := by decide +kernel
theorem dX10_falls_12 : decode cX10_falls 12 = .ok (.istore 7, 2) := by decide +kernel
theorem dX10_falls_14 : decode cX10_falls 14 = .ok (.iconst 0, 1) := by decide +kernel
theorem dX10_falls_15 : decode cX10_falls 15 = .ok (.istore 8, 2) := by decide +kernel
theorem dX10_falls_17 : decode cX10_falls 17 = .ok (.iconst 0, 1) := by decide +kernel
theorem dX10_falls_18 : decode cX10_falls 18 = .ok (.istore 9, 2) := by decide +kernel
theorem dX10_falls_20 : decode cX10_falls 20 = .ok (.iload 9, 2) := by decide +kernel
theorem dX10_falls_22 : decode cX10_falls 22 = .ok (.iload_n 2, 1) := by decide +kernel
theorem dX10_falls_23 : decode cX10_falls 23 = .ok (.iload_n 3, 1) := by decide +kernel
theorem dX10_falls_24 : decode cX10_falls 24 = .ok (.imul, 1) := by decide +kernel
theorem dX10_falls_25 : decode cX10_falls 25 = .ok (.if_icmp .ge 157, 3) := by decide +kernel
theorem dX10_falls_28 : decode cX10_falls 28 = .ok (.iload 8, 2) := by decide +kernel
theorem dX10_falls_30 : decode cX10_falls 30 = .ok (.ifCond .ne 152, 3) := by decide +kernel
theorem dX10_falls_33 : decode cX10_falls 33 = .ok (.aload_n 0, 1) := by decide +kernel
theorem dX10_falls_34 : decode cX10_falls 34 = .ok (.iload_n 1, 1) := by decide +kernel
theorem dX10_falls_35 : decode cX10_falls 35 = .ok (.iload 9, 2) := by decide +kernel
theorem dX10_falls_37 : decode cX10_falls 37 = .ok (.iload_n 2, 1) := by decide +kernel
theorem dX10_falls_38 : decode cX10_falls 38 = .ok (.irem, 1) := by decide +kernel
theorem dX10_falls_39 : decode cX10_falls 39 = .ok (.iload 7, 2) := by decide +kernel
theorem dX10_falls_41 : decode cX10_falls 41 = .ok (.iload 9, 2) := by decide +kernel
theorem dX10_falls_43 : decode cX10_falls 43 = .ok (.iload_n 2, 1) := by decide +kernel
theorem dX10_falls_44 : decode cX10_falls 44 = .ok (.idiv, 1) := by decide +kernel
theorem dX10_falls_45 : decode cX10_falls 45 = .ok (.iadd, 1) := by decide +kernel
theorem dX10_falls_46 : decode cX10_falls 46 = .ok (.invokevirtual 356, 3) := by decide +kernel
theorem dX10_falls_49 : decode cX10_falls 49 = .ok (.istore 10, 2) := by decide +kernel
theorem dX10_falls_51 : decode cX10_falls 51 = .ok (.iload 10, 2) := by decide +kernel
theorem dX10_falls_53 : decode cX10_falls 53 = .ok (.aload_n 0, 1) := by decide +kernel
theorem dX10_falls_54 : decode cX10_falls 54 = .ok (.getfield 119, 3) := by decide +kernel
theorem dX10_falls_57 : decode cX10_falls 57 = .ok (.bipush 88, 2) := by decide +kernel
theorem dX10_falls_59 : decode cX10_falls 59 = .ok (.iaload, 1) := by decide +kernel
theorem dX10_falls_60 : decode cX10_falls 60 = .ok (.if_icmp .le 7, 3) := by decide +kernel
theorem dX10_falls_63 : decode cX10_falls 63 = .ok (.iconst 1, 1) := by decide +kernel
theorem dX10_falls_64 : decode cX10_falls 64 = .ok (.goto 4, 3) := by decide +kernel
theorem dX10_falls_67 : decode cX10_falls 67 = .ok (.iconst 0, 1) := by decide +kernel
theorem dX10_falls_68 : decode cX10_falls 68 = .ok (.istore 8, 2) := by decide +kernel
theorem dX10_falls_70 : decode cX10_falls 70 = .ok (.iload 8, 2) := by decide +kernel
theorem dX10_falls_72 : decode cX10_falls 72 = .ok (.ifCond .eq 6, 3) := by decide +kernel
theorem dX10_falls_75 : decode cX10_falls 75 = .ok (.goto 101, 3) := by decide +kernel
theorem dX10_falls_78 : decode cX10_falls 78 = .ok (.aload_n 0, 1) := by decide +kernel
theorem dX10_falls_79 : decode cX10_falls 79 = .ok (.getfield 119, 3) := by decide +kernel
theorem dX10_falls_82 : decode cX10_falls 82 = .ok (.bipush 88, 2) := by decide +kernel
theorem dX10_falls_84 : decode cX10_falls 84 = .ok (.dup2, 1) := by decide +kernel
theorem dX10_falls_85 : decode cX10_falls 85 = .ok (.iaload, 1) := by decide +kernel
theorem dX10_falls_86 : decode cX10_falls 86 = .ok (.iload 10, 2) := by decide +kernel
theorem dX10_falls_88 : decode cX10_falls 88 = .ok (.isub, 1) := by decide +kernel
theorem dX10_falls_89 : decode cX10_falls 89 = .ok (.iastore, 1) := by decide +kernel
theorem dX10_falls_90 : decode cX10_falls 90 = .ok (.iload 6, 2) := by decide +kernel
theorem dX10_falls_92 : decode cX10_falls 92 = .ok (.iload 10, 2) := by decide +kernel
theorem dX10_falls_94 : decode cX10_falls 94 = .ok (.iadd, 1) := by decide +kernel
theorem dX10_falls_95 : decode cX10_falls 95 = .ok (.istore 6, 2) := by decide +kernel
theorem dX10_falls_97 : decode cX10_falls 97 = .ok (.iload 4, 2) := by decide +kernel
theorem dX10_falls_99 : decode cX10_falls 99 = .ok (.iload 9, 2) := by decide +kernel
theorem dX10_falls_101 : decode cX10_falls 101 = .ok (.iload_n 2, 1) := by decide +kernel
theorem dX10_falls_102 : decode cX10_falls 102 = .ok (.irem, 1) := by decide +kernel
theorem dX10_falls_103 : decode cX10_falls 103 = .ok (.iadd, 1) := by decide +kernel
theorem dX10_falls_104 : decode cX10_falls 104 = .ok (.istore 11, 2) := by decide +kernel
theorem dX10_falls_106 : decode cX10_falls 106 = .ok (.iload 5, 2) := by decide +kernel
theorem dX10_falls_108 : decode cX10_falls 108 = .ok (.iload 9, 2) := by decide +kernel
theorem dX10_falls_110 : decode cX10_falls 110 = .ok (.iload_n 2, 1) := by decide +kernel
theorem dX10_falls_111 : decode cX10_falls 111 = .ok (.idiv, 1) := by decide +kernel
theorem dX10_falls_112 : decode cX10_falls 112 = .ok (.iadd, 1) := by decide +kernel
theorem dX10_falls_113 : decode cX10_falls 113 = .ok (.istore 12, 2) := by decide +kernel
theorem dX10_falls_115 : decode cX10_falls 115 = .ok (.aload_n 0, 1) := by decide +kernel
theorem dX10_falls_116 : decode cX10_falls 116 = .ok (.iload 11, 2) := by decide +kernel
theorem dX10_falls_118 : decode cX10_falls 118 = .ok (.iload 12, 2) := by decide +kernel
theorem dX10_falls_120 : decode cX10_falls 120 = .ok (.invokevirtual 343, 3) := by decide +kernel
theorem dX10_falls_123 : decode cX10_falls 123 = .ok (.ifCond .ne 6, 3) := by decide +kernel
theorem dX10_falls_126 : decode cX10_falls 126 = .ok (.goto 50, 3) := by decide +kernel
theorem dX10_falls_129 : decode cX10_falls 129 = .ok (.aload_n 0, 1) := by decide +kernel
theorem dX10_falls_130 : decode cX10_falls 130 = .ok (.getfield 119, 3) := by decide +kernel
theorem dX10_falls_133 : decode cX10_falls 133 = .ok (.bipush 8, 2) := by decide +kernel
theorem dX10_falls_135 : decode cX10_falls 135 = .ok (.iload 12, 2) := by decide +kernel
theorem dX10_falls_137 : decode cX10_falls 137 = .ok (.imul, 1) := by decide +kernel
theorem dX10_falls_138 : decode cX10_falls 138 = .ok (.iload 11, 2) := by decide +kernel
theorem dX10_falls_140 : decode cX10_falls 140 = .ok (.iadd, 1) := by decide +kernel
theorem dX10_falls_141 : decode cX10_falls 141 = .ok (.iaload, 1) := by decide +kernel
theorem dX10_falls_142 : decode cX10_falls 142 = .ok (.iload 10, 2) := by decide +kernel
theorem dX10_falls_144 : decode cX10_falls 144 = .ok (.iadd, 1) := by decide +kernel
theorem dX10_falls_145 : decode cX10_falls 145 = .ok (.istore 13, 2) := by decide +kernel
theorem dX10_falls_147 : decode cX10_falls 147 = .ok (.aload_n 0, 1) := by decide +kernel
theorem dX10_falls_148 : decode cX10_falls 148 = .ok (.getfield 119, 3) := by decide +kernel
theorem dX10_falls_151 : decode cX10_falls 151 = .ok (.bipush 8, 2) := by decide +kernel
theorem dX10_falls_153 : decode cX10_falls 153 = .ok (.iload 12, 2) := by decide +kernel
theorem dX10_falls_155 : decode cX10_falls 155 = .ok (.imul, 1) := by decide +kernel
theorem dX10_falls_156 : decode cX10_falls 156 = .ok (.iload 11, 2) := by decide +kernel
theorem dX10_falls_158 : decode cX10_falls 158 = .ok (.iadd, 1) := by decide +kernel
theorem dX10_falls_159 : decode cX10_falls 159 = .ok (.iload 13, 2) := by decide +kernel
theorem dX10_falls_161 : decode cX10_falls 161 = .ok (.sipush 999, 3) := by decide +kernel
theorem dX10_falls_164 : decode cX10_falls 164 = .ok (.if_icmp .le 9, 3) := by decide +kernel
theorem dX10_falls_167 : decode cX10_falls 167 = .ok (.sipush 999, 3) := by decide +kernel
theorem dX10_falls_170 : decode cX10_falls 170 = .ok (.goto 5, 3) := by decide +kernel
theorem dX10_falls_173 : decode cX10_falls 173 = .ok (.iload 13, 2) := by decide +kernel
theorem dX10_falls_175 : decode cX10_falls 175 = .ok (.iastore, 1) := by decide +kernel
theorem dX10_falls_176 : decode cX10_falls 176 = .ok (.iinc 9 1, 3) := by decide +kernel
theorem dX10_falls_179 : decode cX10_falls 179 = .ok (.goto (-159), 3) := by decide +kernel
theorem dX10_falls_182 : decode cX10_falls 182 = .ok (.aload_n 0, 1) := by decide +kernel
theorem dX10_falls_183 : decode cX10_falls 183 = .ok (.getfield 119, 3) := by decide +kernel
theorem dX10_falls_186 : decode cX10_falls 186 = .ok (.bipush 48, 2) := by decide +kernel
theorem dX10_falls_188 : decode cX10_falls 188 = .ok (.iload_n 1, 1) := by decide +kernel
theorem dX10_falls_189 : decode cX10_falls 189 = .ok (.iadd, 1) := by decide +kernel
theorem dX10_falls_190 : decode cX10_falls 190 = .ok (.iload 7, 2) := by decide +kernel
theorem dX10_falls_192 : decode cX10_falls 192 = .ok (.iload_n 3, 1) := by decide +kernel
theorem dX10_falls_193 : decode cX10_falls 193 = .ok (.iadd, 1) := by decide +kernel
theorem dX10_falls_194 : decode cX10_falls 194 = .ok (.iastore, 1) := by decide +kernel
theorem dX10_falls_195 : decode cX10_falls 195 = .ok (.aload_n 0, 1) := by decide +kernel
theorem dX10_falls_196 : decode cX10_falls 196 = .ok (.getfield 119, 3) := by decide +kernel
theorem dX10_falls_199 : decode cX10_falls 199 = .ok (.bipush 68, 2) := by decide +kernel
theorem dX10_falls_201 : decode cX10_falls 201 = .ok (.iload_n 1, 1) := by decide +kernel
theorem dX10_falls_202 : decode cX10_falls 202 = .ok (.iadd, 1) := by decide +kernel
theorem dX10_falls_203 : decode cX10_falls 203 = .ok (.dup2, 1) := by decide +kernel
theorem dX10_falls_204 : decode cX10_falls 204 = .ok (.iaload, 1) := by decide +kernel
theorem dX10_falls_205 : decode cX10_falls 205 = .ok (.iload 6, 2) := by decide +kernel
theorem dX10_falls_207 : decode cX10_falls 207 = .ok (.iadd, 1) := by decide +kernel
theorem dX10_falls_208 : decode cX10_falls 208 = .ok (.iastore, 1) := by decide +kernel
theorem dX10_falls_209 : decode cX10_falls 209 = .ok (.iload 8, 2) := by decide +kernel
theorem dX10_falls_211 : decode cX10_falls 211 = .ok (.ifCond .eq 16, 3) := by decide +kernel
theorem dX10_falls_214 : decode cX10_falls 214 = .ok (.aload_n 0, 1) := by decide +kernel
theorem dX10_falls_215 : decode cX10_falls 215 = .ok (.getfield 119, 3) := by decide +kernel
theorem dX10_falls_218 : decode cX10_falls 218 = .ok (.bipush 72, 2) := by decide +kernel
theorem dX10_falls_220 : decode cX10_falls 220 = .ok (.iload_n 1, 1) := by decide +kernel
theorem dX10_falls_221 : decode cX10_falls 221 = .ok (.iadd, 1) := by decide +kernel
theorem dX10_falls_222 : decode cX10_falls 222 = .ok (.dup2, 1) := by decide +kernel
theorem dX10_falls_223 : decode cX10_falls 223 = .ok (.iaload, 1) := by decide +kernel
theorem dX10_falls_224 : decode cX10_falls 224 = .ok (.iconst 1, 1) := by decide +kernel
theorem dX10_falls_225 : decode cX10_falls 225 = .ok (.iadd, 1) := by decide +kernel
theorem dX10_falls_226 : decode cX10_falls 226 = .ok (.iastore, 1) := by decide +kernel
theorem dX10_falls_227 : decode cX10_falls 227 = .ok (.aload_n 0, 1) := by decide +kernel
theorem dX10_falls_228 : decode cX10_falls 228 = .ok (.getfield 119, 3) := by decide +kernel
theorem dX10_falls_231 : decode cX10_falls 231 = .ok (.bipush 90, 2) := by decide +kernel
theorem dX10_falls_233 : decode cX10_falls 233 = .ok (.dup2, 1) := by decide +kernel
theorem dX10_falls_234 : decode cX10_falls 234 = .ok (.iaload, 1) := by decide +kernel
theorem dX10_falls_235 : decode cX10_falls 235 = .ok (.iload 6, 2) := by decide +kernel
theorem dX10_falls_237 : decode cX10_falls 237 = .ok (.iadd, 1) := by decide +kernel
theorem dX10_falls_238 : decode cX10_falls 238 = .ok (.iastore, 1) := by decide +kernel
theorem dX10_falls_239 : decode cX10_falls 239 = .ok (.iload 6, 2) := by decide +kernel
theorem dX10_falls_241 : decode cX10_falls 241 = .ok (.ireturn, 1) := by decide +kernel
theorem dX10_driesIn_0 : decode cX10_driesIn 0 = .ok (.aload_n 0, 1) := by decide +kernel
theorem dX10_driesIn_1 : decode cX10_driesIn 1 = .ok (.invokevirtual 337, 3) := by decide +kernel
theorem dX10_driesIn_4 : decode cX10_driesIn 4 = .ok (.aload_n 0, 1) := by decide +kernel
theorem dX10_driesIn_5 : decode cX10_driesIn 5 = .ok (.getfield 110, 3) := by decide +kernel
theorem dX10_driesIn_8 : decode cX10_driesIn 8 = .ok (.iconst 3, 1) := by decide +kernel
theorem dX10_driesIn_9 : decode cX10_driesIn 9 = .ok (.aload_n 0, 1) := by decide +kernel
theorem dX10_driesIn_10 : decode cX10_driesIn 10 = .ok (.getfield 119, 3) := by decide +kernel
theorem dX10_driesIn_13 : decode cX10_driesIn 13 = .ok (.iload_n 1, 1) := by decide +kernel
theorem dX10_driesIn_14 : decode cX10_driesIn 14 = .ok (.iaload, 1) := by decide +kernel
theorem dX10_driesIn_15 : decode cX10_driesIn 15 = .ok (.iastore, 1) := by decide +kernel
theorem dX10_driesIn_16 : decode cX10_driesIn 16 = .ok (.aload_n 0, 1) := by decide +kernel
theorem dX10_driesIn_17 : decode cX10_driesIn 17 = .ok (.getfield 110, 3) := by decide +kernel
theorem dX10_driesIn_20 : decode cX10_driesIn 20 = .ok (.iconst 4, 1) := by decide +kernel
theorem dX10_driesIn_21 : decode cX10_driesIn 21 = .ok (.aload_n 0, 1) := by decide +kernel
theorem dX10_driesIn_22 : decode cX10_driesIn 22 = .ok (.iload_n 1, 1) := by decide +kernel
theorem dX10_driesIn_23 : decode cX10_driesIn 23 = .ok (.invokevirtual 350, 3) := by decide +kernel
theorem dX10_driesIn_26 : decode cX10_driesIn 26 = .ok (.iastore, 1) := by decide +kernel
theorem dX10_driesIn_27 : decode cX10_driesIn 27 = .ok (.aload_n 0, 1) := by decide +kernel
theorem dX10_driesIn_28 : decode cX10_driesIn 28 = .ok (.getfield 110, 3) := by decide +kernel
theorem dX10_driesIn_31 : decode cX10_driesIn 31 = .ok (.iconst 5, 1) := by decide +kernel
theorem dX10_driesIn_32 : decode cX10_driesIn 32 = .ok (.aload_n 0, 1) := by decide +kernel
theorem dX10_driesIn_33 : decode cX10_driesIn 33 = .ok (.iload_n 1, 1) := by decide +kernel
theorem dX10_driesIn_34 : decode cX10_driesIn 34 = .ok (.invokevirtual 353, 3) := by decide +kernel
theorem dX10_driesIn_37 : decode cX10_driesIn 37 = .ok (.iastore, 1) := by decide +kernel
theorem dX10_driesIn_38 : decode cX10_driesIn 38 = .ok (.aload_n 0, 1) := by decide +kernel
theorem dX10_driesIn_39 : decode cX10_driesIn 39 = .ok (.getfield 110, 3) := by decide +kernel
theorem dX10_driesIn_42 : decode cX10_driesIn 42 = .ok (.bipush 6, 2) := by decide +kernel
theorem dX10_driesIn_44 : decode cX10_driesIn 44 = .ok (.aload_n 0, 1) := by decide +kernel
theorem dX10_driesIn_45 : decode cX10_driesIn 45 = .ok (.getfield 119, 3) := by decide +kernel
theorem dX10_driesIn_48 : decode cX10_driesIn 48 = .ok (.bipush 89, 2) := by decide +kernel
theorem dX10_driesIn_50 : decode cX10_driesIn 50 = .ok (.iaload, 1) := by decide +kernel
theorem dX10_driesIn_51 : decode cX10_driesIn 51 = .ok (.iastore, 1) := by decide +kernel
theorem dX10_driesIn_52 : decode cX10_driesIn 52 = .ok (.aload_n 0, 1) := by decide +kernel
theorem dX10_driesIn_53 : decode cX10_driesIn 53 = .ok (.iconst 1, 1) := by decide +kernel
theorem dX10_driesIn_54 : decode cX10_driesIn 54 = .ok (.iconst 1, 1) := by decide +kernel
theorem dX10_driesIn_55 : decode cX10_driesIn 55 = .ok (.bipush 99, 2) := by decide +kernel
theorem dX10_driesIn_57 : decode cX10_driesIn 57 = .ok (.invokevirtual 340, 3) := by decide +kernel
theorem dX10_driesIn_60 : decode cX10_driesIn 60 = .ok (.ireturn, 1) := by decide +kernel
theorem dX10_dayGoes_0 : decode cX10_dayGoes 0 = .ok (.iconst 0, 1) := by decide +kernel
theorem dX10_dayGoes_1 : decode cX10_dayGoes 1 = .ok (.istore_n 1, 1) := by decide +kernel
theorem dX10_dayGoes_2 : decode cX10_dayGoes 2 = .ok (.iload_n 1, 1) := by decide +kernel
theorem dX10_dayGoes_3 : decode cX10_dayGoes 3 = .ok (.aload_n 0, 1) := by decide +kernel
theorem dX10_dayGoes_4 : decode cX10_dayGoes 4 = .ok (.getfield 61, 3) := by decide +kernel
theorem dX10_dayGoes_7 : decode cX10_dayGoes 7 = .ok (.aload_n 0, 1) := by decide +kernel
theorem dX10_dayGoes_8 : decode cX10_dayGoes 8 = .ok (.getfield 239, 3) := by decide +kernel
theorem dX10_dayGoes_11 : decode cX10_dayGoes 11 = .ok (.iaload, 1) := by decide +kernel
theorem dX10_dayGoes_12 : decode cX10_dayGoes 12 = .ok (.if_icmp .ge 102, 3) := by decide +kernel
theorem dX10_dayGoes_15 : decode cX10_dayGoes 15 = .ok (.aload_n 0, 1) := by decide +kernel
theorem dX10_dayGoes_16 : decode cX10_dayGoes 16 = .ok (.getfield 119, 3) := by decide +kernel
theorem dX10_dayGoes_19 : decode cX10_dayGoes 19 = .ok (.bipush 52, 2) := by decide +kernel
theorem dX10_dayGoes_21 : decode cX10_dayGoes 21 = .ok (.iload_n 1, 1) := by decide +kernel
theorem dX10_dayGoes_22 : decode cX10_dayGoes 22 = .ok (.iadd, 1) := by decide +kernel
theorem dX10_dayGoes_23 : decode cX10_dayGoes 23 = .ok (.iaload, 1) := by decide +kernel
theorem dX10_dayGoes_24 : decode cX10_dayGoes 24 = .ok (.ifCond .ne 6, 3) := by decide +kernel
theorem dX10_dayGoes_27 : decode cX10_dayGoes 27 = .ok (.goto 81, 3) := by decide +kernel
theorem dX10_dayGoes_30 : decode cX10_dayGoes 30 = .ok (.aload_n 0, 1) := by decide +kernel
theorem dX10_dayGoes_31 : decode cX10_dayGoes 31 = .ok (.bipush 8, 2) := by decide +kernel
theorem dX10_dayGoes_33 : decode cX10_dayGoes 33 = .ok (.aload_n 0, 1) := by decide +kernel
theorem dX10_dayGoes_34 : decode cX10_dayGoes 34 = .ok (.getfield 119, 3) := by decide +kernel
theorem dX10_dayGoes_37 : decode cX10_dayGoes 37 = .ok (.bipush 89, 2) := by decide +kernel
theorem dX10_dayGoes_39 : decode cX10_dayGoes 39 = .ok (.iaload, 1) := by decide +kernel
theorem dX10_dayGoes_40 : decode cX10_dayGoes 40 = .ok (.imul, 1) := by decide +kernel
theorem dX10_dayGoes_41 : decode cX10_dayGoes 41 = .ok (.iload_n 1, 1) := by decide +kernel
theorem dX10_dayGoes_42 : decode cX10_dayGoes 42 = .ok (.iadd, 1) := by decide +kernel
theorem dX10_dayGoes_43 : decode cX10_dayGoes 43 = .ok (.invokevirtual 359, 3) := by decide +kernel
theorem dX10_dayGoes_46 : decode cX10_dayGoes 46 = .ok (.aload_n 0, 1) := by decide +kernel
theorem dX10_dayGoes_47 : decode cX10_dayGoes 47 = .ok (.getfield 73, 3) := by decide +kernel
theorem dX10_dayGoes_50 : decode cX10_dayGoes 50 = .ok (.aload_n 0, 1) := by decide +kernel
theorem dX10_dayGoes_51 : decode cX10_dayGoes 51 = .ok (.getfield 239, 3) := by decide +kernel
theorem dX10_dayGoes_54 : decode cX10_dayGoes 54 = .ok (.iaload, 1) := by decide +kernel
theorem dX10_dayGoes_55 : decode cX10_dayGoes 55 = .ok (.if_icmp .ge 7, 3) := by decide +kernel
theorem dX10_dayGoes_58 : decode cX10_dayGoes 58 = .ok (.iconst 1, 1) := by decide +kernel
theorem dX10_dayGoes_59 : decode cX10_dayGoes 59 = .ok (.goto 4, 3) := by decide +kernel
theorem dX10_dayGoes_62 : decode cX10_dayGoes 62 = .ok (.iconst 0, 1) := by decide +kernel
theorem dX10_dayGoes_63 : decode cX10_dayGoes 63 = .ok (.istore_n 2, 1) := by decide +kernel
theorem dX10_dayGoes_64 : decode cX10_dayGoes 64 = .ok (.aload_n 0, 1) := by decide +kernel
theorem dX10_dayGoes_65 : decode cX10_dayGoes 65 = .ok (.iload_n 1, 1) := by decide +kernel
theorem dX10_dayGoes_66 : decode cX10_dayGoes 66 = .ok (.aload_n 0, 1) := by decide +kernel
theorem dX10_dayGoes_67 : decode cX10_dayGoes 67 = .ok (.getfield 119, 3) := by decide +kernel
theorem dX10_dayGoes_70 : decode cX10_dayGoes 70 = .ok (.bipush 52, 2) := by decide +kernel
theorem dX10_dayGoes_72 : decode cX10_dayGoes 72 = .ok (.iload_n 1, 1) := by decide +kernel
theorem dX10_dayGoes_73 : decode cX10_dayGoes 73 = .ok (.iadd, 1) := by decide +kernel
theorem dX10_dayGoes_74 : decode cX10_dayGoes 74 = .ok (.iaload, 1) := by decide +kernel
theorem dX10_dayGoes_75 : decode cX10_dayGoes 75 = .ok (.aload_n 0, 1) := by decide +kernel
theorem dX10_dayGoes_76 : decode cX10_dayGoes 76 = .ok (.getfield 119, 3) := by decide +kernel
theorem dX10_dayGoes_79 : decode cX10_dayGoes 79 = .ok (.bipush 56, 2) := by decide +kernel
theorem dX10_dayGoes_81 : decode cX10_dayGoes 81 = .ok (.iload_n 1, 1) := by decide +kernel
theorem dX10_dayGoes_82 : decode cX10_dayGoes 82 = .ok (.iadd, 1) := by decide +kernel
theorem dX10_dayGoes_83 : decode cX10_dayGoes 83 = .ok (.iaload, 1) := by decide +kernel
theorem dX10_dayGoes_84 : decode cX10_dayGoes 84 = .ok (.aload_n 0, 1) := by decide +kernel
theorem dX10_dayGoes_85 : decode cX10_dayGoes 85 = .ok (.getfield 119, 3) := by decide +kernel
theorem dX10_dayGoes_88 : decode cX10_dayGoes 88 = .ok (.bipush 60, 2) := by decide +kernel
theorem dX10_dayGoes_90 : decode cX10_dayGoes 90 = .ok (.iload_n 1, 1) := by decide +kernel
theorem dX10_dayGoes_91 : decode cX10_dayGoes 91 = .ok (.iadd, 1) := by decide +kernel
theorem dX10_dayGoes_92 : decode cX10_dayGoes 92 = .ok (.iaload, 1) := by decide +kernel
theorem dX10_dayGoes_93 : decode cX10_dayGoes 93 = .ok (.iload_n 2, 1) := by decide +kernel
theorem dX10_dayGoes_94 : decode cX10_dayGoes 94 = .ok (.iadd, 1) := by decide +kernel
theorem dX10_dayGoes_95 : decode cX10_dayGoes 95 = .ok (.aload_n 0, 1) := by decide +kernel
theorem dX10_dayGoes_96 : decode cX10_dayGoes 96 = .ok (.getfield 119, 3) := by decide +kernel
theorem dX10_dayGoes_99 : decode cX10_dayGoes 99 = .ok (.bipush 64, 2) := by decide +kernel
theorem dX10_dayGoes_101 : decode cX10_dayGoes 101 = .ok (.iload_n 1, 1) := by decide +kernel
theorem dX10_dayGoes_102 : decode cX10_dayGoes 102 = .ok (.iadd, 1) := by decide +kernel
theorem dX10_dayGoes_103 : decode cX10_dayGoes 103 = .ok (.iaload, 1) := by decide +kernel
theorem dX10_dayGoes_104 : decode cX10_dayGoes 104 = .ok (.invokevirtual 362, 3) := by decide +kernel
theorem dX10_dayGoes_107 : decode cX10_dayGoes 107 = .ok (.pop, 1) := by decide +kernel
theorem dX10_dayGoes_108 : decode cX10_dayGoes 108 = .ok (.iinc 1 1, 3) := by decide +kernel
theorem dX10_dayGoes_111 : decode cX10_dayGoes 111 = .ok (.goto (-109), 3) := by decide +kernel
theorem dX10_dayGoes_114 : decode cX10_dayGoes 114 = .ok (.iconst 0, 1) := by decide +kernel
theorem dX10_dayGoes_115 : decode cX10_dayGoes 115 = .ok (.istore_n 1, 1) := by decide +kernel
theorem dX10_dayGoes_116 : decode cX10_dayGoes 116 = .ok (.iload_n 1, 1) := by decide +kernel
theorem dX10_dayGoes_117 : decode cX10_dayGoes 117 = .ok (.bipush 48, 2) := by decide +kernel
theorem dX10_dayGoes_119 : decode cX10_dayGoes 119 = .ok (.if_icmp .ge 70, 3) := by decide +kernel
theorem dX10_dayGoes_122 : decode cX10_dayGoes 122 = .ok (.aload_n 0, 1) := by decide +kernel
theorem dX10_dayGoes_123 : decode cX10_dayGoes 123 = .ok (.iload_n 1, 1) := by decide +kernel
theorem dX10_dayGoes_124 : decode cX10_dayGoes 124 = .ok (.invokevirtual 366, 3) := by decide +kernel
theorem dX10_dayGoes_127 : decode cX10_dayGoes 127 = .ok (.ifCond .ne 6, 3) := by decide +kernel
theorem dX10_dayGoes_130 : decode cX10_dayGoes 130 = .ok (.goto 53, 3) := by decide +kernel
theorem dX10_dayGoes_133 : decode cX10_dayGoes 133 = .ok (.aload_n 0, 1) := by decide +kernel
theorem dX10_dayGoes_134 : decode cX10_dayGoes 134 = .ok (.iload_n 1, 1) := by decide +kernel
theorem dX10_dayGoes_135 : decode cX10_dayGoes 135 = .ok (.invokevirtual 369, 3) := by decide +kernel
theorem dX10_dayGoes_138 : decode cX10_dayGoes 138 = .ok (.ifCond .eq 20, 3) := by decide +kernel
theorem dX10_dayGoes_141 : decode cX10_dayGoes 141 = .ok (.aload_n 0, 1) := by decide +kernel
theorem dX10_dayGoes_142 : decode cX10_dayGoes 142 = .ok (.getfield 119, 3) := by decide +kernel
theorem dX10_dayGoes_145 : decode cX10_dayGoes 145 = .ok (.bipush 76, 2) := by decide +kernel
theorem dX10_dayGoes_147 : decode cX10_dayGoes 147 = .ok (.aload_n 0, 1) := by decide +kernel
theorem dX10_dayGoes_148 : decode cX10_dayGoes 148 = .ok (.iload_n 1, 1) := by decide +kernel
theorem dX10_dayGoes_149 : decode cX10_dayGoes 149 = .ok (.invokevirtual 347, 3) := by decide +kernel
theorem dX10_dayGoes_152 : decode cX10_dayGoes 152 = .ok (.iadd, 1) := by decide +kernel
theorem dX10_dayGoes_153 : decode cX10_dayGoes 153 = .ok (.dup2, 1) := by decide +kernel
theorem dX10_dayGoes_154 : decode cX10_dayGoes 154 = .ok (.iaload, 1) := by decide +kernel
theorem dX10_dayGoes_155 : decode cX10_dayGoes 155 = .ok (.iconst 1, 1) := by decide +kernel
theorem dX10_dayGoes_156 : decode cX10_dayGoes 156 = .ok (.iadd, 1) := by decide +kernel
theorem dX10_dayGoes_157 : decode cX10_dayGoes 157 = .ok (.iastore, 1) := by decide +kernel
theorem dX10_dayGoes_158 : decode cX10_dayGoes 158 = .ok (.aload_n 0, 1) := by decide +kernel
theorem dX10_dayGoes_159 : decode cX10_dayGoes 159 = .ok (.iload_n 1, 1) := by decide +kernel
theorem dX10_dayGoes_160 : decode cX10_dayGoes 160 = .ok (.invokevirtual 372, 3) := by decide +kernel
theorem dX10_dayGoes_163 : decode cX10_dayGoes 163 = .ok (.ifCond .eq 20, 3) := by decide +kernel
theorem dX10_dayGoes_166 : decode cX10_dayGoes 166 = .ok (.aload_n 0, 1) := by decide +kernel
theorem dX10_dayGoes_167 : decode cX10_dayGoes 167 = .ok (.getfield 119, 3) := by decide +kernel
theorem dX10_dayGoes_170 : decode cX10_dayGoes 170 = .ok (.bipush 82, 2) := by decide +kernel
theorem dX10_dayGoes_172 : decode cX10_dayGoes 172 = .ok (.aload_n 0, 1) := by decide +kernel
theorem dX10_dayGoes_173 : decode cX10_dayGoes 173 = .ok (.iload_n 1, 1) := by decide +kernel
theorem dX10_dayGoes_174 : decode cX10_dayGoes 174 = .ok (.invokevirtual 347, 3) := by decide +kernel
theorem dX10_dayGoes_177 : decode cX10_dayGoes 177 = .ok (.iadd, 1) := by decide +kernel
theorem dX10_dayGoes_178 : decode cX10_dayGoes 178 = .ok (.dup2, 1) := by decide +kernel
theorem dX10_dayGoes_179 : decode cX10_dayGoes 179 = .ok (.iaload, 1) := by decide +kernel
theorem dX10_dayGoes_180 : decode cX10_dayGoes 180 = .ok (.iconst 1, 1) := by decide +kernel
theorem dX10_dayGoes_181 : decode cX10_dayGoes 181 = .ok (.iadd, 1) := by decide +kernel
theorem dX10_dayGoes_182 : decode cX10_dayGoes 182 = .ok (.iastore, 1) := by decide +kernel
theorem dX10_dayGoes_183 : decode cX10_dayGoes 183 = .ok (.iinc 1 1, 3) := by decide +kernel
theorem dX10_dayGoes_186 : decode cX10_dayGoes 186 = .ok (.goto (-70), 3) := by decide +kernel
theorem dX10_dayGoes_189 : decode cX10_dayGoes 189 = .ok (.iconst 0, 1) := by decide +kernel
theorem dX10_dayGoes_190 : decode cX10_dayGoes 190 = .ok (.istore_n 1, 1) := by decide +kernel
theorem dX10_dayGoes_191 : decode cX10_dayGoes 191 = .ok (.iload_n 1, 1) := by decide +kernel
theorem dX10_dayGoes_192 : decode cX10_dayGoes 192 = .ok (.bipush 48, 2) := by decide +kernel
theorem dX10_dayGoes_194 : decode cX10_dayGoes 194 = .ok (.if_icmp .ge 54, 3) := by decide +kernel
theorem dX10_dayGoes_197 : decode cX10_dayGoes 197 = .ok (.aload_n 0, 1) := by decide +kernel
theorem dX10_dayGoes_198 : decode cX10_dayGoes 198 = .ok (.iload_n 1, 1) := by decide +kernel
theorem dX10_dayGoes_199 : decode cX10_dayGoes 199 = .ok (.invokevirtual 366, 3) := by decide +kernel
theorem dX10_dayGoes_202 : decode cX10_dayGoes 202 = .ok (.ifCond .ne 6, 3) := by decide +kernel
theorem dX10_dayGoes_205 : decode cX10_dayGoes 205 = .ok (.goto 37, 3) := by decide +kernel
theorem dX10_dayGoes_208 : decode cX10_dayGoes 208 = .ok (.aload_n 0, 1) := by decide +kernel
theorem dX10_dayGoes_209 : decode cX10_dayGoes 209 = .ok (.iload_n 1, 1) := by decide +kernel
theorem dX10_dayGoes_210 : decode cX10_dayGoes 210 = .ok (.invokevirtual 375, 3) := by decide +kernel
theorem dX10_dayGoes_213 : decode cX10_dayGoes 213 = .ok (.istore_n 2, 1) := by decide +kernel
theorem dX10_dayGoes_214 : decode cX10_dayGoes 214 = .ok (.aload_n 0, 1) := by decide +kernel
theorem dX10_dayGoes_215 : decode cX10_dayGoes 215 = .ok (.getfield 119, 3) := by decide +kernel
theorem dX10_dayGoes_218 : decode cX10_dayGoes 218 = .ok (.iload_n 1, 1) := by decide +kernel
theorem dX10_dayGoes_219 : decode cX10_dayGoes 219 = .ok (.aload_n 0, 1) := by decide +kernel
theorem dX10_dayGoes_220 : decode cX10_dayGoes 220 = .ok (.getfield 119, 3) := by decide +kernel
theorem dX10_dayGoes_223 : decode cX10_dayGoes 223 = .ok (.iload_n 1, 1) := by decide +kernel
theorem dX10_dayGoes_224 : decode cX10_dayGoes 224 = .ok (.iaload, 1) := by decide +kernel
theorem dX10_dayGoes_225 : decode cX10_dayGoes 225 = .ok (.iload_n 2, 1) := by decide +kernel
theorem dX10_dayGoes_226 : decode cX10_dayGoes 226 = .ok (.if_icmp .le 14, 3) := by decide +kernel
theorem dX10_dayGoes_229 : decode cX10_dayGoes 229 = .ok (.aload_n 0, 1) := by decide +kernel
theorem dX10_dayGoes_230 : decode cX10_dayGoes 230 = .ok (.getfield 119, 3) := by decide +kernel
theorem dX10_dayGoes_233 : decode cX10_dayGoes 233 = .ok (.iload_n 1, 1) := by decide +kernel
theorem dX10_dayGoes_234 : decode cX10_dayGoes 234 = .ok (.iaload, 1) := by decide +kernel
theorem dX10_dayGoes_235 : decode cX10_dayGoes 235 = .ok (.iload_n 2, 1) := by decide +kernel
theorem dX10_dayGoes_236 : decode cX10_dayGoes 236 = .ok (.isub, 1) := by decide +kernel
theorem dX10_dayGoes_237 : decode cX10_dayGoes 237 = .ok (.goto 4, 3) := by decide +kernel
theorem dX10_dayGoes_240 : decode cX10_dayGoes 240 = .ok (.iconst 0, 1) := by decide +kernel
theorem dX10_dayGoes_241 : decode cX10_dayGoes 241 = .ok (.iastore, 1) := by decide +kernel
theorem dX10_dayGoes_242 : decode cX10_dayGoes 242 = .ok (.iinc 1 1, 3) := by decide +kernel
theorem dX10_dayGoes_245 : decode cX10_dayGoes 245 = .ok (.goto (-54), 3) := by decide +kernel
theorem dX10_dayGoes_248 : decode cX10_dayGoes 248 = .ok (.aload_n 0, 1) := by decide +kernel
theorem dX10_dayGoes_249 : decode cX10_dayGoes 249 = .ok (.invokevirtual 337, 3) := by decide +kernel
theorem dX10_dayGoes_252 : decode cX10_dayGoes 252 = .ok (.aload_n 0, 1) := by decide +kernel
theorem dX10_dayGoes_253 : decode cX10_dayGoes 253 = .ok (.getfield 110, 3) := by decide +kernel
theorem dX10_dayGoes_256 : decode cX10_dayGoes 256 = .ok (.bipush 6, 2) := by decide +kernel
theorem dX10_dayGoes_258 : decode cX10_dayGoes 258 = .ok (.aload_n 0, 1) := by decide +kernel
theorem dX10_dayGoes_259 : decode cX10_dayGoes 259 = .ok (.getfield 119, 3) := by decide +kernel
theorem dX10_dayGoes_262 : decode cX10_dayGoes 262 = .ok (.bipush 89, 2) := by decide +kernel
theorem dX10_dayGoes_264 : decode cX10_dayGoes 264 = .ok (.iaload, 1) := by decide +kernel
theorem dX10_dayGoes_265 : decode cX10_dayGoes 265 = .ok (.iastore, 1) := by decide +kernel
theorem dX10_dayGoes_266 : decode cX10_dayGoes 266 = .ok (.aload_n 0, 1) := by decide +kernel
theorem dX10_dayGoes_267 : decode cX10_dayGoes 267 = .ok (.getfield 119, 3) := by decide +kernel
theorem dX10_dayGoes_270 : decode cX10_dayGoes 270 = .ok (.bipush 88, 2) := by decide +kernel
theorem dX10_dayGoes_272 : decode cX10_dayGoes 272 = .ok (.iaload, 1) := by decide +kernel
theorem dX10_dayGoes_273 : decode cX10_dayGoes 273 = .ok (.aload_n 0, 1) := by decide +kernel
theorem dX10_dayGoes_274 : decode cX10_dayGoes 274 = .ok (.iconst 2, 1) := by decide +kernel
theorem dX10_dayGoes_275 : decode cX10_dayGoes 275 = .ok (.iconst 0, 1) := by decide +kernel
theorem dX10_dayGoes_276 : decode cX10_dayGoes 276 = .ok (.sipush 999, 3) := by decide +kernel
theorem dX10_dayGoes_279 : decode cX10_dayGoes 279 = .ok (.invokevirtual 340, 3) := by decide +kernel
theorem dX10_dayGoes_282 : decode cX10_dayGoes 282 = .ok (.iadd, 1) := by decide +kernel
theorem dX10_dayGoes_283 : decode cX10_dayGoes 283 = .ok (.istore_n 1, 1) := by decide +kernel
theorem dX10_dayGoes_284 : decode cX10_dayGoes 284 = .ok (.aload_n 0, 1) := by decide +kernel
theorem dX10_dayGoes_285 : decode cX10_dayGoes 285 = .ok (.getfield 119, 3) := by decide +kernel
theorem dX10_dayGoes_288 : decode cX10_dayGoes 288 = .ok (.bipush 88, 2) := by decide +kernel
theorem dX10_dayGoes_290 : decode cX10_dayGoes 290 = .ok (.iload_n 1, 1) := by decide +kernel
theorem dX10_dayGoes_291 : decode cX10_dayGoes 291 = .ok (.sipush 9999, 3) := by decide +kernel
theorem dX10_dayGoes_294 : decode cX10_dayGoes 294 = .ok (.if_icmp .le 9, 3) := by decide +kernel
theorem dX10_dayGoes_297 : decode cX10_dayGoes 297 = .ok (.sipush 9999, 3) := by decide +kernel
theorem dX10_dayGoes_300 : decode cX10_dayGoes 300 = .ok (.goto 4, 3) := by decide +kernel
theorem dX10_dayGoes_303 : decode cX10_dayGoes 303 = .ok (.iload_n 1, 1) := by decide +kernel
theorem dX10_dayGoes_304 : decode cX10_dayGoes 304 = .ok (.iastore, 1) := by decide +kernel
theorem dX10_dayGoes_305 : decode cX10_dayGoes 305 = .ok (.aload_n 0, 1) := by decide +kernel
theorem dX10_dayGoes_306 : decode cX10_dayGoes 306 = .ok (.getfield 119, 3) := by decide +kernel
theorem dX10_dayGoes_309 : decode cX10_dayGoes 309 = .ok (.bipush 89, 2) := by decide +kernel
theorem dX10_dayGoes_311 : decode cX10_dayGoes 311 = .ok (.dup2, 1) := by decide +kernel
theorem dX10_dayGoes_312 : decode cX10_dayGoes 312 = .ok (.iaload, 1) := by decide +kernel
theorem dX10_dayGoes_313 : decode cX10_dayGoes 313 = .ok (.iconst 1, 1) := by decide +kernel
theorem dX10_dayGoes_314 : decode cX10_dayGoes 314 = .ok (.iadd, 1) := by decide +kernel
theorem dX10_dayGoes_315 : decode cX10_dayGoes 315 = .ok (.iastore, 1) := by decide +kernel
theorem dX10_dayGoes_316 : decode cX10_dayGoes 316 = .ok (.return_, 1) := by decide +kernel
theorem dX10_goes_0 : decode cX10_goes 0 = .ok (.iconst 0, 1) := by decide +kernel
theorem dX10_goes_1 : decode cX10_goes 1 = .ok (.istore_n 2, 1) := by decide +kernel
theorem dX10_goes_2 : decode cX10_goes 2 = .ok (.iload_n 2, 1) := by decide +kernel
theorem dX10_goes_3 : decode cX10_goes 3 = .ok (.iload_n 1, 1) := by decide +kernel
theorem dX10_goes_4 : decode cX10_goes 4 = .ok (.if_icmp .ge 13, 3) := by decide +kernel
theorem dX10_goes_7 : decode cX10_goes 7 = .ok (.aload_n 0, 1) := by decide +kernel
theorem dX10_goes_8 : decode cX10_goes 8 = .ok (.invokevirtual 378, 3) := by decide +kernel
theorem dX10_goes_11 : decode cX10_goes 11 = .ok (.iinc 2 1, 3) := by decide +kernel
theorem dX10_goes_14 : decode cX10_goes 14 = .ok (.goto (-12), 3) := by decide +kernel
theorem dX10_goes_17 : decode cX10_goes 17 = .ok (.return_, 1) := by decide +kernel
theorem dX10_cell_0 : decode cX10_cell 0 = .ok (.aload_n 0, 1) := by decide +kernel
theorem dX10_cell_1 : decode cX10_cell 1 = .ok (.iload_n 1, 1) := by decide +kernel
theorem dX10_cell_2 : decode cX10_cell 2 = .ok (.iload_n 2, 1) := by decide +kernel
theorem dX10_cell_3 : decode cX10_cell 3 = .ok (.invokevirtual 343, 3) := by decide +kernel
theorem dX10_cell_6 : decode cX10_cell 6 = .ok (.ifCond .ne 5, 3) := by decide +kernel
theorem dX10_cell_9 : decode cX10_cell 9 = .ok (.iconst (-1), 1) := by decide +kernel
theorem dX10_cell_10 : decode cX10_cell 10 = .ok (.ireturn, 1) := by decide +kernel
theorem dX10_cell_11 : decode cX10_cell 11 = .ok (.aload_n 0, 1) := by decide +kernel
theorem dX10_cell_12 : decode cX10_cell 12 = .ok (.invokevirtual 381, 3) := by decide +kernel
theorem dX10_cell_15 : decode cX10_cell 15 = .ok (.bipush 8, 2) := by decide +kernel
theorem dX10_cell_17 : decode cX10_cell 17 = .ok (.iload_n 2, 1) := by decide +kernel
theorem dX10_cell_18 : decode cX10_cell 18 = .ok (.imul, 1) := by decide +kernel
theorem dX10_cell_19 : decode cX10_cell 19 = .ok (.iload_n 1, 1) := by decide +kernel
theorem dX10_cell_20 : decode cX10_cell 20 = .ok (.iadd, 1) := by decide +kernel
theorem dX10_cell_21 : decode cX10_cell 21 = .ok (.istore 4, 2) := by decide +kernel
theorem dX10_cell_23 : decode cX10_cell 23 = .ok (.iload_n 3, 1) := by decide +kernel
theorem dX10_cell_24 : decode cX10_cell 24 = .ok (.tableswitch 77 0 3 #[32, 39, 47, 62], 32) := by decide +kernel
theorem dX10_cell_56 : decode cX10_cell 56 = .ok (.aload_n 0, 1) := by decide +kernel
theorem dX10_cell_57 : decode cX10_cell 57 = .ok (.iload 4, 2) := by decide +kernel
theorem dX10_cell_59 : decode cX10_cell 59 = .ok (.invokevirtual 347, 3) := by decide +kernel
theorem dX10_cell_62 : decode cX10_cell 62 = .ok (.ireturn, 1) := by decide +kernel
theorem dX10_cell_63 : decode cX10_cell 63 = .ok (.aload_n 0, 1) := by decide +kernel
theorem dX10_cell_64 : decode cX10_cell 64 = .ok (.getfield 119, 3) := by decide +kernel
theorem dX10_cell_67 : decode cX10_cell 67 = .ok (.iload 4, 2) := by decide +kernel
theorem dX10_cell_69 : decode cX10_cell 69 = .ok (.iaload, 1) := by decide +kernel
theorem dX10_cell_70 : decode cX10_cell 70 = .ok (.ireturn, 1) := by decide +kernel
