theorem dX7_init_0 : decode cX7_init 0 = .ok (.aload_n 0, 1) := by decide +kernel
theorem dX7_init_1 : decode cX7_init 1 = .ok (.invokespecial 1, 3) := by decide +kernel
theorem dX7_init_4 : decode cX7_init 4 = .ok (.aload_n 0, 1) := by decide +kernel
theorem dX7_init_5 : decode cX7_init 5 = .ok (.bipush 64, 2) := by decide +kernel
theorem dX7_init_7 : decode cX7_init 7 = .ok (.newarray .int, 2) := by decide +kernel
theorem dX7_init_9 : decode cX7_init 9 = .ok (.putfield 7, 3) := by decide +kernel
theorem dX7_init_12 : decode cX7_init 12 = .ok (.aload_n 0, 1) := by decide +kernel
theorem dX7_init_13 : decode cX7_init 13 = .ok (.bipush 6, 2) := by decide +kernel
theorem dX7_init_15 : decode cX7_init 15 = .ok (.newarray .long, 2) := by decide +kernel
theorem dX7_init_17 : decode cX7_init 17 = .ok (.putfield 13, 3) := by decide +kernel
theorem dX7_init_20 : decode cX7_init 20 = .ok (.aload_n 0, 1) := by decide +kernel
theorem dX7_init_21 : decode cX7_init 21 = .ok (.bipush 42, 2) := by decide +kernel
theorem dX7_init_23 : decode cX7_init 23 = .ok (.newarray .long, 2) := by decide +kernel
theorem dX7_init_25 : decode cX7_init 25 = .ok (.putfield 17, 3) := by decide +kernel
theorem dX7_init_28 : decode cX7_init 28 = .ok (.aload_n 0, 1) := by decide +kernel
theorem dX7_init_29 : decode cX7_init 29 = .ok (.bipush 85, 2) := by decide +kernel
theorem dX7_init_31 : decode cX7_init 31 = .ok (.newarray .int, 2) := by decide +kernel
theorem dX7_init_33 : decode cX7_init 33 = .ok (.putfield 20, 3) := by decide +kernel
theorem dX7_init_36 : decode cX7_init 36 = .ok (.aload_n 0, 1) := by decide +kernel
theorem dX7_init_37 : decode cX7_init 37 = .ok (.bipush 64, 2) := by decide +kernel
theorem dX7_init_39 : decode cX7_init 39 = .ok (.newarray .int, 2) := by decide +kernel
theorem dX7_init_41 : decode cX7_init 41 = .ok (.putfield 23, 3) := by decide +kernel
theorem dX7_init_44 : decode cX7_init 44 = .ok (.aload_n 0, 1) := by decide +kernel
theorem dX7_init_45 : decode cX7_init 45 = .ok (.bipush 64, 2) := by decide +kernel
theorem dX7_init_47 : decode cX7_init 47 = .ok (.newarray .int, 2) := by decide +kernel
theorem dX7_init_49 : decode cX7_init 49 = .ok (.putfield 26, 3) := by decide +kernel
theorem dX7_init_52 : decode cX7_init 52 = .ok (.aload_n 0, 1) := by decide +kernel
theorem dX7_init_53 : decode cX7_init 53 = .ok (.bipush 6, 2) := by decide +kernel
theorem dX7_init_55 : decode cX7_init 55 = .ok (.newarray .int, 2) := by decide +kernel
theorem dX7_init_57 : decode cX7_init 57 = .ok (.putfield 29, 3) := by decide +kernel
theorem dX7_init_60 : decode cX7_init 60 = .ok (.aload_n 0, 1) := by decide +kernel
theorem dX7_init_61 : decode cX7_init 61 = .ok (.bipush 6, 2) := by decide +kernel
theorem dX7_init_63 : decode cX7_init 63 = .ok (.newarray .int, 2) := by decide +kernel
theorem dX7_init_65 : decode cX7_init 65 = .ok (.putfield 32, 3) := by decide +kernel
theorem dX7_init_68 : decode cX7_init 68 = .ok (.aload_n 0, 1) := by decide +kernel
theorem dX7_init_69 : decode cX7_init 69 = .ok (.iconst 2, 1) := by decide +kernel
theorem dX7_init_70 : decode cX7_init 70 = .ok (.newarray .boolean, 2) := by decide +kernel
theorem dX7_init_72 : decode cX7_init 72 = .ok (.putfield 35, 3) := by decide +kernel
theorem dX7_init_75 : decode cX7_init 75 = .ok (.aload_n 0, 1) := by decide +kernel
theorem dX7_init_76 : decode cX7_init 76 = .ok (.bipush 6, 2) := by decide +kernel
theorem dX7_init_78 : decode cX7_init 78 = .ok (.newarray .long, 2) := by decide +kernel
theorem dX7_init_80 : decode cX7_init 80 = .ok (.putfield 39, 3) := by decide +kernel
theorem dX7_init_83 : decode cX7_init 83 = .ok (.return_, 1) := by decide +kernel
theorem dX7_in_0 : decode cX7_in 0 = .ok (.lload_n 0, 1) := by decide +kernel
theorem dX7_in_1 : decode cX7_in 1 = .ok (.lload_n 2, 1) := by decide +kernel
theorem dX7_in_2 : decode cX7_in 2 = .ok (.lcmp, 1) := by decide +kernel
theorem dX7_in_3 : decode cX7_in 3 = .ok (.ifCond .lt 14, 3) := by decide +kernel
theorem dX7_in_6 : decode cX7_in 6 = .ok (.lload_n 0, 1) := by decide +kernel
theorem dX7_in_7 : decode cX7_in 7 = .ok (.lload 4, 2) := by decide +kernel
theorem dX7_in_9 : decode cX7_in 9 = .ok (.lcmp, 1) := by decide +kernel
theorem dX7_in_10 : decode cX7_in 10 = .ok (.ifCond .gt 7, 3) := by decide +kernel
theorem dX7_in_13 : decode cX7_in 13 = .ok (.iconst 1, 1) := by decide +kernel
theorem dX7_in_14 : decode cX7_in 14 = .ok (.goto 4, 3) := by decide +kernel
theorem dX7_in_17 : decode cX7_in 17 = .ok (.iconst 0, 1) := by decide +kernel
theorem dX7_in_18 : decode cX7_in 18 = .ok (.ireturn, 1) := by decide +kernel
theorem dX7_ones_0 : decode cX7_ones 0 = .ok (.iconst 0, 1) := by decide +kernel
theorem dX7_ones_1 : decode cX7_ones 1 = .ok (.istore_n 2, 1) := by decide +kernel
theorem dX7_ones_2 : decode cX7_ones 2 = .ok (.iconst 0, 1) := by decide +kernel
theorem dX7_ones_3 : decode cX7_ones 3 = .ok (.istore_n 3, 1) := by decide +kernel
theorem dX7_ones_4 : decode cX7_ones 4 = .ok (.iload_n 3, 1) := by decide +kernel
theorem dX7_ones_5 : decode cX7_ones 5 = .ok (.bipush 64, 2) := by decide +kernel
theorem dX7_ones_7 : decode cX7_ones 7 = .ok (.if_icmp .ge 18, 3) := by decide +kernel
theorem dX7_ones_10 : decode cX7_ones 10 = .ok (.iload_n 2, 1) := by decide +kernel
theorem dX7_ones_11 : decode cX7_ones 11 = .ok (.lload_n 0, 1) := by decide +kernel
theorem dX7_ones_12 : decode cX7_ones 12 = .ok (.iload_n 3, 1) := by decide +kernel
theorem dX7_ones_13 : decode cX7_ones 13 = .ok (.lushr, 1) := by decide +kernel
theorem dX7_ones_14 : decode cX7_ones 14 = .ok (.lconst 1, 1) := by decide +kernel
theorem dX7_ones_15 : decode cX7_ones 15 = .ok (.land, 1) := by decide +kernel
theorem dX7_ones_16 : decode cX7_ones 16 = .ok (.l2i, 1) := by decide +kernel
theorem dX7_ones_17 : decode cX7_ones 17 = .ok (.iadd, 1) := by decide +kernel
theorem dX7_ones_18 : decode cX7_ones 18 = .ok (.istore_n 2, 1) := by decide +kernel
theorem dX7_ones_19 : decode cX7_ones 19 = .ok (.iinc 3 1, 3) := by decide +kernel
theorem dX7_ones_22 : decode cX7_ones 22 = .ok (.goto (-18), 3) := by decide +kernel
theorem dX7_ones_25 : decode cX7_ones 25 = .ok (.iload_n 2, 1) := by decide +kernel
theorem dX7_ones_26 : decode cX7_ones 26 = .ok (.ireturn, 1) := by decide +kernel
theorem dX7_is_0 : decode cX7_is 0 = .ok (.iload_n 2, 1) := by decide +kernel
theorem dX7_is_1 : decode cX7_is 1 = .ok (.i2l, 1) := by decide +kernel
theorem dX7_is_2 : decode cX7_is 2 = .ok (.lconst 0, 1) := by decide +kernel
theorem dX7_is_3 : decode cX7_is 3 = .ok (.ldc2_w 42, 3) := by decide +kernel
theorem dX7_is_6 : decode cX7_is 6 = .ok (.invokestatic 44, 3) := by decide +kernel
theorem dX7_is_9 : decode cX7_is 9 = .ok (.ifCond .eq 34, 3) := by decide +kernel
theorem dX7_is_12 : decode cX7_is 12 = .ok (.iload_n 3, 1) := by decide +kernel
theorem dX7_is_13 : decode cX7_is 13 = .ok (.i2l, 1) := by decide +kernel
theorem dX7_is_14 : decode cX7_is 14 = .ok (.lconst 0, 1) := by decide +kernel
theorem dX7_is_15 : decode cX7_is 15 = .ok (.ldc2_w 42, 3) := by decide +kernel
theorem dX7_is_18 : decode cX7_is 18 = .ok (.invokestatic 44, 3) := by decide +kernel
theorem dX7_is_21 : decode cX7_is 21 = .ok (.ifCond .eq 22, 3) := by decide +kernel
theorem dX7_is_24 : decode cX7_is 24 = .ok (.lload_n 0, 1) := by decide +kernel
theorem dX7_is_25 : decode cX7_is 25 = .ok (.bipush 8, 2) := by decide +kernel
theorem dX7_is_27 : decode cX7_is 27 = .ok (.iload_n 3, 1) := by decide +kernel
theorem dX7_is_28 : decode cX7_is 28 = .ok (.imul, 1) := by decide +kernel
theorem dX7_is_29 : decode cX7_is 29 = .ok (.iload_n 2, 1) := by decide +kernel
theorem dX7_is_30 : decode cX7_is 30 = .ok (.iadd, 1) := by decide +kernel
theorem dX7_is_31 : decode cX7_is 31 = .ok (.lushr, 1) := by decide +kernel
theorem dX7_is_32 : decode cX7_is 32 = .ok (.lconst 1, 1) := by decide +kernel
theorem dX7_is_33 : decode cX7_is 33 = .ok (.land, 1) := by decide +kernel
theorem dX7_is_34 : decode cX7_is 34 = .ok (.lconst 1, 1) := by decide +kernel
theorem dX7_is_35 : decode cX7_is 35 = .ok (.lcmp, 1) := by decide +kernel
theorem dX7_is_36 : decode cX7_is 36 = .ok (.ifCond .ne 7, 3) := by decide +kernel
theorem dX7_is_39 : decode cX7_is 39 = .ok (.iconst 1, 1) := by decide +kernel
theorem dX7_is_40 : decode cX7_is 40 = .ok (.goto 4, 3) := by decide +kernel
theorem dX7_is_43 : decode cX7_is 43 = .ok (.iconst 0, 1) := by decide +kernel
theorem dX7_is_44 : decode cX7_is 44 = .ok (.ireturn, 1) := by decide +kernel
theorem dX7_widthAt_0 : decode cX7_widthAt 0 = .ok (.bipush 8, 2) := by decide +kernel
theorem dX7_widthAt_2 : decode cX7_widthAt 2 = .ok (.iload_n 0, 1) := by decide +kernel
theorem dX7_widthAt_3 : decode cX7_widthAt 3 = .ok (.ishr, 1) := by decide +kernel
theorem dX7_widthAt_4 : decode cX7_widthAt 4 = .ok (.ireturn, 1) := by decide +kernel
theorem dX7_leftOf_0 : decode cX7_leftOf 0 = .ok (.iconst 0, 1) := by decide +kernel
theorem dX7_leftOf_1 : decode cX7_leftOf 1 = .ok (.istore_n 2, 1) := by decide +kernel
theorem dX7_leftOf_2 : decode cX7_leftOf 2 = .ok (.iload_n 1, 1) := by decide +kernel
theorem dX7_leftOf_3 : decode cX7_leftOf 3 = .ok (.istore_n 3, 1) := by decide +kernel
theorem dX7_leftOf_4 : decode cX7_leftOf 4 = .ok (.iload_n 0, 1) := by decide +kernel
theorem dX7_leftOf_5 : decode cX7_leftOf 5 = .ok (.istore 4, 2) := by decide +kernel
theorem dX7_leftOf_7 : decode cX7_leftOf 7 = .ok (.iload 4, 2) := by decide +kernel
theorem dX7_leftOf_9 : decode cX7_leftOf 9 = .ok (.ifCond .le 25, 3) := by decide +kernel
theorem dX7_leftOf_12 : decode cX7_leftOf 12 = .ok (.iload_n 2, 1) := by decide +kernel
theorem dX7_leftOf_13 : decode cX7_leftOf 13 = .ok (.iload_n 3, 1) := by decide +kernel
theorem dX7_leftOf_14 : decode cX7_leftOf 14 = .ok (.iconst 2, 1) := by decide +kernel
theorem dX7_leftOf_15 : decode cX7_leftOf 15 = .ok (.irem, 1) := by decide +kernel
theorem dX7_leftOf_16 : decode cX7_leftOf 16 = .ok (.iload 4, 2) := by decide +kernel
theorem dX7_leftOf_18 : decode cX7_leftOf 18 = .ok (.invokestatic 48, 3) := by decide +kernel
theorem dX7_leftOf_21 : decode cX7_leftOf 21 = .ok (.imul, 1) := by decide +kernel
theorem dX7_leftOf_22 : decode cX7_leftOf 22 = .ok (.iadd, 1) := by decide +kernel
theorem dX7_leftOf_23 : decode cX7_leftOf 23 = .ok (.istore_n 2, 1) := by decide +kernel
theorem dX7_leftOf_24 : decode cX7_leftOf 24 = .ok (.iload_n 3, 1) := by decide +kernel
theorem dX7_leftOf_25 : decode cX7_leftOf 25 = .ok (.iconst 4, 1) := by decide +kernel
theorem dX7_leftOf_26 : decode cX7_leftOf 26 = .ok (.idiv, 1) := by decide +kernel
theorem dX7_leftOf_27 : decode cX7_leftOf 27 = .ok (.istore_n 3, 1) := by decide +kernel
theorem dX7_leftOf_28 : decode cX7_leftOf 28 = .ok (.iinc 4 (-1), 3) := by decide +kernel
theorem dX7_leftOf_31 : decode cX7_leftOf 31 = .ok (.goto (-24), 3) := by decide +kernel
theorem dX7_leftOf_34 : decode cX7_leftOf 34 = .ok (.iload_n 2, 1) := by decide +kernel
theorem dX7_leftOf_35 : decode cX7_leftOf 35 = .ok (.ireturn, 1) := by decide +kernel
theorem dX7_lowOf_0 : decode cX7_lowOf 0 = .ok (.iconst 0, 1) := by decide +kernel
theorem dX7_lowOf_1 : decode cX7_lowOf 1 = .ok (.istore_n 2, 1) := by decide +kernel
theorem dX7_lowOf_2 : decode cX7_lowOf 2 = .ok (.iload_n 1, 1) := by decide +kernel
theorem dX7_lowOf_3 : decode cX7_lowOf 3 = .ok (.istore_n 3, 1) := by decide +kernel
theorem dX7_lowOf_4 : decode cX7_lowOf 4 = .ok (.iload_n 0, 1) := by decide +kernel
theorem dX7_lowOf_5 : decode cX7_lowOf 5 = .ok (.istore 4, 2) := by decide +kernel
theorem dX7_lowOf_7 : decode cX7_lowOf 7 = .ok (.iload 4, 2) := by decide +kernel
theorem dX7_lowOf_9 : decode cX7_lowOf 9 = .ok (.ifCond .le 27, 3) := by decide +kernel
theorem dX7_lowOf_12 : decode cX7_lowOf 12 = .ok (.iload_n 2, 1) := by decide +kernel
theorem dX7_lowOf_13 : decode cX7_lowOf 13 = .ok (.iload_n 3, 1) := by decide +kernel
theorem dX7_lowOf_14 : decode cX7_lowOf 14 = .ok (.iconst 4, 1) := by decide +kernel
theorem dX7_lowOf_15 : decode cX7_lowOf 15 = .ok (.irem, 1) := by decide +kernel
theorem dX7_lowOf_16 : decode cX7_lowOf 16 = .ok (.iconst 2, 1) := by decide +kernel
theorem dX7_lowOf_17 : decode cX7_lowOf 17 = .ok (.idiv, 1) := by decide +kernel
theorem dX7_lowOf_18 : decode cX7_lowOf 18 = .ok (.iload 4, 2) := by decide +kernel
theorem dX7_lowOf_20 : decode cX7_lowOf 20 = .ok (.invokestatic 48, 3) := by decide +kernel
theorem dX7_lowOf_23 : decode cX7_lowOf 23 = .ok (.imul, 1) := by decide +kernel
theorem dX7_lowOf_24 : decode cX7_lowOf 24 = .ok (.iadd, 1) := by decide +kernel
theorem dX7_lowOf_25 : decode cX7_lowOf 25 = .ok (.istore_n 2, 1) := by decide +kernel
theorem dX7_lowOf_26 : decode cX7_lowOf 26 = .ok (.iload_n 3, 1) := by decide +kernel
theorem dX7_lowOf_27 : decode cX7_lowOf 27 = .ok (.iconst 4, 1) := by decide +kernel
theorem dX7_lowOf_28 : decode cX7_lowOf 28 = .ok (.idiv, 1) := by decide +kernel
theorem dX7_lowOf_29 : decode cX7_lowOf 29 = .ok (.istore_n 3, 1) := by decide +kernel
theorem dX7_lowOf_30 : decode cX7_lowOf 30 = .ok (.iinc 4 (-1), 3) := by decide +kernel
theorem dX7_lowOf_33 : decode cX7_lowOf 33 = .ok (.goto (-26), 3) := by decide +kernel
theorem dX7_lowOf_36 : decode cX7_lowOf 36 = .ok (.iload_n 2, 1) := by decide +kernel
theorem dX7_lowOf_37 : decode cX7_lowOf 37 = .ok (.ireturn, 1) := by decide +kernel
theorem dX7_tells_0 : decode cX7_tells 0 = .ok (.iload_n 0, 1) := by decide +kernel
theorem dX7_tells_1 : decode cX7_tells 1 = .ok (.bipush 98, 2) := by decide +kernel
theorem dX7_tells_3 : decode cX7_tells 3 = .ok (.if_icmp .eq 29, 3) := by decide +kernel
theorem dX7_tells_6 : decode cX7_tells 6 = .ok (.iload_n 0, 1) := by decide +kernel
theorem dX7_tells_7 : decode cX7_tells 7 = .ok (.bipush 103, 2) := by decide +kernel
theorem dX7_tells_9 : decode cX7_tells 9 = .ok (.if_icmp .ne 11, 3) := by decide +kernel
theorem dX7_tells_12 : decode cX7_tells 12 = .ok (.iload_n 1, 1) := by decide +kernel
theorem dX7_tells_13 : decode cX7_tells 13 = .ok (.iload_n 2, 1) := by decide +kernel
theorem dX7_tells_14 : decode cX7_tells 14 = .ok (.iadd, 1) := by decide +kernel
theorem dX7_tells_15 : decode cX7_tells 15 = .ok (.iconst 2, 1) := by decide +kernel
theorem dX7_tells_16 : decode cX7_tells 16 = .ok (.irem, 1) := by decide +kernel
theorem dX7_tells_17 : decode cX7_tells 17 = .ok (.ifCond .eq 15, 3) := by decide +kernel
theorem dX7_tells_20 : decode cX7_tells 20 = .ok (.iload_n 0, 1) := by decide +kernel
theorem dX7_tells_21 : decode cX7_tells 21 = .ok (.bipush 115, 2) := by decide +kernel
theorem dX7_tells_23 : decode cX7_tells 23 = .ok (.if_icmp .ne 13, 3) := by decide +kernel
theorem dX7_tells_26 : decode cX7_tells 26 = .ok (.iload_n 2, 1) := by decide +kernel
theorem dX7_tells_27 : decode cX7_tells 27 = .ok (.iconst 2, 1) := by decide +kernel
theorem dX7_tells_28 : decode cX7_tells 28 = .ok (.irem, 1) := by decide +kernel
theorem dX7_tells_29 : decode cX7_tells 29 = .ok (.ifCond .ne 7, 3) := by decide +kernel
theorem dX7_tells_32 : decode cX7_tells 32 = .ok (.iconst 1, 1) := by decide +kernel
theorem dX7_tells_33 : decode cX7_tells 33 = .ok (.goto 4, 3) := by decide +kernel
theorem dX7_tells_36 : decode cX7_tells 36 = .ok (.iconst 0, 1) := by decide +kernel
theorem dX7_tells_37 : decode cX7_tells 37 = .ok (.ireturn, 1) := by decide +kernel
theorem dX7_maskOf_0 : decode cX7_maskOf 0 = .ok (.iload_n 0, 1) := by decide +kernel
theorem dX7_maskOf_1 : decode cX7_maskOf 1 = .ok (.iload_n 1, 1) := by decide +kernel
theorem dX7_maskOf_2 : decode cX7_maskOf 2 = .ok (.bipush 98, 2) := by decide +kernel
theorem dX7_maskOf_4 : decode cX7_maskOf 4 = .ok (.invokestatic 52, 3) := by decide +kernel
theorem dX7_maskOf_7 : decode cX7_maskOf 7 = .ok (.lreturn, 1) := by decide +kernel
theorem dX7_paintOf_0 : decode cX7_paintOf 0 = .ok (.lconst 0, 1) := by decide +kernel
theorem dX7_paintOf_1 : decode cX7_paintOf 1 = .ok (.lstore_n 3, 1) := by decide +kernel
theorem dX7_paintOf_2 : decode cX7_paintOf 2 = .ok (.iload_n 0, 1) := by decide +kernel
theorem dX7_paintOf_3 : decode cX7_paintOf 3 = .ok (.iload_n 1, 1) := by decide +kernel
theorem dX7_paintOf_4 : decode cX7_paintOf 4 = .ok (.invokestatic 56, 3) := by decide +kernel
theorem dX7_paintOf_7 : decode cX7_paintOf 7 = .ok (.istore 5, 2) := by decide +kernel
theorem dX7_paintOf_9 : decode cX7_paintOf 9 = .ok (.iload_n 0, 1) := by decide +kernel
theorem dX7_paintOf_10 : decode cX7_paintOf 10 = .ok (.iload_n 1, 1) := by decide +kernel
theorem dX7_paintOf_11 : decode cX7_paintOf 11 = .ok (.invokestatic 60, 3) := by decide +kernel
theorem dX7_paintOf_14 : decode cX7_paintOf 14 = .ok (.istore 6, 2) := by decide +kernel
theorem dX7_paintOf_16 : decode cX7_paintOf 16 = .ok (.iload 6, 2) := by decide +kernel
theorem dX7_paintOf_18 : decode cX7_paintOf 18 = .ok (.istore 7, 2) := by decide +kernel
theorem dX7_paintOf_20 : decode cX7_paintOf 20 = .ok (.iload 7, 2) := by decide +kernel
theorem dX7_paintOf_22 : decode cX7_paintOf 22 = .ok (.iload 6, 2) := by decide +kernel
theorem dX7_paintOf_24 : decode cX7_paintOf 24 = .ok (.iload_n 0, 1) := by decide +kernel
theorem dX7_paintOf_25 : decode cX7_paintOf 25 = .ok (.invokestatic 48, 3) := by decide +kernel
theorem dX7_paintOf_28 : decode cX7_paintOf 28 = .ok (.iadd, 1) := by decide +kernel
theorem dX7_paintOf_29 : decode cX7_paintOf 29 = .ok (.if_icmp .ge 59, 3) := by decide +kernel
theorem dX7_paintOf_32 : decode cX7_paintOf 32 = .ok (.iload 5, 2) := by decide +kernel
theorem dX7_paintOf_34 : decode cX7_paintOf 34 = .ok (.istore 8, 2) := by decide +kernel
theorem dX7_paintOf_36 : decode cX7_paintOf 36 = .ok (.iload 8, 2) := by decide +kernel
theorem dX7_paintOf_38 : decode cX7_paintOf 38 = .ok (.iload 5, 2) := by decide +kernel
theorem dX7_paintOf_40 : decode cX7_paintOf 40 = .ok (.iload_n 0, 1) := by decide +kernel
theorem dX7_paintOf_41 : decode cX7_paintOf 41 = .ok (.invokestatic 48, 3) := by decide +kernel
theorem dX7_paintOf_44 : decode cX7_paintOf 44 = .ok (.iadd, 1) := by decide +kernel
theorem dX7_paintOf_45 : decode cX7_paintOf 45 = .ok (.if_icmp .ge 37, 3) := by decide +kernel
theorem dX7_paintOf_48 : decode cX7_paintOf 48 = .ok (.lload_n 3, 1) := by decide +kernel
theorem dX7_paintOf_49 : decode cX7_paintOf 49 = .ok (.iload_n 2, 1) := by decide +kernel
theorem dX7_paintOf_50 : decode cX7_paintOf 50 = .ok (.iload 8, 2) := by decide +kernel
theorem dX7_paintOf_52 : decode cX7_paintOf 52 = .ok (.iload 7, 2) := by decide +kernel
theorem dX7_paintOf_54 : decode cX7_paintOf 54 = .ok (.invokestatic 63, 3) := by decide +kernel
theorem dX7_paintOf_57 : decode cX7_paintOf 57 = .ok (.ifCond .eq 16, 3) := by decide +kernel
theorem dX7_paintOf_60 : decode cX7_paintOf 60 = .ok (.lconst 1, 1) := by decide +kernel
theorem dX7_paintOf_61 : decode cX7_paintOf 61 = .ok (.bipush 8, 2) := by decide +kernel
theorem dX7_paintOf_63 : decode cX7_paintOf 63 = .ok (.iload 7, 2) := by decide +kernel
theorem dX7_paintOf_65 : decode cX7_paintOf 65 = .ok (.imul, 1) := by decide +kernel
theorem dX7_paintOf_66 : decode cX7_paintOf 66 = .ok (.iload 8, 2) := by decide +kernel
theorem dX7_paintOf_68 : decode cX7_paintOf 68 = .ok (.iadd, 1) := by decide +kernel
theorem dX7_paintOf_69 : decode cX7_paintOf 69 = .ok (.lshl, 1) := by decide +kernel
theorem dX7_paintOf_70 : decode cX7_paintOf 70 = .ok (.goto 4, 3) := by decide +kernel
theorem dX7_paintOf_73 : decode cX7_paintOf 73 = .ok (.lconst 0, 1) := by decide +kernel
theorem dX7_paintOf_74 : decode cX7_paintOf 74 = .ok (.lor, 1) := by decide +kernel
theorem dX7_paintOf_75 : decode cX7_paintOf 75 = .ok (.lstore_n 3, 1) := by decide +kernel
theorem dX7_paintOf_76 : decode cX7_paintOf 76 = .ok (.iinc 8 1, 3) := by decide +kernel
theorem dX7_paintOf_79 : decode cX7_paintOf 79 = .ok (.goto (-43), 3) := by decide +kernel
theorem dX7_paintOf_82 : decode cX7_paintOf 82 = .ok (.iinc 7 1, 3) := by decide +kernel
theorem dX7_paintOf_85 : decode cX7_paintOf 85 = .ok (.goto (-65), 3) := by decide +kernel
theorem dX7_paintOf_88 : decode cX7_paintOf 88 = .ok (.lload_n 3, 1) := by decide +kernel
theorem dX7_paintOf_89 : decode cX7_paintOf 89 = .ok (.lreturn, 1) := by decide +kernel
theorem dX7_isLeaf_0 : decode cX7_isLeaf 0 = .ok (.iload_n 0, 1) := by decide +kernel
theorem dX7_isLeaf_1 : decode cX7_isLeaf 1 = .ok (.bipush 98, 2) := by decide +kernel
theorem dX7_isLeaf_3 : decode cX7_isLeaf 3 = .ok (.if_icmp .eq 21, 3) := by decide +kernel
theorem dX7_isLeaf_6 : decode cX7_isLeaf 6 = .ok (.iload_n 0, 1) := by decide +kernel
theorem dX7_isLeaf_7 : decode cX7_isLeaf 7 = .ok (.bipush 119, 2) := by decide +kernel
theorem dX7_isLeaf_9 : decode cX7_isLeaf 9 = .ok (.if_icmp .eq 15, 3) := by decide +kernel
theorem dX7_isLeaf_12 : decode cX7_isLeaf 12 = .ok (.iload_n 0, 1) := by decide +kernel
theorem dX7_isLeaf_13 : decode cX7_isLeaf 13 = .ok (.bipush 103, 2) := by decide +kernel
theorem dX7_isLeaf_15 : decode cX7_isLeaf 15 = .ok (.if_icmp .eq 9, 3) := by decide +kernel
theorem dX7_isLeaf_18 : decode cX7_isLeaf 18 = .ok (.iload_n 0, 1) := by decide +kernel
theorem dX7_isLeaf_19 : decode cX7_isLeaf 19 = .ok (.bipush 115, 2) := by decide +kernel
theorem dX7_isLeaf_21 : decode cX7_isLeaf 21 = .ok (.if_icmp .ne 7, 3) := by decide +kernel
theorem dX7_isLeaf_24 : decode cX7_isLeaf 24 = .ok (.iconst 1, 1) := by decide +kernel
theorem dX7_isLeaf_25 : decode cX7_isLeaf 25 = .ok (.goto 4, 3) := by decide +kernel
theorem dX7_isLeaf_28 : decode cX7_isLeaf 28 = .ok (.iconst 0, 1) := by decide +kernel
theorem dX7_isLeaf_29 : decode cX7_isLeaf 29 = .ok (.ireturn, 1) := by decide +kernel
theorem dX7_write_0 : decode cX7_write 0 = .ok (.iload_n 1, 1) := by decide +kernel
theorem dX7_write_1 : decode cX7_write 1 = .ok (.i2l, 1) := by decide +kernel
theorem dX7_write_2 : decode cX7_write 2 = .ok (.lconst 0, 1) := by decide +kernel
theorem dX7_write_3 : decode cX7_write 3 = .ok (.ldc2_w 67, 3) := by decide +kernel
theorem dX7_write_6 : decode cX7_write 6 = .ok (.invokestatic 44, 3) := by decide +kernel
theorem dX7_write_9 : decode cX7_write 9 = .ok (.ifCond .ne 6, 3) := by decide +kernel
theorem dX7_write_12 : decode cX7_write 12 = .ok (.bipush (-2), 2) := by decide +kernel
theorem dX7_write_14 : decode cX7_write 14 = .ok (.ireturn, 1) := by decide +kernel
theorem dX7_write_15 : decode cX7_write 15 = .ok (.aload_n 0, 1) := by decide +kernel
theorem dX7_write_16 : decode cX7_write 16 = .ok (.getfield 69, 3) := by decide +kernel
theorem dX7_write_19 : decode cX7_write 19 = .ok (.bipush 64, 2) := by decide +kernel
theorem dX7_write_21 : decode cX7_write 21 = .ok (.if_icmp .ne 6, 3) := by decide +kernel
theorem dX7_write_24 : decode cX7_write 24 = .ok (.bipush (-4), 2) := by decide +kernel
theorem dX7_write_26 : decode cX7_write 26 = .ok (.ireturn, 1) := by decide +kernel
theorem dX7_write_27 : decode cX7_write 27 = .ok (.aload_n 0, 1) := by decide +kernel
theorem dX7_write_28 : decode cX7_write 28 = .ok (.getfield 7, 3) := by decide +kernel
theorem dX7_write_31 : decode cX7_write 31 = .ok (.aload_n 0, 1) := by decide +kernel
theorem dX7_write_32 : decode cX7_write 32 = .ok (.getfield 69, 3) := by decide +kernel
theorem dX7_write_35 : decode cX7_write 35 = .ok (.iload_n 1, 1) := by decide +kernel
theorem dX7_write_36 : decode cX7_write 36 = .ok (.iastore, 1) := by decide +kernel
theorem dX7_write_37 : decode cX7_write 37 = .ok (.aload_n 0, 1) := by decide +kernel
theorem dX7_write_38 : decode cX7_write 38 = .ok (.dup, 1) := by decide +kernel
theorem dX7_write_39 : decode cX7_write 39 = .ok (.getfield 69, 3) := by decide +kernel
theorem dX7_write_42 : decode cX7_write 42 = .ok (.iconst 1, 1) := by decide +kernel
theorem dX7_write_43 : decode cX7_write 43 = .ok (.iadd, 1) := by decide +kernel
theorem dX7_write_44 : decode cX7_write 44 = .ok (.putfield 69, 3) := by decide +kernel
theorem dX7_write_47 : decode cX7_write 47 = .ok (.aload_n 0, 1) := by decide +kernel
theorem dX7_write_48 : decode cX7_write 48 = .ok (.getfield 69, 3) := by decide +kernel
theorem dX7_write_51 : decode cX7_write 51 = .ok (.ireturn, 1) := by decide +kernel
theorem dX7_wipe_0 : decode cX7_wipe 0 = .ok (.aload_n 0, 1) := by decide +kernel
theorem dX7_wipe_1 : decode cX7_wipe 1 = .ok (.getfield 69, 3) := by decide +kernel
theorem dX7_wipe_4 : decode cX7_wipe 4 = .ok (.istore_n 1, 1) := by decide +kernel
theorem dX7_wipe_5 : decode cX7_wipe 5 = .ok (.aload_n 0, 1) := by decide +kernel
theorem dX7_wipe_6 : decode cX7_wipe 6 = .ok (.iconst 0, 1) := by decide +kernel
theorem dX7_wipe_7 : decode cX7_wipe 7 = .ok (.putfield 69, 3) := by decide +kernel
theorem dX7_wipe_10 : decode cX7_wipe 10 = .ok (.iload_n 1, 1) := by decide +kernel
theorem dX7_wipe_11 : decode cX7_wipe 11 = .ok (.ireturn, 1) := by decide +kernel
theorem dX7_goOn_0 : decode cX7_goOn 0 = .ok (.aload_n 0, 1) := by decide +kernel
theorem dX7_goOn_1 : decode cX7_goOn 1 = .ok (.getfield 73, 3) := by decide +kernel
theorem dX7_goOn_4 : decode cX7_goOn 4 = .ok (.ifCond .le 36, 3) := by decide +kernel
theorem dX7_goOn_7 : decode cX7_goOn 7 = .ok (.aload_n 0, 1) := by decide +kernel
theorem dX7_goOn_8 : decode cX7_goOn 8 = .ok (.getfield 76, 3) := by decide +kernel
theorem dX7_goOn_11 : decode cX7_goOn 11 = .ok (.iconst 4, 1) := by decide +kernel
theorem dX7_goOn_12 : decode cX7_goOn 12 = .ok (.irem, 1) := by decide +kernel
theorem dX7_goOn_13 : decode cX7_goOn 13 = .ok (.iconst 3, 1) := by decide +kernel
theorem dX7_goOn_14 : decode cX7_goOn 14 = .ok (.if_icmp .ne 26, 3) := by decide +kernel
theorem dX7_goOn_17 : decode cX7_goOn 17 = .ok (.aload_n 0, 1) := by decide +kernel
theorem dX7_goOn_18 : decode cX7_goOn 18 = .ok (.dup, 1) := by decide +kernel
theorem dX7_goOn_19 : decode cX7_goOn 19 = .ok (.getfield 73, 3) := by decide +kernel
theorem dX7_goOn_22 : decode cX7_goOn 22 = .ok (.iconst 1, 1) := by decide +kernel
theorem dX7_goOn_23 : decode cX7_goOn 23 = .ok (.isub, 1) := by decide +kernel
theorem dX7_goOn_24 : decode cX7_goOn 24 = .ok (.putfield 73, 3) := by decide +kernel
theorem dX7_goOn_27 : decode cX7_goOn 27 = .ok (.aload_n 0, 1) := by decide +kernel
theorem dX7_goOn_28 : decode cX7_goOn 28 = .ok (.dup, 1) := by decide +kernel
theorem dX7_goOn_29 : decode cX7_goOn 29 = .ok (.getfield 76, 3) := by decide +kernel
theorem dX7_goOn_32 : decode cX7_goOn 32 = .ok (.iconst 4, 1) := by decide +kernel
theorem dX7_goOn_33 : decode cX7_goOn 33 = .ok (.idiv, 1) := by decide +kernel
theorem dX7_goOn_34 : decode cX7_goOn 34 = .ok (.putfield 76, 3) := by decide +kernel
theorem dX7_goOn_37 : decode cX7_goOn 37 = .ok (.goto (-37), 3) := by decide +kernel
theorem dX7_goOn_40 : decode cX7_goOn 40 = .ok (.aload_n 0, 1) := by decide +kernel
theorem dX7_goOn_41 : decode cX7_goOn 41 = .ok (.getfield 73, 3) := by decide +kernel
theorem dX7_goOn_44 : decode cX7_goOn 44 = .ok (.ifCond .ne 12, 3) := by decide +kernel
theorem dX7_goOn_47 : decode cX7_goOn 47 = .ok (.aload_n 0, 1) := by decide +kernel
theorem dX7_goOn_48 : decode cX7_goOn 48 = .ok (.bipush (-9), 2) := by decide +kernel
theorem dX7_goOn_50 : decode cX7_goOn 50 = .ok (.putfield 73, 3) := by decide +kernel
theorem dX7_goOn_53 : decode cX7_goOn 53 = .ok (.goto 13, 3) := by decide +kernel
theorem dX7_goOn_56 : decode cX7_goOn 56 = .ok (.aload_n 0, 1) := by decide +kernel
theorem dX7_goOn_57 : decode cX7_goOn 57 = .ok (.dup, 1) := by decide +kernel
theorem dX7_goOn_58 : decode cX7_goOn 58 = .ok (.getfield 76, 3) := by decide +kernel
theorem dX7_goOn_61 : decode cX7_goOn 61 = .ok (.iconst 1, 1) := by decide +kernel
theorem dX7_goOn_62 : decode cX7_goOn 62 = .ok (.iadd, 1) := by decide +kernel
theorem dX7_goOn_63 : decode cX7_goOn 63 = .ok (.putfield 76, 3) := by decide +kernel
theorem dX7_goOn_66 : decode cX7_goOn 66 = .ok (.return_, 1) := by decide +kernel
theorem dX7_readText_0 : decode cX7_readText 0 = .ok (.aload_n 0, 1) := by decide +kernel
theorem dX7_readText_1 : decode cX7_readText 1 = .ok (.iconst 0, 1) := by decide +kernel
theorem dX7_readText_2 : decode cX7_readText 2 = .ok (.putfield 73, 3) := by decide +kernel
theorem dX7_readText_5 : decode cX7_readText 5 = .ok (.aload_n 0, 1) := by decide +kernel
theorem dX7_readText_6 : decode cX7_readText 6 = .ok (.iconst 0, 1) := by decide +kernel
theorem dX7_readText_7 : decode cX7_readText 7 = .ok (.putfield 76, 3) := by decide +kernel
theorem dX7_readText_10 : decode cX7_readText 10 = .ok (.aload_n 0, 1) := by decide +kernel
theorem dX7_readText_11 : decode cX7_readText 11 = .ok (.lconst 0, 1) := by decide +kernel
theorem dX7_readText_12 : decode cX7_readText 12 = .ok (.putfield 79, 3) := by decide +kernel
theorem dX7_readText_15 : decode cX7_readText 15 = .ok (.iconst 0, 1) := by decide +kernel
theorem dX7_readText_16 : decode cX7_readText 16 = .ok (.istore_n 1, 1) := by decide +kernel
theorem dX7_readText_17 : decode cX7_readText 17 = .ok (.iload_n 1, 1) := by decide +kernel
theorem dX7_readText_18 : decode cX7_readText 18 = .ok (.aload_n 0, 1) := by decide +kernel
theorem dX7_readText_19 : decode cX7_readText 19 = .ok (.getfield 69, 3) := by decide +kernel
theorem dX7_readText_22 : decode cX7_readText 22 = .ok (.if_icmp .ge 125, 3) := by decide +kernel
theorem dX7_readText_25 : decode cX7_readText 25 = .ok (.aload_n 0, 1) := by decide +kernel
theorem dX7_readText_26 : decode cX7_readText 26 = .ok (.getfield 7, 3) := by decide +kernel
theorem dX7_readText_29 : decode cX7_readText 29 = .ok (.iload_n 1, 1) := by decide +kernel
theorem dX7_readText_30 : decode cX7_readText 30 = .ok (.iaload, 1) := by decide +kernel
theorem dX7_readText_31 : decode cX7_readText 31 = .ok (.bipush 113, 2) := by decide +kernel
theorem dX7_readText_33 : decode cX7_readText 33 = .ok (.if_icmp .ne 22, 3) := by decide +kernel
theorem dX7_readText_36 : decode cX7_readText 36 = .ok (.aload_n 0, 1) := by decide +kernel
theorem dX7_readText_37 : decode cX7_readText 37 = .ok (.getfield 73, 3) := by decide +kernel
theorem dX7_readText_40 : decode cX7_readText 40 = .ok (.i2l, 1) := by decide +kernel
theorem dX7_readText_41 : decode cX7_readText 41 = .ok (.lconst 0, 1) := by decide +kernel
theorem dX7_readText_42 : decode cX7_readText 42 = .ok (.ldc2_w 83, 3) := by decide +kernel
theorem dX7_readText_45 : decode cX7_readText 45 = .ok (.invokestatic 44, 3) := by decide +kernel
theorem dX7_readText_48 : decode cX7_readText 48 = .ok (.ifCond .eq 7, 3) := by decide +kernel
theorem dX7_readText_51 : decode cX7_readText 51 = .ok (.iconst 1, 1) := by decide +kernel
theorem dX7_readText_52 : decode cX7_readText 52 = .ok (.goto 4, 3) := by decide +kernel
theorem dX7_readText_55 : decode cX7_readText 55 = .ok (.iconst 0, 1) := by decide +kernel
theorem dX7_readText_56 : decode cX7_readText 56 = .ok (.istore_n 2, 1) := by decide +kernel
theorem dX7_readText_57 : decode cX7_readText 57 = .ok (.iload_n 2, 1) := by decide +kernel
theorem dX7_readText_58 : decode cX7_readText 58 = .ok (.ifCond .ne 26, 3) := by decide +kernel
theorem dX7_readText_61 : decode cX7_readText 61 = .ok (.aload_n 0, 1) := by decide +kernel
theorem dX7_readText_62 : decode cX7_readText 62 = .ok (.getfield 73, 3) := by decide +kernel
theorem dX7_readText_65 : decode cX7_readText 65 = .ok (.bipush (-9), 2) := by decide +kernel
theorem dX7_readText_67 : decode cX7_readText 67 = .ok (.if_icmp .eq 15, 3) := by decide +kernel
theorem dX7_readText_70 : decode cX7_readText 70 = .ok (.aload_n 0, 1) := by decide +kernel
theorem dX7_readText_71 : decode cX7_readText 71 = .ok (.getfield 7, 3) := by decide +kernel
theorem dX7_readText_74 : decode cX7_readText 74 = .ok (.iload_n 1, 1) := by decide +kernel
theorem dX7_readText_75 : decode cX7_readText 75 = .ok (.iaload, 1) := by decide +kernel
theorem dX7_readText_76 : decode cX7_readText 76 = .ok (.invokestatic 85, 3) := by decide +kernel
theorem dX7_readText_79 : decode cX7_readText 79 = .ok (.ifCond .ne 5, 3) := by decide +kernel
theorem dX7_readText_82 : decode cX7_readText 82 = .ok (.iload_n 1, 1) := by decide +kernel
theorem dX7_readText_83 : decode cX7_readText 83 = .ok (.ireturn, 1) := by decide +kernel
theorem dX7_readText_84 : decode cX7_readText 84 = .ok (.iload_n 2, 1) := by decide +kernel
theorem dX7_readText_85 : decode cX7_readText 85 = .ok (.ifCond .eq 26, 3) := by decide +kernel
theorem dX7_readText_88 : decode cX7_readText 88 = .ok (.aload_n 0, 1) := by decide +kernel
theorem dX7_readText_89 : decode cX7_readText 89 = .ok (.dup, 1) := by decide +kernel
theorem dX7_readText_90 : decode cX7_readText 90 = .ok (.getfield 73, 3) := by decide +kernel
theorem dX7_readText_93 : decode cX7_readText 93 = .ok (.iconst 1, 1) := by decide +kernel
theorem dX7_readText_94 : decode cX7_readText 94 = .ok (.iadd, 1) := by decide +kernel
theorem dX7_readText_95 : decode cX7_readText 95 = .ok (.putfield 73, 3) := by decide +kernel
theorem dX7_readText_98 : decode cX7_readText 98 = .ok (.aload_n 0, 1) := by decide +kernel
theorem dX7_readText_99 : decode cX7_readText 99 = .ok (.dup, 1) := by decide +kernel
theorem dX7_readText_100 : decode cX7_readText 100 = .ok (.getfield 76, 3) := by decide +kernel
theorem dX7_readText_103 : decode cX7_readText 103 = .ok (.iconst 4, 1) := by decide +kernel
theorem dX7_readText_104 : decode cX7_readText 104 = .ok (.imul, 1) := by decide +kernel
theorem dX7_readText_105 : decode cX7_readText 105 = .ok (.putfield 76, 3) := by decide +kernel
theorem dX7_readText_108 : decode cX7_readText 108 = .ok (.goto 33, 3) := by decide +kernel
theorem dX7_readText_111 : decode cX7_readText 111 = .ok (.aload_n 0, 1) := by decide +kernel
theorem dX7_readText_112 : decode cX7_readText 112 = .ok (.dup, 1) := by decide +kernel
theorem dX7_readText_113 : decode cX7_readText 113 = .ok (.getfield 79, 3) := by decide +kernel
theorem dX7_readText_116 : decode cX7_readText 116 = .ok (.aload_n 0, 1) := by decide +kernel
theorem dX7_readText_117 : decode cX7_readText 117 = .ok (.getfield 73, 3) := by decide +kernel
theorem dX7_readText_120 : decode cX7_readText 120 = .ok (.aload_n 0, 1) := by decide +kernel
theorem dX7_readText_121 : decode cX7_readText 121 = .ok (.getfield 76, 3) := by decide +kernel
theorem dX7_readText_124 : decode cX7_readText 124 = .ok (.aload_n 0, 1) := by decide +kernel
theorem dX7_readText_125 : decode cX7_readText 125 = .ok (.getfield 7, 3) := by decide +kernel
theorem dX7_readText_128 : decode cX7_readText 128 = .ok (.iload_n 1, 1) := by decide +kernel
theorem dX7_readText_129 : decode cX7_readText 129 = .ok (.iaload, 1) := by decide +kernel
theorem dX7_readText_130 : decode cX7_readText 130 = .ok (.invokestatic 52, 3) := by decide +kernel
theorem dX7_readText_133 : decode cX7_readText 133 = .ok (.lor, 1) := by decide +kernel
theorem dX7_readText_134 : decode cX7_readText 134 = .ok (.putfield 79, 3) := by decide +kernel
theorem dX7_readText_137 : decode cX7_readText 137 = .ok (.aload_n 0, 1) := by decide +kernel
theorem dX7_readText_138 : decode cX7_readText 138 = .ok (.invokevirtual 89, 3) := by decide +kernel
theorem dX7_readText_141 : decode cX7_readText 141 = .ok (.iinc 1 1, 3) := by decide +kernel
theorem dX7_readText_144 : decode cX7_readText 144 = .ok (.goto (-127), 3) := by decide +kernel
theorem dX7_readText_147 : decode cX7_readText 147 = .ok (.aload_n 0, 1) := by decide +kernel
theorem dX7_readText_148 : decode cX7_readText 148 = .ok (.getfield 73, 3) := by decide +kernel
theorem dX7_readText_151 : decode cX7_readText 151 = .ok (.bipush (-9), 2) := by decide +kernel
theorem dX7_readText_153 : decode cX7_readText 153 = .ok (.if_icmp .ne 8, 3) := by decide +kernel
theorem dX7_readText_156 : decode cX7_readText 156 = .ok (.bipush (-9), 2) := by decide +kernel
theorem dX7_readText_158 : decode cX7_readText 158 = .ok (.goto 7, 3) := by decide +kernel
theorem dX7_readText_161 : decode cX7_readText 161 = .ok (.aload_n 0, 1) := by decide +kernel
theorem dX7_readText_162 : decode cX7_readText 162 = .ok (.getfield 69, 3) := by decide +kernel
theorem dX7_readText_165 : decode cX7_readText 165 = .ok (.ireturn, 1) := by decide +kernel
theorem dX7_fault_0 : decode cX7_fault 0 = .ok (.aload_n 0, 1) := by decide +kernel
theorem dX7_fault_1 : decode cX7_fault 1 = .ok (.invokevirtual 92, 3) := by decide +kernel
theorem dX7_fault_4 : decode cX7_fault 4 = .ok (.ireturn, 1) := by decide +kernel
theorem dX7_isPicture_0 : decode cX7_isPicture 0 = .ok (.iload_n 0, 1) := by decide +kernel
theorem dX7_isPicture_1 : decode cX7_isPicture 1 = .ok (.i2l, 1) := by decide +kernel
theorem dX7_isPicture_2 : decode cX7_isPicture 2 = .ok (.lconst 0, 1) := by decide +kernel
theorem dX7_isPicture_3 : decode cX7_isPicture 3 = .ok (.ldc2_w 83, 3) := by decide +kernel
theorem dX7_isPicture_6 : decode cX7_isPicture 6 = .ok (.invokestatic 44, 3) := by decide +kernel
theorem dX7_isPicture_9 : decode cX7_isPicture 9 = .ok (.ireturn, 1) := by decide +kernel
theorem dX7_turned_0 : decode cX7_turned 0 = .ok (.lconst 0, 1) := by decide +kernel
theorem dX7_turned_1 : decode cX7_turned 1 = .ok (.lstore_n 2, 1) := by decide +kernel
theorem dX7_turned_2 : decode cX7_turned 2 = .ok (.iconst 0, 1) := by decide +kernel
theorem dX7_turned_3 : decode cX7_turned 3 = .ok (.istore 4, 2) := by decide +kernel
theorem dX7_turned_5 : decode cX7_turned 5 = .ok (.iload 4, 2) := by decide +kernel
theorem dX7_turned_7 : decode cX7_turned 7 = .ok (.bipush 64, 2) := by decide +kernel
theorem dX7_turned_9 : decode cX7_turned 9 = .ok (.if_icmp .ge 54, 3) := by decide +kernel
theorem dX7_turned_12 : decode cX7_turned 12 = .ok (.iload 4, 2) := by decide +kernel
theorem dX7_turned_14 : decode cX7_turned 14 = .ok (.bipush 8, 2) := by decide +kernel
theorem dX7_turned_16 : decode cX7_turned 16 = .ok (.irem, 1) := by decide +kernel
theorem dX7_turned_17 : decode cX7_turned 17 = .ok (.istore 5, 2) := by decide +kernel
theorem dX7_turned_19 : decode cX7_turned 19 = .ok (.iload 4, 2) := by decide +kernel
theorem dX7_turned_21 : decode cX7_turned 21 = .ok (.bipush 8, 2) := by decide +kernel
theorem dX7_turned_23 : decode cX7_turned 23 = .ok (.idiv, 1) := by decide +kernel
theorem dX7_turned_24 : decode cX7_turned 24 = .ok (.istore 6, 2) := by decide +kernel
theorem dX7_turned_26 : decode cX7_turned 26 = .ok (.lload_n 2, 1) := by decide +kernel
theorem dX7_turned_27 : decode cX7_turned 27 = .ok (.lload_n 0, 1) := by decide +kernel
theorem dX7_turned_28 : decode cX7_turned 28 = .ok (.iload 5, 2) := by decide +kernel
theorem dX7_turned_30 : decode cX7_turned 30 = .ok (.iload 6, 2) := by decide +kernel
theorem dX7_turned_32 : decode cX7_turned 32 = .ok (.invokestatic 96, 3) := by decide +kernel
theorem dX7_turned_35 : decode cX7_turned 35 = .ok (.ifCond .eq 19, 3) := by decide +kernel
theorem dX7_turned_38 : decode cX7_turned 38 = .ok (.lconst 1, 1) := by decide +kernel
theorem dX7_turned_39 : decode cX7_turned 39 = .ok (.bipush 8, 2) := by decide +kernel
theorem dX7_turned_41 : decode cX7_turned 41 = .ok (.iload 5, 2) := by decide +kernel
theorem dX7_turned_43 : decode cX7_turned 43 = .ok (.imul, 1) := by decide +kernel
theorem dX7_turned_44 : decode cX7_turned 44 = .ok (.bipush 7, 2) := by decide +kernel
theorem dX7_turned_46 : decode cX7_turned 46 = .ok (.iadd, 1) := by decide +kernel
theorem dX7_turned_47 : decode cX7_turned 47 = .ok (.iload 6, 2) := by decide +kernel
theorem dX7_turned_49 : decode cX7_turned 49 = .ok (.isub, 1) := by decide +kernel
theorem dX7_turned_50 : decode cX7_turned 50 = .ok (.lshl, 1) := by decide +kernel
theorem dX7_turned_51 : decode cX7_turned 51 = .ok (.goto 4, 3) := by decide +kernel
theorem dX7_turned_54 : decode cX7_turned 54 = .ok (.lconst 0, 1) := by decide +kernel
theorem dX7_turned_55 : decode cX7_turned 55 = .ok (.lor, 1) := by decide +kernel
theorem dX7_turned_56 : decode cX7_turned 56 = .ok (.lstore_n 2, 1) := by decide +kernel
theorem dX7_turned_57 : decode cX7_turned 57 = .ok (.iinc 4 1, 3) := by decide +kernel
theorem dX7_turned_60 : decode cX7_turned 60 = .ok (.goto (-55), 3) := by decide +kernel
theorem dX7_turned_63 : decode cX7_turned 63 = .ok (.lload_n 2, 1) := by decide +kernel
theorem dX7_turned_64 : decode cX7_turned 64 = .ok (.lreturn, 1) := by decide +kernel
theorem dX7_flipped_0 : decode cX7_flipped 0 = .ok (.lconst 0, 1) := by decide +kernel
theorem dX7_flipped_1 : decode cX7_flipped 1 = .ok (.lstore_n 2, 1) := by decide +kernel
theorem dX7_flipped_2 : decode cX7_flipped 2 = .ok (.iconst 0, 1) := by decide +kernel
theorem dX7_flipped_3 : decode cX7_flipped 3 = .ok (.istore 4, 2) := by decide +kernel
theorem dX7_flipped_5 : decode cX7_flipped 5 = .ok (.iload 4, 2) := by decide +kernel
theorem dX7_flipped_7 : decode cX7_flipped 7 = .ok (.bipush 64, 2) := by decide +kernel
theorem dX7_flipped_9 : decode cX7_flipped 9 = .ok (.if_icmp .ge 52, 3) := by decide +kernel
theorem dX7_flipped_12 : decode cX7_flipped 12 = .ok (.lload_n 2, 1) := by decide +kernel
theorem dX7_flipped_13 : decode cX7_flipped 13 = .ok (.lload_n 0, 1) := by decide +kernel
theorem dX7_flipped_14 : decode cX7_flipped 14 = .ok (.iload 4, 2) := by decide +kernel
theorem dX7_flipped_16 : decode cX7_flipped 16 = .ok (.bipush 8, 2) := by decide +kernel
theorem dX7_flipped_18 : decode cX7_flipped 18 = .ok (.irem, 1) := by decide +kernel
theorem dX7_flipped_19 : decode cX7_flipped 19 = .ok (.iload 4, 2) := by decide +kernel
theorem dX7_flipped_21 : decode cX7_flipped 21 = .ok (.bipush 8, 2) := by decide +kernel
theorem dX7_flipped_23 : decode cX7_flipped 23 = .ok (.idiv, 1) := by decide +kernel
theorem dX7_flipped_24 : decode cX7_flipped 24 = .ok (.invokestatic 96, 3) := by decide +kernel
theorem dX7_flipped_27 : decode cX7_flipped 27 = .ok (.ifCond .eq 25, 3) := by decide +kernel
theorem dX7_flipped_30 : decode cX7_flipped 30 = .ok (.lconst 1, 1) := by decide +kernel
theorem dX7_flipped_31 : decode cX7_flipped 31 = .ok (.bipush 8, 2) := by decide +kernel
theorem dX7_flipped_33 : decode cX7_flipped 33 = .ok (.iload 4, 2) := by decide +kernel
theorem dX7_flipped_35 : decode cX7_flipped 35 = .ok (.bipush 8, 2) := by decide +kernel
theorem dX7_flipped_37 : decode cX7_flipped 37 = .ok (.idiv, 1) := by decide +kernel
theorem dX7_flipped_38 : decode cX7_flipped 38 = .ok (.imul, 1) := by decide +kernel
theorem dX7_flipped_39 : decode cX7_flipped 39 = .ok (.bipush 7, 2) := by decide +kernel
theorem dX7_flipped_41 : decode cX7_flipped 41 = .ok (.iadd, 1) := by decide +kernel
theorem dX7_flipped_42 : decode cX7_flipped 42 = .ok (.iload 4, 2) := by decide +kernel
theorem dX7_flipped_44 : decode cX7_flipped 44 = .ok (.bipush 8, 2) := by decide +kernel
theorem dX7_flipped_46 : decode cX7_flipped 46 = .ok (.irem, 1) := by decide +kernel
theorem dX7_flipped_47 : decode cX7_flipped 47 = .ok (.isub, 1) := by decide +kernel
theorem dX7_flipped_48 : decode cX7_flipped 48 = .ok (.lshl, 1) := by decide +kernel
theorem dX7_flipped_49 : decode cX7_flipped 49 = .ok (.goto 4, 3) := by decide +kernel
theorem dX7_flipped_52 : decode cX7_flipped 52 = .ok (.lconst 0, 1) := by decide +kernel
theorem dX7_flipped_53 : decode cX7_flipped 53 = .ok (.lor, 1) := by decide +kernel
theorem dX7_flipped_54 : decode cX7_flipped 54 = .ok (.lstore_n 2, 1) := by decide +kernel
theorem dX7_flipped_55 : decode cX7_flipped 55 = .ok (.iinc 4 1, 3) := by decide +kernel
theorem dX7_flipped_58 : decode cX7_flipped 58 = .ok (.goto (-53), 3) := by decide +kernel
theorem dX7_flipped_61 : decode cX7_flipped 61 = .ok (.lload_n 2, 1) := by decide +kernel
theorem dX7_flipped_62 : decode cX7_flipped 62 = .ok (.lreturn, 1) := by decide +kernel
theorem dX7_halved_0 : decode cX7_halved 0 = .ok (.lconst 0, 1) := by decide +kernel
theorem dX7_halved_1 : decode cX7_halved 1 = .ok (.lstore_n 3, 1) := by decide +kernel
theorem dX7_halved_2 : decode cX7_halved 2 = .ok (.iconst 0, 1) := by decide +kernel
theorem dX7_halved_3 : decode cX7_halved 3 = .ok (.istore 5, 2) := by decide +kernel
theorem dX7_halved_5 : decode cX7_halved 5 = .ok (.iload 5, 2) := by decide +kernel
theorem dX7_halved_7 : decode cX7_halved 7 = .ok (.bipush 16, 2) := by decide +kernel
theorem dX7_halved_9 : decode cX7_halved 9 = .ok (.if_icmp .ge 109, 3) := by decide +kernel
theorem dX7_halved_12 : decode cX7_halved 12 = .ok (.iload 5, 2) := by decide +kernel
theorem dX7_halved_14 : decode cX7_halved 14 = .ok (.iconst 4, 1) := by decide +kernel
theorem dX7_halved_15 : decode cX7_halved 15 = .ok (.irem, 1) := by decide +kernel
theorem dX7_halved_16 : decode cX7_halved 16 = .ok (.istore 6, 2) := by decide +kernel
theorem dX7_halved_18 : decode cX7_halved 18 = .ok (.iload 5, 2) := by decide +kernel
theorem dX7_halved_20 : decode cX7_halved 20 = .ok (.iconst 4, 1) := by decide +kernel
theorem dX7_halved_21 : decode cX7_halved 21 = .ok (.idiv, 1) := by decide +kernel
theorem dX7_halved_22 : decode cX7_halved 22 = .ok (.istore 7, 2) := by decide +kernel
theorem dX7_halved_24 : decode cX7_halved 24 = .ok (.iconst 0, 1) := by decide +kernel
theorem dX7_halved_25 : decode cX7_halved 25 = .ok (.istore 8, 2) := by decide +kernel
theorem dX7_halved_27 : decode cX7_halved 27 = .ok (.iconst 0, 1) := by decide +kernel
theorem dX7_halved_28 : decode cX7_halved 28 = .ok (.istore 9, 2) := by decide +kernel
theorem dX7_halved_30 : decode cX7_halved 30 = .ok (.iload 9, 2) := by decide +kernel
theorem dX7_halved_32 : decode cX7_halved 32 = .ok (.iconst 4, 1) := by decide +kernel
theorem dX7_halved_33 : decode cX7_halved 33 = .ok (.if_icmp .ge 44, 3) := by decide +kernel
theorem dX7_halved_36 : decode cX7_halved 36 = .ok (.iload 8, 2) := by decide +kernel
theorem dX7_halved_38 : decode cX7_halved 38 = .ok (.lload_n 0, 1) := by decide +kernel
theorem dX7_halved_39 : decode cX7_halved 39 = .ok (.iconst 2, 1) := by decide +kernel
theorem dX7_halved_40 : decode cX7_halved 40 = .ok (.iload 6, 2) := by decide +kernel
theorem dX7_halved_42 : decode cX7_halved 42 = .ok (.imul, 1) := by decide +kernel
theorem dX7_halved_43 : decode cX7_halved 43 = .ok (.iload 9, 2) := by decide +kernel
theorem dX7_halved_45 : decode cX7_halved 45 = .ok (.iconst 2, 1) := by decide +kernel
theorem dX7_halved_46 : decode cX7_halved 46 = .ok (.irem, 1) := by decide +kernel
theorem dX7_halved_47 : decode cX7_halved 47 = .ok (.iadd, 1) := by decide +kernel
theorem dX7_halved_48 : decode cX7_halved 48 = .ok (.iconst 2, 1) := by decide +kernel
theorem dX7_halved_49 : decode cX7_halved 49 = .ok (.iload 7, 2) := by decide +kernel
theorem dX7_halved_51 : decode cX7_halved 51 = .ok (.imul, 1) := by decide +kernel
theorem dX7_halved_52 : decode cX7_halved 52 = .ok (.iload 9, 2) := by decide +kernel
theorem dX7_halved_54 : decode cX7_halved 54 = .ok (.iconst 2, 1) := by decide +kernel
theorem dX7_halved_55 : decode cX7_halved 55 = .ok (.idiv, 1) := by decide +kernel
theorem dX7_halved_56 : decode cX7_halved 56 = .ok (.iadd, 1) := by decide +kernel
theorem dX7_halved_57 : decode cX7_halved 57 = .ok (.invokestatic 96, 3) := by decide +kernel
theorem dX7_halved_60 : decode cX7_halved 60 = .ok (.ifCond .eq 7, 3) := by decide +kernel
theorem dX7_halved_63 : decode cX7_halved 63 = .ok (.iconst 1, 1) := by decide +kernel
theorem dX7_halved_64 : decode cX7_halved 64 = .ok (.goto 4, 3) := by decide +kernel
theorem dX7_halved_67 : decode cX7_halved 67 = .ok (.iconst 0, 1) := by decide +kernel
theorem dX7_halved_68 : decode cX7_halved 68 = .ok (.iadd, 1) := by decide +kernel
theorem dX7_halved_69 : decode cX7_halved 69 = .ok (.istore 8, 2) := by decide +kernel
theorem dX7_halved_71 : decode cX7_halved 71 = .ok (.iinc 9 1, 3) := by decide +kernel
theorem dX7_halved_74 : decode cX7_halved 74 = .ok (.goto (-44), 3) := by decide +kernel
theorem dX7_halved_77 : decode cX7_halved 77 = .ok (.lload_n 3, 1) := by decide +kernel
theorem dX7_halved_78 : decode cX7_halved 78 = .ok (.iload 8, 2) := by decide +kernel
theorem dX7_halved_80 : decode cX7_halved 80 = .ok (.iconst 1, 1) := by decide +kernel
theorem dX7_halved_81 : decode cX7_halved 81 = .ok (.if_icmp .le 28, 3) := by decide +kernel
theorem dX7_halved_84 : decode cX7_halved 84 = .ok (.lconst 1, 1) := by decide +kernel
theorem dX7_halved_85 : decode cX7_halved 85 = .ok (.bipush 8, 2) := by decide +kernel
theorem dX7_halved_87 : decode cX7_halved 87 = .ok (.iload 7, 2) := by decide +kernel
theorem dX7_halved_89 : decode cX7_halved 89 = .ok (.iconst 4, 1) := by decide +kernel
theorem dX7_halved_90 : decode cX7_halved 90 = .ok (.iload_n 2, 1) := by decide +kernel
theorem dX7_halved_91 : decode cX7_halved 91 = .ok (.iconst 2, 1) := by decide +kernel
theorem dX7_halved_92 : decode cX7_halved 92 = .ok (.idiv, 1) := by decide +kernel
theorem dX7_halved_93 : decode cX7_halved 93 = .ok (.imul, 1) := by decide +kernel
theorem dX7_halved_94 : decode cX7_halved 94 = .ok (.iadd, 1) := by decide +kernel
theorem dX7_halved_95 : decode cX7_halved 95 = .ok (.imul, 1) := by decide +kernel
theorem dX7_halved_96 : decode cX7_halved 96 = .ok (.iload 6, 2) := by decide +kernel
theorem dX7_halved_98 : decode cX7_halved 98 = .ok (.iadd, 1) := by decide +kernel
theorem dX7_halved_99 : decode cX7_halved 99 = .ok (.iconst 4, 1) := by decide +kernel
theorem dX7_halved_100 : decode cX7_halved 100 = .ok (.iload_n 2, 1) := by decide +kernel
theorem dX7_halved_101 : decode cX7_halved 101 = .ok (.iconst 2, 1) := by decide +kernel
theorem dX7_halved_102 : decode cX7_halved 102 = .ok (.irem, 1) := by decide +kernel
theorem dX7_halved_103 : decode cX7_halved 103 = .ok (.imul, 1) := by decide +kernel
theorem dX7_halved_104 : decode cX7_halved 104 = .ok (.iadd, 1) := by decide +kernel
theorem dX7_halved_105 : decode cX7_halved 105 = .ok (.lshl, 1) := by decide +kernel
theorem dX7_halved_106 : decode cX7_halved 106 = .ok (.goto 4, 3) := by decide +kernel
theorem dX7_halved_109 : decode cX7_halved 109 = .ok (.lconst 0, 1) := by decide +kernel
theorem dX7_halved_110 : decode cX7_halved 110 = .ok (.lor, 1) := by decide +kernel
theorem dX7_halved_111 : decode cX7_halved 111 = .ok (.lstore_n 3, 1) := by decide +kernel
theorem dX7_halved_112 : decode cX7_halved 112 = .ok (.iinc 5 1, 3) := by decide +kernel
theorem dX7_halved_115 : decode cX7_halved 115 = .ok (.goto (-110), 3) := by decide +kernel
theorem dX7_halved_118 : decode cX7_halved 118 = .ok (.lload_n 3, 1) := by decide +kernel
theorem dX7_halved_119 : decode cX7_halved 119 = .ok (.lreturn, 1) := by decide +kernel
theorem dX7_grown_0 : decode cX7_grown 0 = .ok (.lconst 0, 1) := by decide +kernel
theorem dX7_grown_1 : decode cX7_grown 1 = .ok (.lstore_n 3, 1) := by decide +kernel
theorem dX7_grown_2 : decode cX7_grown 2 = .ok (.iconst 0, 1) := by decide +kernel
theorem dX7_grown_3 : decode cX7_grown 3 = .ok (.istore 5, 2) := by decide +kernel
theorem dX7_grown_5 : decode cX7_grown 5 = .ok (.iload 5, 2) := by decide +kernel
theorem dX7_grown_7 : decode cX7_grown 7 = .ok (.bipush 64, 2) := by decide +kernel
theorem dX7_grown_9 : decode cX7_grown 9 = .ok (.if_icmp .ge 59, 3) := by decide +kernel
theorem dX7_grown_12 : decode cX7_grown 12 = .ok (.iload 5, 2) := by decide +kernel
theorem dX7_grown_14 : decode cX7_grown 14 = .ok (.bipush 8, 2) := by decide +kernel
theorem dX7_grown_16 : decode cX7_grown 16 = .ok (.irem, 1) := by decide +kernel
theorem dX7_grown_17 : decode cX7_grown 17 = .ok (.iconst 2, 1) := by decide +kernel
theorem dX7_grown_18 : decode cX7_grown 18 = .ok (.idiv, 1) := by decide +kernel
theorem dX7_grown_19 : decode cX7_grown 19 = .ok (.iconst 4, 1) := by decide +kernel
theorem dX7_grown_20 : decode cX7_grown 20 = .ok (.iload_n 2, 1) := by decide +kernel
theorem dX7_grown_21 : decode cX7_grown 21 = .ok (.iconst 2, 1) := by decide +kernel
theorem dX7_grown_22 : decode cX7_grown 22 = .ok (.irem, 1) := by decide +kernel
theorem dX7_grown_23 : decode cX7_grown 23 = .ok (.imul, 1) := by decide +kernel
theorem dX7_grown_24 : decode cX7_grown 24 = .ok (.iadd, 1) := by decide +kernel
theorem dX7_grown_25 : decode cX7_grown 25 = .ok (.istore 6, 2) := by decide +kernel
theorem dX7_grown_27 : decode cX7_grown 27 = .ok (.iload 5, 2) := by decide +kernel
theorem dX7_grown_29 : decode cX7_grown 29 = .ok (.bipush 16, 2) := by decide +kernel
theorem dX7_grown_31 : decode cX7_grown 31 = .ok (.idiv, 1) := by decide +kernel
theorem dX7_grown_32 : decode cX7_grown 32 = .ok (.iconst 4, 1) := by decide +kernel
theorem dX7_grown_33 : decode cX7_grown 33 = .ok (.iload_n 2, 1) := by decide +kernel
theorem dX7_grown_34 : decode cX7_grown 34 = .ok (.iconst 2, 1) := by decide +kernel
theorem dX7_grown_35 : decode cX7_grown 35 = .ok (.idiv, 1) := by decide +kernel
theorem dX7_grown_36 : decode cX7_grown 36 = .ok (.imul, 1) := by decide +kernel
theorem dX7_grown_37 : decode cX7_grown 37 = .ok (.iadd, 1) := by decide +kernel
theorem dX7_grown_38 : decode cX7_grown 38 = .ok (.istore 7, 2) := by decide +kernel
theorem dX7_grown_40 : decode cX7_grown 40 = .ok (.lload_n 3, 1) := by decide +kernel
theorem dX7_grown_41 : decode cX7_grown 41 = .ok (.lload_n 0, 1) := by decide +kernel
theorem dX7_grown_42 : decode cX7_grown 42 = .ok (.iload 6, 2) := by decide +kernel
theorem dX7_grown_44 : decode cX7_grown 44 = .ok (.iload 7, 2) := by decide +kernel
theorem dX7_grown_46 : decode cX7_grown 46 = .ok (.invokestatic 96, 3) := by decide +kernel
theorem dX7_grown_49 : decode cX7_grown 49 = .ok (.ifCond .eq 10, 3) := by decide +kernel
theorem dX7_grown_52 : decode cX7_grown 52 = .ok (.lconst 1, 1) := by decide +kernel
theorem dX7_grown_53 : decode cX7_grown 53 = .ok (.iload 5, 2) := by decide +kernel
theorem dX7_grown_55 : decode cX7_grown 55 = .ok (.lshl, 1) := by decide +kernel
theorem dX7_grown_56 : decode cX7_grown 56 = .ok (.goto 4, 3) := by decide +kernel
theorem dX7_grown_59 : decode cX7_grown 59 = .ok (.lconst 0, 1) := by decide +kernel
theorem dX7_grown_60 : decode cX7_grown 60 = .ok (.lor, 1) := by decide +kernel
theorem dX7_grown_61 : decode cX7_grown 61 = .ok (.lstore_n 3, 1) := by decide +kernel
theorem dX7_grown_62 : decode cX7_grown 62 = .ok (.iinc 5 1, 3) := by decide +kernel
theorem dX7_grown_65 : decode cX7_grown 65 = .ok (.goto (-60), 3) := by decide +kernel
theorem dX7_grown_68 : decode cX7_grown 68 = .ok (.lload_n 3, 1) := by decide +kernel
theorem dX7_grown_69 : decode cX7_grown 69 = .ok (.lreturn, 1) := by decide +kernel
theorem dX7_keepAct_0 : decode cX7_keepAct 0 = .ok (.iconst 0, 1) := by decide +kernel
theorem dX7_keepAct_1 : decode cX7_keepAct 1 = .ok (.istore_n 1, 1) := by decide +kernel
theorem dX7_keepAct_2 : decode cX7_keepAct 2 = .ok (.iload_n 1, 1) := by decide +kernel
theorem dX7_keepAct_3 : decode cX7_keepAct 3 = .ok (.iconst 3, 1) := by decide +kernel
theorem dX7_keepAct_4 : decode cX7_keepAct 4 = .ok (.if_icmp .ge 28, 3) := by decide +kernel
theorem dX7_keepAct_7 : decode cX7_keepAct 7 = .ok (.aload_n 0, 1) := by decide +kernel
theorem dX7_keepAct_8 : decode cX7_keepAct 8 = .ok (.getfield 17, 3) := by decide +kernel
theorem dX7_keepAct_11 : decode cX7_keepAct 11 = .ok (.iconst 3, 1) := by decide +kernel
theorem dX7_keepAct_12 : decode cX7_keepAct 12 = .ok (.aload_n 0, 1) := by decide +kernel
theorem dX7_keepAct_13 : decode cX7_keepAct 13 = .ok (.getfield 100, 3) := by decide +kernel
theorem dX7_keepAct_16 : decode cX7_keepAct 16 = .ok (.imul, 1) := by decide +kernel
theorem dX7_keepAct_17 : decode cX7_keepAct 17 = .ok (.iload_n 1, 1) := by decide +kernel
theorem dX7_keepAct_18 : decode cX7_keepAct 18 = .ok (.iadd, 1) := by decide +kernel
theorem dX7_keepAct_19 : decode cX7_keepAct 19 = .ok (.aload_n 0, 1) := by decide +kernel
theorem dX7_keepAct_20 : decode cX7_keepAct 20 = .ok (.getfield 13, 3) := by decide +kernel
theorem dX7_keepAct_23 : decode cX7_keepAct 23 = .ok (.iload_n 1, 1) := by decide +kernel
theorem dX7_keepAct_24 : decode cX7_keepAct 24 = .ok (.laload, 1) := by decide +kernel
theorem dX7_keepAct_25 : decode cX7_keepAct 25 = .ok (.lastore, 1) := by decide +kernel
theorem dX7_keepAct_26 : decode cX7_keepAct 26 = .ok (.iinc 1 1, 3) := by decide +kernel
theorem dX7_keepAct_29 : decode cX7_keepAct 29 = .ok (.goto (-27), 3) := by decide +kernel
theorem dX7_keepAct_32 : decode cX7_keepAct 32 = .ok (.aload_n 0, 1) := by decide +kernel
theorem dX7_keepAct_33 : decode cX7_keepAct 33 = .ok (.aload_n 0, 1) := by decide +kernel
theorem dX7_keepAct_34 : decode cX7_keepAct 34 = .ok (.getfield 100, 3) := by decide +kernel
theorem dX7_keepAct_37 : decode cX7_keepAct 37 = .ok (.iconst 1, 1) := by decide +kernel
theorem dX7_keepAct_38 : decode cX7_keepAct 38 = .ok (.iadd, 1) := by decide +kernel
theorem dX7_keepAct_39 : decode cX7_keepAct 39 = .ok (.bipush 14, 2) := by decide +kernel
theorem dX7_keepAct_41 : decode cX7_keepAct 41 = .ok (.irem, 1) := by decide +kernel
theorem dX7_keepAct_42 : decode cX7_keepAct 42 = .ok (.putfield 100, 3) := by decide +kernel
theorem dX7_keepAct_45 : decode cX7_keepAct 45 = .ok (.aload_n 0, 1) := by decide +kernel
theorem dX7_keepAct_46 : decode cX7_keepAct 46 = .ok (.aload_n 0, 1) := by decide +kernel
theorem dX7_keepAct_47 : decode cX7_keepAct 47 = .ok (.getfield 103, 3) := by decide +kernel
theorem dX7_keepAct_50 : decode cX7_keepAct 50 = .ok (.bipush 14, 2) := by decide +kernel
theorem dX7_keepAct_52 : decode cX7_keepAct 52 = .ok (.if_icmp .ge 12, 3) := by decide +kernel
theorem dX7_keepAct_55 : decode cX7_keepAct 55 = .ok (.aload_n 0, 1) := by decide +kernel
theorem dX7_keepAct_56 : decode cX7_keepAct 56 = .ok (.getfield 103, 3) := by decide +kernel
theorem dX7_keepAct_59 : decode cX7_keepAct 59 = .ok (.iconst 1, 1) := by decide +kernel
theorem dX7_keepAct_60 : decode cX7_keepAct 60 = .ok (.iadd, 1) := by decide +kernel
theorem dX7_keepAct_61 : decode cX7_keepAct 61 = .ok (.goto 5, 3) := by decide +kernel
theorem dX7_keepAct_64 : decode cX7_keepAct 64 = .ok (.bipush 14, 2) := by decide +kernel
theorem dX7_keepAct_66 : decode cX7_keepAct 66 = .ok (.putfield 103, 3) := by decide +kernel
theorem dX7_keepAct_69 : decode cX7_keepAct 69 = .ok (.return_, 1) := by decide +kernel
theorem dX7_put_0 : decode cX7_put 0 = .ok (.iload_n 1, 1) := by decide +kernel
theorem dX7_put_1 : decode cX7_put 1 = .ok (.invokestatic 106, 3) := by decide +kernel
theorem dX7_put_4 : decode cX7_put 4 = .ok (.ifCond .ne 5, 3) := by decide +kernel
theorem dX7_put_7 : decode cX7_put 7 = .ok (.iconst (-1), 1) := by decide +kernel
theorem dX7_put_8 : decode cX7_put 8 = .ok (.ireturn, 1) := by decide +kernel
theorem dX7_put_9 : decode cX7_put 9 = .ok (.aload_n 0, 1) := by decide +kernel
theorem dX7_put_10 : decode cX7_put 10 = .ok (.invokevirtual 92, 3) := by decide +kernel
theorem dX7_put_13 : decode cX7_put 13 = .ok (.bipush (-9), 2) := by decide +kernel
theorem dX7_put_15 : decode cX7_put 15 = .ok (.if_icmp .eq 6, 3) := by decide +kernel
theorem dX7_put_18 : decode cX7_put 18 = .ok (.bipush (-3), 2) := by decide +kernel
theorem dX7_put_20 : decode cX7_put 20 = .ok (.ireturn, 1) := by decide +kernel
theorem dX7_put_21 : decode cX7_put 21 = .ok (.aload_n 0, 1) := by decide +kernel
theorem dX7_put_22 : decode cX7_put 22 = .ok (.invokevirtual 109, 3) := by decide +kernel
theorem dX7_put_25 : decode cX7_put 25 = .ok (.aload_n 0, 1) := by decide +kernel
theorem dX7_put_26 : decode cX7_put 26 = .ok (.getfield 13, 3) := by decide +kernel
theorem dX7_put_29 : decode cX7_put 29 = .ok (.iload_n 1, 1) := by decide +kernel
theorem dX7_put_30 : decode cX7_put 30 = .ok (.aload_n 0, 1) := by decide +kernel
theorem dX7_put_31 : decode cX7_put 31 = .ok (.getfield 79, 3) := by decide +kernel
theorem dX7_put_34 : decode cX7_put 34 = .ok (.lastore, 1) := by decide +kernel
theorem dX7_put_35 : decode cX7_put 35 = .ok (.aload_n 0, 1) := by decide +kernel
theorem dX7_put_36 : decode cX7_put 36 = .ok (.getfield 79, 3) := by decide +kernel
theorem dX7_put_39 : decode cX7_put 39 = .ok (.invokestatic 112, 3) := by decide +kernel
theorem dX7_put_42 : decode cX7_put 42 = .ok (.ireturn, 1) := by decide +kernel
theorem dX7_mixOn_0 : decode cX7_mixOn 0 = .ok (.aload_n 0, 1) := by decide +kernel
theorem dX7_mixOn_1 : decode cX7_mixOn 1 = .ok (.getfield 13, 3) := by decide +kernel
theorem dX7_mixOn_4 : decode cX7_mixOn 4 = .ok (.iconst 3, 1) := by decide +kernel
theorem dX7_mixOn_5 : decode cX7_mixOn 5 = .ok (.iload_n 1, 1) := by decide +kernel
theorem dX7_mixOn_6 : decode cX7_mixOn 6 = .ok (.imul, 1) := by decide +kernel
theorem dX7_mixOn_7 : decode cX7_mixOn 7 = .ok (.iload_n 3, 1) := by decide +kernel
theorem dX7_mixOn_8 : decode cX7_mixOn 8 = .ok (.iadd, 1) := by decide +kernel
theorem dX7_mixOn_9 : decode cX7_mixOn 9 = .ok (.laload, 1) := by decide +kernel
theorem dX7_mixOn_10 : decode cX7_mixOn 10 = .ok (.lstore 5, 2) := by decide +kernel
theorem dX7_mixOn_12 : decode cX7_mixOn 12 = .ok (.aload_n 0, 1) := by decide +kernel
theorem dX7_mixOn_13 : decode cX7_mixOn 13 = .ok (.getfield 13, 3) := by decide +kernel
theorem dX7_mixOn_16 : decode cX7_mixOn 16 = .ok (.iconst 3, 1) := by decide +kernel
theorem dX7_mixOn_17 : decode cX7_mixOn 17 = .ok (.iload_n 1, 1) := by decide +kernel
theorem dX7_mixOn_18 : decode cX7_mixOn 18 = .ok (.imul, 1) := by decide +kernel
theorem dX7_mixOn_19 : decode cX7_mixOn 19 = .ok (.iload 4, 2) := by decide +kernel
theorem dX7_mixOn_21 : decode cX7_mixOn 21 = .ok (.iadd, 1) := by decide +kernel
theorem dX7_mixOn_22 : decode cX7_mixOn 22 = .ok (.laload, 1) := by decide +kernel
theorem dX7_mixOn_23 : decode cX7_mixOn 23 = .ok (.lstore 7, 2) := by decide +kernel
theorem dX7_mixOn_25 : decode cX7_mixOn 25 = .ok (.aload_n 0, 1) := by decide +kernel
theorem dX7_mixOn_26 : decode cX7_mixOn 26 = .ok (.getfield 13, 3) := by decide +kernel
theorem dX7_mixOn_29 : decode cX7_mixOn 29 = .ok (.iconst 3, 1) := by decide +kernel
theorem dX7_mixOn_30 : decode cX7_mixOn 30 = .ok (.iload_n 1, 1) := by decide +kernel
theorem dX7_mixOn_31 : decode cX7_mixOn 31 = .ok (.imul, 1) := by decide +kernel
theorem dX7_mixOn_32 : decode cX7_mixOn 32 = .ok (.iload_n 3, 1) := by decide +kernel
theorem dX7_mixOn_33 : decode cX7_mixOn 33 = .ok (.iadd, 1) := by decide +kernel
theorem dX7_mixOn_34 : decode cX7_mixOn 34 = .ok (.iload_n 2, 1) := by decide +kernel
theorem dX7_mixOn_35 : decode cX7_mixOn 35 = .ok (.ifCond .ne 11, 3) := by decide +kernel
theorem dX7_mixOn_38 : decode cX7_mixOn 38 = .ok (.lload 5, 2) := by decide +kernel
theorem dX7_mixOn_40 : decode cX7_mixOn 40 = .ok (.lload 7, 2) := by decide +kernel
theorem dX7_mixOn_42 : decode cX7_mixOn 42 = .ok (.lor, 1) := by decide +kernel
theorem dX7_mixOn_43 : decode cX7_mixOn 43 = .ok (.goto 25, 3) := by decide +kernel
theorem dX7_mixOn_46 : decode cX7_mixOn 46 = .ok (.iload_n 2, 1) := by decide +kernel
theorem dX7_mixOn_47 : decode cX7_mixOn 47 = .ok (.iconst 1, 1) := by decide +kernel
theorem dX7_mixOn_48 : decode cX7_mixOn 48 = .ok (.if_icmp .ne 11, 3) := by decide +kernel
theorem dX7_mixOn_51 : decode cX7_mixOn 51 = .ok (.lload 5, 2) := by decide +kernel
theorem dX7_mixOn_53 : decode cX7_mixOn 53 = .ok (.lload 7, 2) := by decide +kernel
theorem dX7_mixOn_55 : decode cX7_mixOn 55 = .ok (.land, 1) := by decide +kernel
theorem dX7_mixOn_56 : decode cX7_mixOn 56 = .ok (.goto 12, 3) := by decide +kernel
theorem dX7_mixOn_59 : decode cX7_mixOn 59 = .ok (.lload 5, 2) := by decide +kernel
theorem dX7_mixOn_61 : decode cX7_mixOn 61 = .ok (.lload 7, 2) := by decide +kernel
theorem dX7_mixOn_63 : decode cX7_mixOn 63 = .ok (.ldc2_w 116, 3) := by decide +kernel
theorem dX7_mixOn_66 : decode cX7_mixOn 66 = .ok (.lxor, 1) := by decide +kernel
theorem dX7_mixOn_67 : decode cX7_mixOn 67 = .ok (.land, 1) := by decide +kernel
theorem dX7_mixOn_68 : decode cX7_mixOn 68 = .ok (.lastore, 1) := by decide +kernel
theorem dX7_mixOn_69 : decode cX7_mixOn 69 = .ok (.return_, 1) := by decide +kernel
theorem dX7_mix_0 : decode cX7_mix 0 = .ok (.iload_n 2, 1) := by decide +kernel
theorem dX7_mix_1 : decode cX7_mix 1 = .ok (.invokestatic 106, 3) := by decide +kernel
theorem dX7_mix_4 : decode cX7_mix 4 = .ok (.ifCond .eq 10, 3) := by decide +kernel
theorem dX7_mix_7 : decode cX7_mix 7 = .ok (.iload_n 3, 1) := by decide +kernel
theorem dX7_mix_8 : decode cX7_mix 8 = .ok (.invokestatic 106, 3) := by decide +kernel
theorem dX7_mix_11 : decode cX7_mix 11 = .ok (.ifCond .ne 5, 3) := by decide +kernel
theorem dX7_mix_14 : decode cX7_mix 14 = .ok (.iconst (-1), 1) := by decide +kernel
theorem dX7_mix_15 : decode cX7_mix 15 = .ok (.ireturn, 1) := by decide +kernel
theorem dX7_mix_16 : decode cX7_mix 16 = .ok (.iload_n 2, 1) := by decide +kernel
theorem dX7_mix_17 : decode cX7_mix 17 = .ok (.iload_n 3, 1) := by decide +kernel
theorem dX7_mix_18 : decode cX7_mix 18 = .ok (.if_icmp .ne 6, 3) := by decide +kernel
theorem dX7_mix_21 : decode cX7_mix 21 = .ok (.bipush (-2), 2) := by decide +kernel
theorem dX7_mix_23 : decode cX7_mix 23 = .ok (.ireturn, 1) := by decide +kernel
theorem dX7_mix_24 : decode cX7_mix 24 = .ok (.aload_n 0, 1) := by decide +kernel
theorem dX7_mix_25 : decode cX7_mix 25 = .ok (.invokevirtual 109, 3) := by decide +kernel
theorem dX7_mix_28 : decode cX7_mix 28 = .ok (.aload_n 0, 1) := by decide +kernel
theorem dX7_mix_29 : decode cX7_mix 29 = .ok (.iconst 0, 1) := by decide +kernel
theorem dX7_mix_30 : decode cX7_mix 30 = .ok (.iload_n 1, 1) := by decide +kernel
theorem dX7_mix_31 : decode cX7_mix 31 = .ok (.iload_n 2, 1) := by decide +kernel
theorem dX7_mix_32 : decode cX7_mix 32 = .ok (.iload_n 3, 1) := by decide +kernel
theorem dX7_mix_33 : decode cX7_mix 33 = .ok (.invokevirtual 118, 3) := by decide +kernel
theorem dX7_mix_36 : decode cX7_mix 36 = .ok (.aload_n 0, 1) := by decide +kernel
theorem dX7_mix_37 : decode cX7_mix 37 = .ok (.getfield 13, 3) := by decide +kernel
theorem dX7_mix_40 : decode cX7_mix 40 = .ok (.iload_n 2, 1) := by decide +kernel
theorem dX7_mix_41 : decode cX7_mix 41 = .ok (.laload, 1) := by decide +kernel
theorem dX7_mix_42 : decode cX7_mix 42 = .ok (.invokestatic 112, 3) := by decide +kernel
theorem dX7_mix_45 : decode cX7_mix 45 = .ok (.ireturn, 1) := by decide +kernel
theorem dX7_join_0 : decode cX7_join 0 = .ok (.aload_n 0, 1) := by decide +kernel
theorem dX7_join_1 : decode cX7_join 1 = .ok (.iconst 0, 1) := by decide +kernel
theorem dX7_join_2 : decode cX7_join 2 = .ok (.iload_n 1, 1) := by decide +kernel
theorem dX7_join_3 : decode cX7_join 3 = .ok (.iload_n 2, 1) := by decide +kernel
theorem dX7_join_4 : decode cX7_join 4 = .ok (.invokevirtual 122, 3) := by decide +kernel
theorem dX7_join_7 : decode cX7_join 7 = .ok (.ireturn, 1) := by decide +kernel
theorem dX7_meet_0 : decode cX7_meet 0 = .ok (.aload_n 0, 1) := by decide +kernel
theorem dX7_meet_1 : decode cX7_meet 1 = .ok (.iconst 1, 1) := by decide +kernel
theorem dX7_meet_2 : decode cX7_meet 2 = .ok (.iload_n 1, 1) := by decide +kernel
theorem dX7_meet_3 : decode cX7_meet 3 = .ok (.iload_n 2, 1) := by decide +kernel
theorem dX7_meet_4 : decode cX7_meet 4 = .ok (.invokevirtual 122, 3) := by decide +kernel
theorem dX7_meet_7 : decode cX7_meet 7 = .ok (.ireturn, 1) := by decide +kernel
theorem dX7_less_0 : decode cX7_less 0 = .ok (.aload_n 0, 1) := by decide +kernel
theorem dX7_less_1 : decode cX7_less 1 = .ok (.iconst 2, 1) := by decide +kernel
theorem dX7_less_2 : decode cX7_less 2 = .ok (.iload_n 1, 1) := by decide +kernel
theorem dX7_less_3 : decode cX7_less 3 = .ok (.iload_n 2, 1) := by decide +kernel
theorem dX7_less_4 : decode cX7_less 4 = .ok (.invokevirtual 122, 3) := by decide +kernel
theorem dX7_less_7 : decode cX7_less 7 = .ok (.ireturn, 1) := by decide +kernel
theorem dX7_turn_0 : decode cX7_turn 0 = .ok (.iload_n 1, 1) := by decide +kernel
theorem dX7_turn_1 : decode cX7_turn 1 = .ok (.invokestatic 106, 3) := by decide +kernel
theorem dX7_turn_4 : decode cX7_turn 4 = .ok (.ifCond .ne 5, 3) := by decide +kernel
theorem dX7_turn_7 : decode cX7_turn 7 = .ok (.iconst (-1), 1) := by decide +kernel
theorem dX7_turn_8 : decode cX7_turn 8 = .ok (.ireturn, 1) := by decide +kernel
theorem dX7_turn_9 : decode cX7_turn 9 = .ok (.aload_n 0, 1) := by decide +kernel
theorem dX7_turn_10 : decode cX7_turn 10 = .ok (.invokevirtual 109, 3) := by decide +kernel
theorem dX7_turn_13 : decode cX7_turn 13 = .ok (.aload_n 0, 1) := by decide +kernel
theorem dX7_turn_14 : decode cX7_turn 14 = .ok (.getfield 13, 3) := by decide +kernel
theorem dX7_turn_17 : decode cX7_turn 17 = .ok (.iload_n 1, 1) := by decide +kernel
theorem dX7_turn_18 : decode cX7_turn 18 = .ok (.aload_n 0, 1) := by decide +kernel
theorem dX7_turn_19 : decode cX7_turn 19 = .ok (.getfield 13, 3) := by decide +kernel
theorem dX7_turn_22 : decode cX7_turn 22 = .ok (.iload_n 1, 1) := by decide +kernel
theorem dX7_turn_23 : decode cX7_turn 23 = .ok (.laload, 1) := by decide +kernel
theorem dX7_turn_24 : decode cX7_turn 24 = .ok (.invokestatic 126, 3) := by decide +kernel
theorem dX7_turn_27 : decode cX7_turn 27 = .ok (.lastore, 1) := by decide +kernel
theorem dX7_turn_28 : decode cX7_turn 28 = .ok (.aload_n 0, 1) := by decide +kernel
theorem dX7_turn_29 : decode cX7_turn 29 = .ok (.getfield 13, 3) := by decide +kernel
theorem dX7_turn_32 : decode cX7_turn 32 = .ok (.iload_n 1, 1) := by decide +kernel
theorem dX7_turn_33 : decode cX7_turn 33 = .ok (.laload, 1) := by decide +kernel
theorem dX7_turn_34 : decode cX7_turn 34 = .ok (.ldc2_w 67, 3) := by decide +kernel
theorem dX7_turn_37 : decode cX7_turn 37 = .ok (.land, 1) := by decide +kernel
theorem dX7_turn_38 : decode cX7_turn 38 = .ok (.l2i, 1) := by decide +kernel
theorem dX7_turn_39 : decode cX7_turn 39 = .ok (.ireturn, 1) := by decide +kernel
theorem dX7_flip_0 : decode cX7_flip 0 = .ok (.iload_n 1, 1) := by decide +kernel
theorem dX7_flip_1 : decode cX7_flip 1 = .ok (.invokestatic 106, 3) := by decide +kernel
theorem dX7_flip_4 : decode cX7_flip 4 = .ok (.ifCond .ne 5, 3) := by decide +kernel
theorem dX7_flip_7 : decode cX7_flip 7 = .ok (.iconst (-1), 1) := by decide +kernel
theorem dX7_flip_8 : decode cX7_flip 8 = .ok (.ireturn, 1) := by decide +kernel
theorem dX7_flip_9 : decode cX7_flip 9 = .ok (.aload_n 0, 1) := by decide +kernel
theorem dX7_flip_10 : decode cX7_flip 10 = .ok (.invokevirtual 109, 3) := by decide +kernel
theorem dX7_flip_13 : decode cX7_flip 13 = .ok (.aload_n 0, 1) := by decide +kernel
theorem dX7_flip_14 : decode cX7_flip 14 = .ok (.getfield 13, 3) := by decide +kernel
theorem dX7_flip_17 : decode cX7_flip 17 = .ok (.iload_n 1, 1) := by decide +kernel
theorem dX7_flip_18 : decode cX7_flip 18 = .ok (.aload_n 0, 1) := by decide +kernel
theorem dX7_flip_19 : decode cX7_flip 19 = .ok (.getfield 13, 3) := by decide +kernel
theorem dX7_flip_22 : decode cX7_flip 22 = .ok (.iload_n 1, 1) := by decide +kernel
theorem dX7_flip_23 : decode cX7_flip 23 = .ok (.laload, 1) := by decide +kernel
theorem dX7_flip_24 : decode cX7_flip 24 = .ok (.invokestatic 130, 3) := by decide +kernel
theorem dX7_flip_27 : decode cX7_flip 27 = .ok (.lastore, 1) := by decide +kernel
theorem dX7_flip_28 : decode cX7_flip 28 = .ok (.aload_n 0, 1) := by decide +kernel
theorem dX7_flip_29 : decode cX7_flip 29 = .ok (.getfield 13, 3) := by decide +kernel
theorem dX7_flip_32 : decode cX7_flip 32 = .ok (.iload_n 1, 1) := by decide +kernel
theorem dX7_flip_33 : decode cX7_flip 33 = .ok (.laload, 1) := by decide +kernel
theorem dX7_flip_34 : decode cX7_flip 34 = .ok (.ldc2_w 67, 3) := by decide +kernel
theorem dX7_flip_37 : decode cX7_flip 37 = .ok (.land, 1) := by decide +kernel
theorem dX7_flip_38 : decode cX7_flip 38 = .ok (.l2i, 1) := by decide +kernel
theorem dX7_flip_39 : decode cX7_flip 39 = .ok (.ireturn, 1) := by decide +kernel
theorem dX7_halve_0 : decode cX7_halve 0 = .ok (.iload_n 1, 1) := by decide +kernel
theorem dX7_halve_1 : decode cX7_halve 1 = .ok (.invokestatic 106, 3) := by decide +kernel
theorem dX7_halve_4 : decode cX7_halve 4 = .ok (.ifCond .eq 15, 3) := by decide +kernel
theorem dX7_halve_7 : decode cX7_halve 7 = .ok (.iload_n 2, 1) := by decide +kernel
theorem dX7_halve_8 : decode cX7_halve 8 = .ok (.i2l, 1) := by decide +kernel
theorem dX7_halve_9 : decode cX7_halve 9 = .ok (.lconst 0, 1) := by decide +kernel
theorem dX7_halve_10 : decode cX7_halve 10 = .ok (.ldc2_w 133, 3) := by decide +kernel
theorem dX7_halve_13 : decode cX7_halve 13 = .ok (.invokestatic 44, 3) := by decide +kernel
theorem dX7_halve_16 : decode cX7_halve 16 = .ok (.ifCond .ne 5, 3) := by decide +kernel
theorem dX7_halve_19 : decode cX7_halve 19 = .ok (.iconst (-1), 1) := by decide +kernel
theorem dX7_halve_20 : decode cX7_halve 20 = .ok (.ireturn, 1) := by decide +kernel
theorem dX7_halve_21 : decode cX7_halve 21 = .ok (.aload_n 0, 1) := by decide +kernel
theorem dX7_halve_22 : decode cX7_halve 22 = .ok (.invokevirtual 109, 3) := by decide +kernel
theorem dX7_halve_25 : decode cX7_halve 25 = .ok (.aload_n 0, 1) := by decide +kernel
theorem dX7_halve_26 : decode cX7_halve 26 = .ok (.getfield 13, 3) := by decide +kernel
theorem dX7_halve_29 : decode cX7_halve 29 = .ok (.iload_n 1, 1) := by decide +kernel
theorem dX7_halve_30 : decode cX7_halve 30 = .ok (.aload_n 0, 1) := by decide +kernel
theorem dX7_halve_31 : decode cX7_halve 31 = .ok (.getfield 13, 3) := by decide +kernel
theorem dX7_halve_34 : decode cX7_halve 34 = .ok (.iload_n 1, 1) := by decide +kernel
theorem dX7_halve_35 : decode cX7_halve 35 = .ok (.laload, 1) := by decide +kernel
theorem dX7_halve_36 : decode cX7_halve 36 = .ok (.iload_n 2, 1) := by decide +kernel
theorem dX7_halve_37 : decode cX7_halve 37 = .ok (.invokestatic 135, 3) := by decide +kernel
theorem dX7_halve_40 : decode cX7_halve 40 = .ok (.lastore, 1) := by decide +kernel
theorem dX7_halve_41 : decode cX7_halve 41 = .ok (.aload_n 0, 1) := by decide +kernel
theorem dX7_halve_42 : decode cX7_halve 42 = .ok (.getfield 13, 3) := by decide +kernel
theorem dX7_halve_45 : decode cX7_halve 45 = .ok (.iload_n 1, 1) := by decide +kernel
theorem dX7_halve_46 : decode cX7_halve 46 = .ok (.laload, 1) := by decide +kernel
theorem dX7_halve_47 : decode cX7_halve 47 = .ok (.invokestatic 112, 3) := by decide +kernel
theorem dX7_halve_50 : decode cX7_halve 50 = .ok (.ireturn, 1) := by decide +kernel
theorem dX7_grow_0 : decode cX7_grow 0 = .ok (.iload_n 1, 1) := by decide +kernel
theorem dX7_grow_1 : decode cX7_grow 1 = .ok (.invokestatic 106, 3) := by decide +kernel
theorem dX7_grow_4 : decode cX7_grow 4 = .ok (.ifCond .eq 15, 3) := by decide +kernel
theorem dX7_grow_7 : decode cX7_grow 7 = .ok (.iload_n 2, 1) := by decide +kernel
theorem dX7_grow_8 : decode cX7_grow 8 = .ok (.i2l, 1) := by decide +kernel
theorem dX7_grow_9 : decode cX7_grow 9 = .ok (.lconst 0, 1) := by decide +kernel
theorem dX7_grow_10 : decode cX7_grow 10 = .ok (.ldc2_w 133, 3) := by decide +kernel
theorem dX7_grow_13 : decode cX7_grow 13 = .ok (.invokestatic 44, 3) := by decide +kernel
theorem dX7_grow_16 : decode cX7_grow 16 = .ok (.ifCond .ne 5, 3) := by decide +kernel
theorem dX7_grow_19 : decode cX7_grow 19 = .ok (.iconst (-1), 1) := by decide +kernel
theorem dX7_grow_20 : decode cX7_grow 20 = .ok (.ireturn, 1) := by decide +kernel
theorem dX7_grow_21 : decode cX7_grow 21 = .ok (.aload_n 0, 1) := by decide +kernel
theorem dX7_grow_22 : decode cX7_grow 22 = .ok (.invokevirtual 109, 3) := by decide +kernel
theorem dX7_grow_25 : decode cX7_grow 25 = .ok (.aload_n 0, 1) := by decide +kernel
theorem dX7_grow_26 : decode cX7_grow 26 = .ok (.getfield 13, 3) := by decide +kernel
theorem dX7_grow_29 : decode cX7_grow 29 = .ok (.iload_n 1, 1) := by decide +kernel
theorem dX7_grow_30 : decode cX7_grow 30 = .ok (.aload_n 0, 1) := by decide +kernel
theorem dX7_grow_31 : decode cX7_grow 31 = .ok (.getfield 13, 3) := by decide +kernel
theorem dX7_grow_34 : decode cX7_grow 34 = .ok (.iload_n 1, 1) := by decide +kernel
theorem dX7_grow_35 : decode cX7_grow 35 = .ok (.laload, 1) := by decide +kernel
theorem dX7_grow_36 : decode cX7_grow 36 = .ok (.iload_n 2, 1) := by decide +kernel
theorem dX7_grow_37 : decode cX7_grow 37 = .ok (.invokestatic 139, 3) := by decide +kernel
theorem dX7_grow_40 : decode cX7_grow 40 = .ok (.lastore, 1) := by decide +kernel
theorem dX7_grow_41 : decode cX7_grow 41 = .ok (.aload_n 0, 1) := by decide +kernel
theorem dX7_grow_42 : decode cX7_grow 42 = .ok (.getfield 13, 3) := by decide +kernel
theorem dX7_grow_45 : decode cX7_grow 45 = .ok (.iload_n 1, 1) := by decide +kernel
theorem dX7_grow_46 : decode cX7_grow 46 = .ok (.laload, 1) := by decide +kernel
theorem dX7_grow_47 : decode cX7_grow 47 = .ok (.invokestatic 112, 3) := by decide +kernel
theorem dX7_grow_50 : decode cX7_grow 50 = .ok (.ireturn, 1) := by decide +kernel
theorem dX7_undo_0 : decode cX7_undo 0 = .ok (.aload_n 0, 1) := by decide +kernel
theorem dX7_undo_1 : decode cX7_undo 1 = .ok (.getfield 103, 3) := by decide +kernel
theorem dX7_undo_4 : decode cX7_undo 4 = .ok (.ifCond .ne 6, 3) := by decide +kernel
theorem dX7_undo_7 : decode cX7_undo 7 = .ok (.bipush (-3), 2) := by decide +kernel
theorem dX7_undo_9 : decode cX7_undo 9 = .ok (.ireturn, 1) := by decide +kernel
theorem dX7_undo_10 : decode cX7_undo 10 = .ok (.aload_n 0, 1) := by decide +kernel
theorem dX7_undo_11 : decode cX7_undo 11 = .ok (.dup, 1) := by decide +kernel
theorem dX7_undo_12 : decode cX7_undo 12 = .ok (.getfield 103, 3) := by decide +kernel
theorem dX7_undo_15 : decode cX7_undo 15 = .ok (.iconst 1, 1) := by decide +kernel
theorem dX7_undo_16 : decode cX7_undo 16 = .ok (.isub, 1) := by decide +kernel
theorem dX7_undo_17 : decode cX7_undo 17 = .ok (.putfield 103, 3) := by decide +kernel
theorem dX7_undo_20 : decode cX7_undo 20 = .ok (.aload_n 0, 1) := by decide +kernel
theorem dX7_undo_21 : decode cX7_undo 21 = .ok (.aload_n 0, 1) := by decide +kernel
theorem dX7_undo_22 : decode cX7_undo 22 = .ok (.getfield 100, 3) := by decide +kernel
theorem dX7_undo_25 : decode cX7_undo 25 = .ok (.bipush 13, 2) := by decide +kernel
theorem dX7_undo_27 : decode cX7_undo 27 = .ok (.iadd, 1) := by decide +kernel
theorem dX7_undo_28 : decode cX7_undo 28 = .ok (.bipush 14, 2) := by decide +kernel
theorem dX7_undo_30 : decode cX7_undo 30 = .ok (.irem, 1) := by decide +kernel
theorem dX7_undo_31 : decode cX7_undo 31 = .ok (.putfield 100, 3) := by decide +kernel
theorem dX7_undo_34 : decode cX7_undo 34 = .ok (.iconst 0, 1) := by decide +kernel
theorem dX7_undo_35 : decode cX7_undo 35 = .ok (.istore_n 1, 1) := by decide +kernel
theorem dX7_undo_36 : decode cX7_undo 36 = .ok (.iload_n 1, 1) := by decide +kernel
theorem dX7_undo_37 : decode cX7_undo 37 = .ok (.iconst 3, 1) := by decide +kernel
theorem dX7_undo_38 : decode cX7_undo 38 = .ok (.if_icmp .ge 28, 3) := by decide +kernel
theorem dX7_undo_41 : decode cX7_undo 41 = .ok (.aload_n 0, 1) := by decide +kernel
theorem dX7_undo_42 : decode cX7_undo 42 = .ok (.getfield 13, 3) := by decide +kernel
theorem dX7_undo_45 : decode cX7_undo 45 = .ok (.iload_n 1, 1) := by decide +kernel
theorem dX7_undo_46 : decode cX7_undo 46 = .ok (.aload_n 0, 1) := by decide +kernel
theorem dX7_undo_47 : decode cX7_undo 47 = .ok (.getfield 17, 3) := by decide +kernel
theorem dX7_undo_50 : decode cX7_undo 50 = .ok (.iconst 3, 1) := by decide +kernel
theorem dX7_undo_51 : decode cX7_undo 51 = .ok (.aload_n 0, 1) := by decide +kernel
theorem dX7_undo_52 : decode cX7_undo 52 = .ok (.getfield 100, 3) := by decide +kernel
theorem dX7_undo_55 : decode cX7_undo 55 = .ok (.imul, 1) := by decide +kernel
theorem dX7_undo_56 : decode cX7_undo 56 = .ok (.iload_n 1, 1) := by decide +kernel
theorem dX7_undo_57 : decode cX7_undo 57 = .ok (.iadd, 1) := by decide +kernel
theorem dX7_undo_58 : decode cX7_undo 58 = .ok (.laload, 1) := by decide +kernel
theorem dX7_undo_59 : decode cX7_undo 59 = .ok (.lastore, 1) := by decide +kernel
theorem dX7_undo_60 : decode cX7_undo 60 = .ok (.iinc 1 1, 3) := by decide +kernel
theorem dX7_undo_63 : decode cX7_undo 63 = .ok (.goto (-27), 3) := by decide +kernel
theorem dX7_undo_66 : decode cX7_undo 66 = .ok (.aload_n 0, 1) := by decide +kernel
theorem dX7_undo_67 : decode cX7_undo 67 = .ok (.getfield 103, 3) := by decide +kernel
theorem dX7_undo_70 : decode cX7_undo 70 = .ok (.ireturn, 1) := by decide +kernel
theorem dX7_black_0 : decode cX7_black 0 = .ok (.iload_n 1, 1) := by decide +kernel
theorem dX7_black_1 : decode cX7_black 1 = .ok (.invokestatic 106, 3) := by decide +kernel
theorem dX7_black_4 : decode cX7_black 4 = .ok (.ifCond .eq 12, 3) := by decide +kernel
theorem dX7_black_7 : decode cX7_black 7 = .ok (.aload_n 0, 1) := by decide +kernel
theorem dX7_black_8 : decode cX7_black 8 = .ok (.getfield 13, 3) := by decide +kernel
theorem dX7_black_11 : decode cX7_black 11 = .ok (.iload_n 1, 1) := by decide +kernel
theorem dX7_black_12 : decode cX7_black 12 = .ok (.laload, 1) := by decide +kernel
theorem dX7_black_13 : decode cX7_black 13 = .ok (.goto 4, 3) := by decide +kernel
theorem dX7_black_16 : decode cX7_black 16 = .ok (.lconst 0, 1) := by decide +kernel
theorem dX7_black_17 : decode cX7_black 17 = .ok (.lreturn, 1) := by decide +kernel
theorem dX7_leafOf_0 : decode cX7_leafOf 0 = .ok (.lload_n 1, 1) := by decide +kernel
theorem dX7_leafOf_1 : decode cX7_leafOf 1 = .ok (.aload_n 0, 1) := by decide +kernel
theorem dX7_leafOf_2 : decode cX7_leafOf 2 = .ok (.getfield 73, 3) := by decide +kernel
theorem dX7_leafOf_5 : decode cX7_leafOf 5 = .ok (.aload_n 0, 1) := by decide +kernel
theorem dX7_leafOf_6 : decode cX7_leafOf 6 = .ok (.getfield 76, 3) := by decide +kernel
theorem dX7_leafOf_9 : decode cX7_leafOf 9 = .ok (.invokestatic 142, 3) := by decide +kernel
theorem dX7_leafOf_12 : decode cX7_leafOf 12 = .ok (.land, 1) := by decide +kernel
theorem dX7_leafOf_13 : decode cX7_leafOf 13 = .ok (.lstore_n 3, 1) := by decide +kernel
theorem dX7_leafOf_14 : decode cX7_leafOf 14 = .ok (.lload_n 3, 1) := by decide +kernel
theorem dX7_leafOf_15 : decode cX7_leafOf 15 = .ok (.aload_n 0, 1) := by decide +kernel
theorem dX7_leafOf_16 : decode cX7_leafOf 16 = .ok (.getfield 73, 3) := by decide +kernel
theorem dX7_leafOf_19 : decode cX7_leafOf 19 = .ok (.aload_n 0, 1) := by decide +kernel
theorem dX7_leafOf_20 : decode cX7_leafOf 20 = .ok (.getfield 76, 3) := by decide +kernel
theorem dX7_leafOf_23 : decode cX7_leafOf 23 = .ok (.bipush 98, 2) := by decide +kernel
theorem dX7_leafOf_25 : decode cX7_leafOf 25 = .ok (.invokestatic 52, 3) := by decide +kernel
theorem dX7_leafOf_28 : decode cX7_leafOf 28 = .ok (.lcmp, 1) := by decide +kernel
theorem dX7_leafOf_29 : decode cX7_leafOf 29 = .ok (.ifCond .ne 8, 3) := by decide +kernel
theorem dX7_leafOf_32 : decode cX7_leafOf 32 = .ok (.bipush 98, 2) := by decide +kernel
theorem dX7_leafOf_34 : decode cX7_leafOf 34 = .ok (.goto 62, 3) := by decide +kernel
theorem dX7_leafOf_37 : decode cX7_leafOf 37 = .ok (.lload_n 3, 1) := by decide +kernel
theorem dX7_leafOf_38 : decode cX7_leafOf 38 = .ok (.lconst 0, 1) := by decide +kernel
theorem dX7_leafOf_39 : decode cX7_leafOf 39 = .ok (.lcmp, 1) := by decide +kernel
theorem dX7_leafOf_40 : decode cX7_leafOf 40 = .ok (.ifCond .ne 8, 3) := by decide +kernel
theorem dX7_leafOf_43 : decode cX7_leafOf 43 = .ok (.bipush 119, 2) := by decide +kernel
theorem dX7_leafOf_45 : decode cX7_leafOf 45 = .ok (.goto 51, 3) := by decide +kernel
theorem dX7_leafOf_48 : decode cX7_leafOf 48 = .ok (.lload_n 3, 1) := by decide +kernel
theorem dX7_leafOf_49 : decode cX7_leafOf 49 = .ok (.aload_n 0, 1) := by decide +kernel
theorem dX7_leafOf_50 : decode cX7_leafOf 50 = .ok (.getfield 73, 3) := by decide +kernel
theorem dX7_leafOf_53 : decode cX7_leafOf 53 = .ok (.aload_n 0, 1) := by decide +kernel
theorem dX7_leafOf_54 : decode cX7_leafOf 54 = .ok (.getfield 76, 3) := by decide +kernel
theorem dX7_leafOf_57 : decode cX7_leafOf 57 = .ok (.bipush 103, 2) := by decide +kernel
theorem dX7_leafOf_59 : decode cX7_leafOf 59 = .ok (.invokestatic 52, 3) := by decide +kernel
theorem dX7_leafOf_62 : decode cX7_leafOf 62 = .ok (.lcmp, 1) := by decide +kernel
theorem dX7_leafOf_63 : decode cX7_leafOf 63 = .ok (.ifCond .ne 8, 3) := by decide +kernel
theorem dX7_leafOf_66 : decode cX7_leafOf 66 = .ok (.bipush 103, 2) := by decide +kernel
theorem dX7_leafOf_68 : decode cX7_leafOf 68 = .ok (.goto 28, 3) := by decide +kernel
theorem dX7_leafOf_71 : decode cX7_leafOf 71 = .ok (.lload_n 3, 1) := by decide +kernel
theorem dX7_leafOf_72 : decode cX7_leafOf 72 = .ok (.aload_n 0, 1) := by decide +kernel
theorem dX7_leafOf_73 : decode cX7_leafOf 73 = .ok (.getfield 73, 3) := by decide +kernel
theorem dX7_leafOf_76 : decode cX7_leafOf 76 = .ok (.aload_n 0, 1) := by decide +kernel
theorem dX7_leafOf_77 : decode cX7_leafOf 77 = .ok (.getfield 76, 3) := by decide +kernel
theorem dX7_leafOf_80 : decode cX7_leafOf 80 = .ok (.bipush 115, 2) := by decide +kernel
theorem dX7_leafOf_82 : decode cX7_leafOf 82 = .ok (.invokestatic 52, 3) := by decide +kernel
theorem dX7_leafOf_85 : decode cX7_leafOf 85 = .ok (.lcmp, 1) := by decide +kernel
theorem dX7_leafOf_86 : decode cX7_leafOf 86 = .ok (.ifCond .ne 8, 3) := by decide +kernel
theorem dX7_leafOf_89 : decode cX7_leafOf 89 = .ok (.bipush 115, 2) := by decide +kernel
theorem dX7_leafOf_91 : decode cX7_leafOf 91 = .ok (.goto 5, 3) := by decide +kernel
theorem dX7_leafOf_94 : decode cX7_leafOf 94 = .ok (.bipush 113, 2) := by decide +kernel
theorem dX7_leafOf_96 : decode cX7_leafOf 96 = .ok (.ireturn, 1) := by decide +kernel
theorem dX7_findWord_0 : decode cX7_findWord 0 = .ok (.aload_n 0, 1) := by decide +kernel
theorem dX7_findWord_1 : decode cX7_findWord 1 = .ok (.iconst 0, 1) := by decide +kernel
theorem dX7_findWord_2 : decode cX7_findWord 2 = .ok (.putfield 73, 3) := by decide +kernel
theorem dX7_findWord_5 : decode cX7_findWord 5 = .ok (.aload_n 0, 1) := by decide +kernel
theorem dX7_findWord_6 : decode cX7_findWord 6 = .ok (.iconst 0, 1) := by decide +kernel
theorem dX7_findWord_7 : decode cX7_findWord 7 = .ok (.putfield 76, 3) := by decide +kernel
theorem dX7_findWord_10 : decode cX7_findWord 10 = .ok (.aload_n 0, 1) := by decide +kernel
theorem dX7_findWord_11 : decode cX7_findWord 11 = .ok (.iconst 0, 1) := by decide +kernel
theorem dX7_findWord_12 : decode cX7_findWord 12 = .ok (.putfield 146, 3) := by decide +kernel
theorem dX7_findWord_15 : decode cX7_findWord 15 = .ok (.aload_n 0, 1) := by decide +kernel
theorem dX7_findWord_16 : decode cX7_findWord 16 = .ok (.getfield 73, 3) := by decide +kernel
theorem dX7_findWord_19 : decode cX7_findWord 19 = .ok (.bipush (-9), 2) := by decide +kernel
theorem dX7_findWord_21 : decode cX7_findWord 21 = .ok (.if_icmp .eq 70, 3) := by decide +kernel
theorem dX7_findWord_24 : decode cX7_findWord 24 = .ok (.aload_n 0, 1) := by decide +kernel
theorem dX7_findWord_25 : decode cX7_findWord 25 = .ok (.lload_n 1, 1) := by decide +kernel
theorem dX7_findWord_26 : decode cX7_findWord 26 = .ok (.invokevirtual 149, 3) := by decide +kernel
theorem dX7_findWord_29 : decode cX7_findWord 29 = .ok (.istore_n 3, 1) := by decide +kernel
theorem dX7_findWord_30 : decode cX7_findWord 30 = .ok (.aload_n 0, 1) := by decide +kernel
theorem dX7_findWord_31 : decode cX7_findWord 31 = .ok (.getfield 20, 3) := by decide +kernel
theorem dX7_findWord_34 : decode cX7_findWord 34 = .ok (.aload_n 0, 1) := by decide +kernel
theorem dX7_findWord_35 : decode cX7_findWord 35 = .ok (.getfield 146, 3) := by decide +kernel
theorem dX7_findWord_38 : decode cX7_findWord 38 = .ok (.iload_n 3, 1) := by decide +kernel
theorem dX7_findWord_39 : decode cX7_findWord 39 = .ok (.iastore, 1) := by decide +kernel
theorem dX7_findWord_40 : decode cX7_findWord 40 = .ok (.aload_n 0, 1) := by decide +kernel
theorem dX7_findWord_41 : decode cX7_findWord 41 = .ok (.dup, 1) := by decide +kernel
theorem dX7_findWord_42 : decode cX7_findWord 42 = .ok (.getfield 146, 3) := by decide +kernel
theorem dX7_findWord_45 : decode cX7_findWord 45 = .ok (.iconst 1, 1) := by decide +kernel
theorem dX7_findWord_46 : decode cX7_findWord 46 = .ok (.iadd, 1) := by decide +kernel
theorem dX7_findWord_47 : decode cX7_findWord 47 = .ok (.putfield 146, 3) := by decide +kernel
theorem dX7_findWord_50 : decode cX7_findWord 50 = .ok (.iload_n 3, 1) := by decide +kernel
theorem dX7_findWord_51 : decode cX7_findWord 51 = .ok (.bipush 113, 2) := by decide +kernel
theorem dX7_findWord_53 : decode cX7_findWord 53 = .ok (.if_icmp .ne 26, 3) := by decide +kernel
theorem dX7_findWord_56 : decode cX7_findWord 56 = .ok (.aload_n 0, 1) := by decide +kernel
theorem dX7_findWord_57 : decode cX7_findWord 57 = .ok (.dup, 1) := by decide +kernel
theorem dX7_findWord_58 : decode cX7_findWord 58 = .ok (.getfield 73, 3) := by decide +kernel
theorem dX7_findWord_61 : decode cX7_findWord 61 = .ok (.iconst 1, 1) := by decide +kernel
theorem dX7_findWord_62 : decode cX7_findWord 62 = .ok (.iadd, 1) := by decide +kernel
theorem dX7_findWord_63 : decode cX7_findWord 63 = .ok (.putfield 73, 3) := by decide +kernel
theorem dX7_findWord_66 : decode cX7_findWord 66 = .ok (.aload_n 0, 1) := by decide +kernel
theorem dX7_findWord_67 : decode cX7_findWord 67 = .ok (.dup, 1) := by decide +kernel
theorem dX7_findWord_68 : decode cX7_findWord 68 = .ok (.getfield 76, 3) := by decide +kernel
theorem dX7_findWord_71 : decode cX7_findWord 71 = .ok (.iconst 4, 1) := by decide +kernel
theorem dX7_findWord_72 : decode cX7_findWord 72 = .ok (.imul, 1) := by decide +kernel
theorem dX7_findWord_73 : decode cX7_findWord 73 = .ok (.putfield 76, 3) := by decide +kernel
theorem dX7_findWord_76 : decode cX7_findWord 76 = .ok (.goto 12, 3) := by decide +kernel
theorem dX7_findWord_79 : decode cX7_findWord 79 = .ok (.aload_n 0, 1) := by decide +kernel
theorem dX7_findWord_80 : decode cX7_findWord 80 = .ok (.iload_n 3, 1) := by decide +kernel
theorem dX7_findWord_81 : decode cX7_findWord 81 = .ok (.invokevirtual 152, 3) := by decide +kernel
theorem dX7_findWord_84 : decode cX7_findWord 84 = .ok (.aload_n 0, 1) := by decide +kernel
theorem dX7_findWord_85 : decode cX7_findWord 85 = .ok (.invokevirtual 89, 3) := by decide +kernel
theorem dX7_findWord_88 : decode cX7_findWord 88 = .ok (.goto (-73), 3) := by decide +kernel
theorem dX7_findWord_91 : decode cX7_findWord 91 = .ok (.return_, 1) := by decide +kernel
theorem dX7_tellCells_0 : decode cX7_tellCells 0 = .ok (.aload_n 0, 1) := by decide +kernel
theorem dX7_tellCells_1 : decode cX7_tellCells 1 = .ok (.getfield 73, 3) := by decide +kernel
theorem dX7_tellCells_4 : decode cX7_tellCells 4 = .ok (.aload_n 0, 1) := by decide +kernel
theorem dX7_tellCells_5 : decode cX7_tellCells 5 = .ok (.getfield 76, 3) := by decide +kernel
theorem dX7_tellCells_8 : decode cX7_tellCells 8 = .ok (.invokestatic 142, 3) := by decide +kernel
theorem dX7_tellCells_11 : decode cX7_tellCells 11 = .ok (.lstore_n 2, 1) := by decide +kernel
theorem dX7_tellCells_12 : decode cX7_tellCells 12 = .ok (.iconst 0, 1) := by decide +kernel
theorem dX7_tellCells_13 : decode cX7_tellCells 13 = .ok (.istore 4, 2) := by decide +kernel
theorem dX7_tellCells_15 : decode cX7_tellCells 15 = .ok (.iload 4, 2) := by decide +kernel
theorem dX7_tellCells_17 : decode cX7_tellCells 17 = .ok (.bipush 64, 2) := by decide +kernel
theorem dX7_tellCells_19 : decode cX7_tellCells 19 = .ok (.if_icmp .ge 39, 3) := by decide +kernel
theorem dX7_tellCells_22 : decode cX7_tellCells 22 = .ok (.lload_n 2, 1) := by decide +kernel
theorem dX7_tellCells_23 : decode cX7_tellCells 23 = .ok (.iload 4, 2) := by decide +kernel
theorem dX7_tellCells_25 : decode cX7_tellCells 25 = .ok (.lushr, 1) := by decide +kernel
theorem dX7_tellCells_26 : decode cX7_tellCells 26 = .ok (.lconst 1, 1) := by decide +kernel
theorem dX7_tellCells_27 : decode cX7_tellCells 27 = .ok (.land, 1) := by decide +kernel
theorem dX7_tellCells_28 : decode cX7_tellCells 28 = .ok (.lconst 1, 1) := by decide +kernel
theorem dX7_tellCells_29 : decode cX7_tellCells 29 = .ok (.lcmp, 1) := by decide +kernel
theorem dX7_tellCells_30 : decode cX7_tellCells 30 = .ok (.ifCond .ne 22, 3) := by decide +kernel
theorem dX7_tellCells_33 : decode cX7_tellCells 33 = .ok (.aload_n 0, 1) := by decide +kernel
theorem dX7_tellCells_34 : decode cX7_tellCells 34 = .ok (.getfield 23, 3) := by decide +kernel
theorem dX7_tellCells_37 : decode cX7_tellCells 37 = .ok (.iload 4, 2) := by decide +kernel
theorem dX7_tellCells_39 : decode cX7_tellCells 39 = .ok (.aload_n 0, 1) := by decide +kernel
theorem dX7_tellCells_40 : decode cX7_tellCells 40 = .ok (.getfield 73, 3) := by decide +kernel
theorem dX7_tellCells_43 : decode cX7_tellCells 43 = .ok (.iastore, 1) := by decide +kernel
theorem dX7_tellCells_44 : decode cX7_tellCells 44 = .ok (.aload_n 0, 1) := by decide +kernel
theorem dX7_tellCells_45 : decode cX7_tellCells 45 = .ok (.getfield 26, 3) := by decide +kernel
theorem dX7_tellCells_48 : decode cX7_tellCells 48 = .ok (.iload 4, 2) := by decide +kernel
theorem dX7_tellCells_50 : decode cX7_tellCells 50 = .ok (.iload_n 1, 1) := by decide +kernel
theorem dX7_tellCells_51 : decode cX7_tellCells 51 = .ok (.iastore, 1) := by decide +kernel
theorem dX7_tellCells_52 : decode cX7_tellCells 52 = .ok (.iinc 4 1, 3) := by decide +kernel
theorem dX7_tellCells_55 : decode cX7_tellCells 55 = .ok (.goto (-40), 3) := by decide +kernel
theorem dX7_tellCells_58 : decode cX7_tellCells 58 = .ok (.return_, 1) := by decide +kernel
theorem dX7_partsOf_0 : decode cX7_partsOf 0 = .ok (.lload_n 0, 1) := by decide +kernel
theorem dX7_partsOf_1 : decode cX7_partsOf 1 = .ok (.lstore_n 2, 1) := by decide +kernel
theorem dX7_partsOf_2 : decode cX7_partsOf 2 = .ok (.iconst 0, 1) := by decide +kernel
theorem dX7_partsOf_3 : decode cX7_partsOf 3 = .ok (.istore 4, 2) := by decide +kernel
theorem dX7_partsOf_5 : decode cX7_partsOf 5 = .ok (.lload_n 2, 1) := by decide +kernel
theorem dX7_partsOf_6 : decode cX7_partsOf 6 = .ok (.lconst 0, 1) := by decide +kernel
theorem dX7_partsOf_7 : decode cX7_partsOf 7 = .ok (.lcmp, 1) := by decide +kernel
theorem dX7_partsOf_8 : decode cX7_partsOf 8 = .ok (.ifCond .eq 78, 3) := by decide +kernel
theorem dX7_partsOf_11 : decode cX7_partsOf 11 = .ok (.lload_n 2, 1) := by decide +kernel
theorem dX7_partsOf_12 : decode cX7_partsOf 12 = .ok (.lload_n 2, 1) := by decide +kernel
theorem dX7_partsOf_13 : decode cX7_partsOf 13 = .ok (.lneg, 1) := by decide +kernel
theorem dX7_partsOf_14 : decode cX7_partsOf 14 = .ok (.land, 1) := by decide +kernel
theorem dX7_partsOf_15 : decode cX7_partsOf 15 = .ok (.lstore 5, 2) := by decide +kernel
theorem dX7_partsOf_17 : decode cX7_partsOf 17 = .ok (.lconst 0, 1) := by decide +kernel
theorem dX7_partsOf_18 : decode cX7_partsOf 18 = .ok (.lstore 7, 2) := by decide +kernel
theorem dX7_partsOf_20 : decode cX7_partsOf 20 = .ok (.lload 5, 2) := by decide +kernel
theorem dX7_partsOf_22 : decode cX7_partsOf 22 = .ok (.lload 7, 2) := by decide +kernel
theorem dX7_partsOf_24 : decode cX7_partsOf 24 = .ok (.lcmp, 1) := by decide +kernel
theorem dX7_partsOf_25 : decode cX7_partsOf 25 = .ok (.ifCond .eq 46, 3) := by decide +kernel
theorem dX7_partsOf_28 : decode cX7_partsOf 28 = .ok (.lload 5, 2) := by decide +kernel
theorem dX7_partsOf_30 : decode cX7_partsOf 30 = .ok (.lstore 7, 2) := by decide +kernel
theorem dX7_partsOf_32 : decode cX7_partsOf 32 = .ok (.lload 5, 2) := by decide +kernel
theorem dX7_partsOf_34 : decode cX7_partsOf 34 = .ok (.lload 5, 2) := by decide +kernel
theorem dX7_partsOf_36 : decode cX7_partsOf 36 = .ok (.bipush 8, 2) := by decide +kernel
theorem dX7_partsOf_38 : decode cX7_partsOf 38 = .ok (.lshl, 1) := by decide +kernel
theorem dX7_partsOf_39 : decode cX7_partsOf 39 = .ok (.lload 5, 2) := by decide +kernel
theorem dX7_partsOf_41 : decode cX7_partsOf 41 = .ok (.bipush 8, 2) := by decide +kernel
theorem dX7_partsOf_43 : decode cX7_partsOf 43 = .ok (.lushr, 1) := by decide +kernel
theorem dX7_partsOf_44 : decode cX7_partsOf 44 = .ok (.lor, 1) := by decide +kernel
theorem dX7_partsOf_45 : decode cX7_partsOf 45 = .ok (.lload 5, 2) := by decide +kernel
theorem dX7_partsOf_47 : decode cX7_partsOf 47 = .ok (.iconst 1, 1) := by decide +kernel
theorem dX7_partsOf_48 : decode cX7_partsOf 48 = .ok (.lshl, 1) := by decide +kernel
theorem dX7_partsOf_49 : decode cX7_partsOf 49 = .ok (.ldc2_w 156, 3) := by decide +kernel
theorem dX7_partsOf_52 : decode cX7_partsOf 52 = .ok (.land, 1) := by decide +kernel
theorem dX7_partsOf_53 : decode cX7_partsOf 53 = .ok (.lor, 1) := by decide +kernel
theorem dX7_partsOf_54 : decode cX7_partsOf 54 = .ok (.lload 5, 2) := by decide +kernel
theorem dX7_partsOf_56 : decode cX7_partsOf 56 = .ok (.iconst 1, 1) := by decide +kernel
theorem dX7_partsOf_57 : decode cX7_partsOf 57 = .ok (.lushr, 1) := by decide +kernel
theorem dX7_partsOf_58 : decode cX7_partsOf 58 = .ok (.ldc2_w 158, 3) := by decide +kernel
theorem dX7_partsOf_61 : decode cX7_partsOf 61 = .ok (.land, 1) := by decide +kernel
theorem dX7_partsOf_62 : decode cX7_partsOf 62 = .ok (.lor, 1) := by decide +kernel
theorem dX7_partsOf_63 : decode cX7_partsOf 63 = .ok (.lload_n 2, 1) := by decide +kernel
theorem dX7_partsOf_64 : decode cX7_partsOf 64 = .ok (.land, 1) := by decide +kernel
theorem dX7_partsOf_65 : decode cX7_partsOf 65 = .ok (.lor, 1) := by decide +kernel
theorem dX7_partsOf_66 : decode cX7_partsOf 66 = .ok (.lstore 5, 2) := by decide +kernel
theorem dX7_partsOf_68 : decode cX7_partsOf 68 = .ok (.goto (-48), 3) := by decide +kernel
theorem dX7_partsOf_71 : decode cX7_partsOf 71 = .ok (.lload_n 2, 1) := by decide +kernel
theorem dX7_partsOf_72 : decode cX7_partsOf 72 = .ok (.lload 5, 2) := by decide +kernel
theorem dX7_partsOf_74 : decode cX7_partsOf 74 = .ok (.ldc2_w 116, 3) := by decide +kernel
theorem dX7_partsOf_77 : decode cX7_partsOf 77 = .ok (.lxor, 1) := by decide +kernel
theorem dX7_partsOf_78 : decode cX7_partsOf 78 = .ok (.land, 1) := by decide +kernel
theorem dX7_partsOf_79 : decode cX7_partsOf 79 = .ok (.lstore_n 2, 1) := by decide +kernel
theorem dX7_partsOf_80 : decode cX7_partsOf 80 = .ok (.iinc 4 1, 3) := by decide +kernel
theorem dX7_partsOf_83 : decode cX7_partsOf 83 = .ok (.goto (-78), 3) := by decide +kernel
theorem dX7_partsOf_86 : decode cX7_partsOf 86 = .ok (.iload 4, 2) := by decide +kernel
theorem dX7_partsOf_88 : decode cX7_partsOf 88 = .ok (.ireturn, 1) := by decide +kernel
theorem dX7_rimOf_0 : decode cX7_rimOf 0 = .ok (.iconst 0, 1) := by decide +kernel
theorem dX7_rimOf_1 : decode cX7_rimOf 1 = .ok (.istore_n 2, 1) := by decide +kernel
theorem dX7_rimOf_2 : decode cX7_rimOf 2 = .ok (.iconst 0, 1) := by decide +kernel
theorem dX7_rimOf_3 : decode cX7_rimOf 3 = .ok (.istore_n 3, 1) := by decide +kernel
theorem dX7_rimOf_4 : decode cX7_rimOf 4 = .ok (.iload_n 3, 1) := by decide +kernel
theorem dX7_rimOf_5 : decode cX7_rimOf 5 = .ok (.bipush 64, 2) := by decide +kernel
theorem dX7_rimOf_7 : decode cX7_rimOf 7 = .ok (.if_icmp .ge 110, 3) := by decide +kernel
theorem dX7_rimOf_10 : decode cX7_rimOf 10 = .ok (.iload_n 3, 1) := by decide +kernel
theorem dX7_rimOf_11 : decode cX7_rimOf 11 = .ok (.bipush 8, 2) := by decide +kernel
theorem dX7_rimOf_13 : decode cX7_rimOf 13 = .ok (.irem, 1) := by decide +kernel
theorem dX7_rimOf_14 : decode cX7_rimOf 14 = .ok (.istore 4, 2) := by decide +kernel
theorem dX7_rimOf_16 : decode cX7_rimOf 16 = .ok (.iload_n 3, 1) := by decide +kernel
theorem dX7_rimOf_17 : decode cX7_rimOf 17 = .ok (.bipush 8, 2) := by decide +kernel
theorem dX7_rimOf_19 : decode cX7_rimOf 19 = .ok (.idiv, 1) := by decide +kernel
theorem dX7_rimOf_20 : decode cX7_rimOf 20 = .ok (.istore 5, 2) := by decide +kernel
theorem dX7_rimOf_22 : decode cX7_rimOf 22 = .ok (.lload_n 0, 1) := by decide +kernel
theorem dX7_rimOf_23 : decode cX7_rimOf 23 = .ok (.iload 4, 2) := by decide +kernel
theorem dX7_rimOf_25 : decode cX7_rimOf 25 = .ok (.iload 5, 2) := by decide +kernel
theorem dX7_rimOf_27 : decode cX7_rimOf 27 = .ok (.invokestatic 96, 3) := by decide +kernel
theorem dX7_rimOf_30 : decode cX7_rimOf 30 = .ok (.ifCond .eq 81, 3) := by decide +kernel
theorem dX7_rimOf_33 : decode cX7_rimOf 33 = .ok (.iload_n 2, 1) := by decide +kernel
theorem dX7_rimOf_34 : decode cX7_rimOf 34 = .ok (.lload_n 0, 1) := by decide +kernel
theorem dX7_rimOf_35 : decode cX7_rimOf 35 = .ok (.iload 4, 2) := by decide +kernel
theorem dX7_rimOf_37 : decode cX7_rimOf 37 = .ok (.iconst 1, 1) := by decide +kernel
theorem dX7_rimOf_38 : decode cX7_rimOf 38 = .ok (.iadd, 1) := by decide +kernel
theorem dX7_rimOf_39 : decode cX7_rimOf 39 = .ok (.iload 5, 2) := by decide +kernel
theorem dX7_rimOf_41 : decode cX7_rimOf 41 = .ok (.invokestatic 96, 3) := by decide +kernel
theorem dX7_rimOf_44 : decode cX7_rimOf 44 = .ok (.ifCond .eq 7, 3) := by decide +kernel
theorem dX7_rimOf_47 : decode cX7_rimOf 47 = .ok (.iconst 0, 1) := by decide +kernel
theorem dX7_rimOf_48 : decode cX7_rimOf 48 = .ok (.goto 4, 3) := by decide +kernel
theorem dX7_rimOf_51 : decode cX7_rimOf 51 = .ok (.iconst 1, 1) := by decide +kernel
theorem dX7_rimOf_52 : decode cX7_rimOf 52 = .ok (.lload_n 0, 1) := by decide +kernel
theorem dX7_rimOf_53 : decode cX7_rimOf 53 = .ok (.iload 4, 2) := by decide +kernel
theorem dX7_rimOf_55 : decode cX7_rimOf 55 = .ok (.iconst 1, 1) := by decide +kernel
theorem dX7_rimOf_56 : decode cX7_rimOf 56 = .ok (.isub, 1) := by decide +kernel
theorem dX7_rimOf_57 : decode cX7_rimOf 57 = .ok (.iload 5, 2) := by decide +kernel
theorem dX7_rimOf_59 : decode cX7_rimOf 59 = .ok (.invokestatic 96, 3) := by decide +kernel
theorem dX7_rimOf_62 : decode cX7_rimOf 62 = .ok (.ifCond .eq 7, 3) := by decide +kernel
theorem dX7_rimOf_65 : decode cX7_rimOf 65 = .ok (.iconst 0, 1) := by decide +kernel
theorem dX7_rimOf_66 : decode cX7_rimOf 66 = .ok (.goto 4, 3) := by decide +kernel
theorem dX7_rimOf_69 : decode cX7_rimOf 69 = .ok (.iconst 1, 1) := by decide +kernel
theorem dX7_rimOf_70 : decode cX7_rimOf 70 = .ok (.iadd, 1) := by decide +kernel
theorem dX7_rimOf_71 : decode cX7_rimOf 71 = .ok (.lload_n 0, 1) := by decide +kernel
theorem dX7_rimOf_72 : decode cX7_rimOf 72 = .ok (.iload 4, 2) := by decide +kernel
theorem dX7_rimOf_74 : decode cX7_rimOf 74 = .ok (.iload 5, 2) := by decide +kernel
theorem dX7_rimOf_76 : decode cX7_rimOf 76 = .ok (.iconst 1, 1) := by decide +kernel
theorem dX7_rimOf_77 : decode cX7_rimOf 77 = .ok (.iadd, 1) := by decide +kernel
theorem dX7_rimOf_78 : decode cX7_rimOf 78 = .ok (.invokestatic 96, 3) := by decide +kernel
theorem dX7_rimOf_81 : decode cX7_rimOf 81 = .ok (.ifCond .eq 7, 3) := by decide +kernel
theorem dX7_rimOf_84 : decode cX7_rimOf 84 = .ok (.iconst 0, 1) := by decide +kernel
theorem dX7_rimOf_85 : decode cX7_rimOf 85 = .ok (.goto 4, 3) := by decide +kernel
theorem dX7_rimOf_88 : decode cX7_rimOf 88 = .ok (.iconst 1, 1) := by decide +kernel
theorem dX7_rimOf_89 : decode cX7_rimOf 89 = .ok (.iadd, 1) := by decide +kernel
theorem dX7_rimOf_90 : decode cX7_rimOf 90 = .ok (.lload_n 0, 1) := by decide +kernel
theorem dX7_rimOf_91 : decode cX7_rimOf 91 = .ok (.iload 4, 2) := by decide +kernel
theorem dX7_rimOf_93 : decode cX7_rimOf 93 = .ok (.iload 5, 2) := by decide +kernel
theorem dX7_rimOf_95 : decode cX7_rimOf 95 = .ok (.iconst 1, 1) := by decide +kernel
theorem dX7_rimOf_96 : decode cX7_rimOf 96 = .ok (.isub, 1) := by decide +kernel
theorem dX7_rimOf_97 : decode cX7_rimOf 97 = .ok (.invokestatic 96, 3) := by decide +kernel
theorem dX7_rimOf_100 : decode cX7_rimOf 100 = .ok (.ifCond .eq 7, 3) := by decide +kernel
theorem dX7_rimOf_103 : decode cX7_rimOf 103 = .ok (.iconst 0, 1) := by decide +kernel
theorem dX7_rimOf_104 : decode cX7_rimOf 104 = .ok (.goto 4, 3) := by decide +kernel
theorem dX7_rimOf_107 : decode cX7_rimOf 107 = .ok (.iconst 1, 1) := by decide +kernel
theorem dX7_rimOf_108 : decode cX7_rimOf 108 = .ok (.iadd, 1) := by decide +kernel
theorem dX7_rimOf_109 : decode cX7_rimOf 109 = .ok (.iadd, 1) := by decide +kernel
theorem dX7_rimOf_110 : decode cX7_rimOf 110 = .ok (.istore_n 2, 1) := by decide +kernel
theorem dX7_rimOf_111 : decode cX7_rimOf 111 = .ok (.iinc 3 1, 3) := by decide +kernel
theorem dX7_rimOf_114 : decode cX7_rimOf 114 = .ok (.goto (-110), 3) := by decide +kernel
theorem dX7_rimOf_117 : decode cX7_rimOf 117 = .ok (.iload_n 2, 1) := by decide +kernel
theorem dX7_rimOf_118 : decode cX7_rimOf 118 = .ok (.ireturn, 1) := by decide +kernel
theorem dX7_blocksOf_0 : decode cX7_blocksOf 0 = .ok (.lload_n 0, 1) := by decide +kernel
theorem dX7_blocksOf_1 : decode cX7_blocksOf 1 = .ok (.lstore_n 2, 1) := by decide +kernel
theorem dX7_blocksOf_2 : decode cX7_blocksOf 2 = .ok (.iconst 0, 1) := by decide +kernel
theorem dX7_blocksOf_3 : decode cX7_blocksOf 3 = .ok (.istore 4, 2) := by decide +kernel
theorem dX7_blocksOf_5 : decode cX7_blocksOf 5 = .ok (.iconst 0, 1) := by decide +kernel
theorem dX7_blocksOf_6 : decode cX7_blocksOf 6 = .ok (.istore 5, 2) := by decide +kernel
theorem dX7_blocksOf_8 : decode cX7_blocksOf 8 = .ok (.iload 5, 2) := by decide +kernel
theorem dX7_blocksOf_10 : decode cX7_blocksOf 10 = .ok (.iconst 4, 1) := by decide +kernel
theorem dX7_blocksOf_11 : decode cX7_blocksOf 11 = .ok (.if_icmp .ge 90, 3) := by decide +kernel
theorem dX7_blocksOf_14 : decode cX7_blocksOf 14 = .ok (.iconst 0, 1) := by decide +kernel
theorem dX7_blocksOf_15 : decode cX7_blocksOf 15 = .ok (.istore 6, 2) := by decide +kernel
theorem dX7_blocksOf_17 : decode cX7_blocksOf 17 = .ok (.iload 6, 2) := by decide +kernel
theorem dX7_blocksOf_19 : decode cX7_blocksOf 19 = .ok (.iconst 1, 1) := by decide +kernel
theorem dX7_blocksOf_20 : decode cX7_blocksOf 20 = .ok (.iconst 2, 1) := by decide +kernel
theorem dX7_blocksOf_21 : decode cX7_blocksOf 21 = .ok (.iload 5, 2) := by decide +kernel
theorem dX7_blocksOf_23 : decode cX7_blocksOf 23 = .ok (.imul, 1) := by decide +kernel
theorem dX7_blocksOf_24 : decode cX7_blocksOf 24 = .ok (.ishl, 1) := by decide +kernel
theorem dX7_blocksOf_25 : decode cX7_blocksOf 25 = .ok (.if_icmp .ge 70, 3) := by decide +kernel
theorem dX7_blocksOf_28 : decode cX7_blocksOf 28 = .ok (.iload 5, 2) := by decide +kernel
theorem dX7_blocksOf_30 : decode cX7_blocksOf 30 = .ok (.iload 6, 2) := by decide +kernel
theorem dX7_blocksOf_32 : decode cX7_blocksOf 32 = .ok (.invokestatic 142, 3) := by decide +kernel
theorem dX7_blocksOf_35 : decode cX7_blocksOf 35 = .ok (.lstore 7, 2) := by decide +kernel
theorem dX7_blocksOf_37 : decode cX7_blocksOf 37 = .ok (.lload_n 2, 1) := by decide +kernel
theorem dX7_blocksOf_38 : decode cX7_blocksOf 38 = .ok (.lload 7, 2) := by decide +kernel
theorem dX7_blocksOf_40 : decode cX7_blocksOf 40 = .ok (.land, 1) := by decide +kernel
theorem dX7_blocksOf_41 : decode cX7_blocksOf 41 = .ok (.lload 7, 2) := by decide +kernel
theorem dX7_blocksOf_43 : decode cX7_blocksOf 43 = .ok (.lcmp, 1) := by decide +kernel
theorem dX7_blocksOf_44 : decode cX7_blocksOf 44 = .ok (.ifCond .ne 7, 3) := by decide +kernel
theorem dX7_blocksOf_47 : decode cX7_blocksOf 47 = .ok (.iconst 1, 1) := by decide +kernel
theorem dX7_blocksOf_48 : decode cX7_blocksOf 48 = .ok (.goto 4, 3) := by decide +kernel
theorem dX7_blocksOf_51 : decode cX7_blocksOf 51 = .ok (.iconst 0, 1) := by decide +kernel
theorem dX7_blocksOf_52 : decode cX7_blocksOf 52 = .ok (.istore 9, 2) := by decide +kernel
theorem dX7_blocksOf_54 : decode cX7_blocksOf 54 = .ok (.iload 4, 2) := by decide +kernel
theorem dX7_blocksOf_56 : decode cX7_blocksOf 56 = .ok (.iload 9, 2) := by decide +kernel
theorem dX7_blocksOf_58 : decode cX7_blocksOf 58 = .ok (.ifCond .eq 7, 3) := by decide +kernel
theorem dX7_blocksOf_61 : decode cX7_blocksOf 61 = .ok (.iconst 1, 1) := by decide +kernel
theorem dX7_blocksOf_62 : decode cX7_blocksOf 62 = .ok (.goto 4, 3) := by decide +kernel
theorem dX7_blocksOf_65 : decode cX7_blocksOf 65 = .ok (.iconst 0, 1) := by decide +kernel
theorem dX7_blocksOf_66 : decode cX7_blocksOf 66 = .ok (.iadd, 1) := by decide +kernel
theorem dX7_blocksOf_67 : decode cX7_blocksOf 67 = .ok (.istore 4, 2) := by decide +kernel
theorem dX7_blocksOf_69 : decode cX7_blocksOf 69 = .ok (.lload_n 2, 1) := by decide +kernel
theorem dX7_blocksOf_70 : decode cX7_blocksOf 70 = .ok (.iload 9, 2) := by decide +kernel
theorem dX7_blocksOf_72 : decode cX7_blocksOf 72 = .ok (.ifCond .eq 12, 3) := by decide +kernel
theorem dX7_blocksOf_75 : decode cX7_blocksOf 75 = .ok (.lload 7, 2) := by decide +kernel
theorem dX7_blocksOf_77 : decode cX7_blocksOf 77 = .ok (.ldc2_w 116, 3) := by decide +kernel
theorem dX7_blocksOf_80 : decode cX7_blocksOf 80 = .ok (.lxor, 1) := by decide +kernel
theorem dX7_blocksOf_81 : decode cX7_blocksOf 81 = .ok (.goto 6, 3) := by decide +kernel
theorem dX7_blocksOf_84 : decode cX7_blocksOf 84 = .ok (.ldc2_w 116, 3) := by decide +kernel
theorem dX7_blocksOf_87 : decode cX7_blocksOf 87 = .ok (.land, 1) := by decide +kernel
theorem dX7_blocksOf_88 : decode cX7_blocksOf 88 = .ok (.lstore_n 2, 1) := by decide +kernel
theorem dX7_blocksOf_89 : decode cX7_blocksOf 89 = .ok (.iinc 6 1, 3) := by decide +kernel
theorem dX7_blocksOf_92 : decode cX7_blocksOf 92 = .ok (.goto (-75), 3) := by decide +kernel
theorem dX7_blocksOf_95 : decode cX7_blocksOf 95 = .ok (.iinc 5 1, 3) := by decide +kernel
theorem dX7_blocksOf_98 : decode cX7_blocksOf 98 = .ok (.goto (-90), 3) := by decide +kernel
theorem dX7_blocksOf_101 : decode cX7_blocksOf 101 = .ok (.iload 4, 2) := by decide +kernel
theorem dX7_blocksOf_103 : decode cX7_blocksOf 103 = .ok (.ireturn, 1) := by decide +kernel
theorem dX7_look_0 : decode cX7_look 0 = .ok (.iload_n 1, 1) := by decide +kernel
theorem dX7_look_1 : decode cX7_look 1 = .ok (.invokestatic 106, 3) := by decide +kernel
theorem dX7_look_4 : decode cX7_look 4 = .ok (.ifCond .ne 5, 3) := by decide +kernel
theorem dX7_look_7 : decode cX7_look 7 = .ok (.iconst (-1), 1) := by decide +kernel
theorem dX7_look_8 : decode cX7_look 8 = .ok (.ireturn, 1) := by decide +kernel
theorem dX7_look_9 : decode cX7_look 9 = .ok (.iload_n 2, 1) := by decide +kernel
theorem dX7_look_10 : decode cX7_look 10 = .ok (.tableswitch 89 0 4 #[34, 44, 59, 69, 79], 34) := by decide +kernel
theorem dX7_look_44 : decode cX7_look 44 = .ok (.aload_n 0, 1) := by decide +kernel
theorem dX7_look_45 : decode cX7_look 45 = .ok (.getfield 13, 3) := by decide +kernel
theorem dX7_look_48 : decode cX7_look 48 = .ok (.iload_n 1, 1) := by decide +kernel
theorem dX7_look_49 : decode cX7_look 49 = .ok (.laload, 1) := by decide +kernel
theorem dX7_look_50 : decode cX7_look 50 = .ok (.invokestatic 112, 3) := by decide +kernel
theorem dX7_look_53 : decode cX7_look 53 = .ok (.ireturn, 1) := by decide +kernel
theorem dX7_look_54 : decode cX7_look 54 = .ok (.aload_n 0, 1) := by decide +kernel
theorem dX7_look_55 : decode cX7_look 55 = .ok (.aload_n 0, 1) := by decide +kernel
theorem dX7_look_56 : decode cX7_look 56 = .ok (.getfield 13, 3) := by decide +kernel
theorem dX7_look_59 : decode cX7_look 59 = .ok (.iload_n 1, 1) := by decide +kernel
theorem dX7_look_60 : decode cX7_look 60 = .ok (.laload, 1) := by decide +kernel
theorem dX7_look_61 : decode cX7_look 61 = .ok (.invokevirtual 160, 3) := by decide +kernel
theorem dX7_look_64 : decode cX7_look 64 = .ok (.aload_n 0, 1) := by decide +kernel
theorem dX7_look_65 : decode cX7_look 65 = .ok (.getfield 146, 3) := by decide +kernel
theorem dX7_look_68 : decode cX7_look 68 = .ok (.ireturn, 1) := by decide +kernel
theorem dX7_look_69 : decode cX7_look 69 = .ok (.aload_n 0, 1) := by decide +kernel
theorem dX7_look_70 : decode cX7_look 70 = .ok (.getfield 13, 3) := by decide +kernel
theorem dX7_look_73 : decode cX7_look 73 = .ok (.iload_n 1, 1) := by decide +kernel
theorem dX7_look_74 : decode cX7_look 74 = .ok (.laload, 1) := by decide +kernel
theorem dX7_look_75 : decode cX7_look 75 = .ok (.invokestatic 164, 3) := by decide +kernel
theorem dX7_look_78 : decode cX7_look 78 = .ok (.ireturn, 1) := by decide +kernel
theorem dX7_look_79 : decode cX7_look 79 = .ok (.aload_n 0, 1) := by decide +kernel
theorem dX7_look_80 : decode cX7_look 80 = .ok (.getfield 13, 3) := by decide +kernel
theorem dX7_look_83 : decode cX7_look 83 = .ok (.iload_n 1, 1) := by decide +kernel
theorem dX7_look_84 : decode cX7_look 84 = .ok (.laload, 1) := by decide +kernel
theorem dX7_look_85 : decode cX7_look 85 = .ok (.invokestatic 167, 3) := by decide +kernel
theorem dX7_look_88 : decode cX7_look 88 = .ok (.ireturn, 1) := by decide +kernel
theorem dX7_look_89 : decode cX7_look 89 = .ok (.aload_n 0, 1) := by decide +kernel
theorem dX7_look_90 : decode cX7_look 90 = .ok (.getfield 13, 3) := by decide +kernel
theorem dX7_look_93 : decode cX7_look 93 = .ok (.iload_n 1, 1) := by decide +kernel
theorem dX7_look_94 : decode cX7_look 94 = .ok (.laload, 1) := by decide +kernel
theorem dX7_look_95 : decode cX7_look 95 = .ok (.invokestatic 170, 3) := by decide +kernel
theorem dX7_look_98 : decode cX7_look 98 = .ok (.ireturn, 1) := by decide +kernel
theorem dX7_look_99 : decode cX7_look 99 = .ok (.bipush (-2), 2) := by decide +kernel
theorem dX7_look_101 : decode cX7_look 101 = .ok (.ireturn, 1) := by decide +kernel
theorem dX7_letter_0 : decode cX7_letter 0 = .ok (.iload_n 1, 1) := by decide +kernel
theorem dX7_letter_1 : decode cX7_letter 1 = .ok (.invokestatic 106, 3) := by decide +kernel
theorem dX7_letter_4 : decode cX7_letter 4 = .ok (.ifCond .ne 5, 3) := by decide +kernel
theorem dX7_letter_7 : decode cX7_letter 7 = .ok (.iconst (-1), 1) := by decide +kernel
theorem dX7_letter_8 : decode cX7_letter 8 = .ok (.ireturn, 1) := by decide +kernel
theorem dX7_letter_9 : decode cX7_letter 9 = .ok (.aload_n 0, 1) := by decide +kernel
theorem dX7_letter_10 : decode cX7_letter 10 = .ok (.aload_n 0, 1) := by decide +kernel
theorem dX7_letter_11 : decode cX7_letter 11 = .ok (.getfield 13, 3) := by decide +kernel
theorem dX7_letter_14 : decode cX7_letter 14 = .ok (.iload_n 1, 1) := by decide +kernel
theorem dX7_letter_15 : decode cX7_letter 15 = .ok (.laload, 1) := by decide +kernel
theorem dX7_letter_16 : decode cX7_letter 16 = .ok (.invokevirtual 160, 3) := by decide +kernel
theorem dX7_letter_19 : decode cX7_letter 19 = .ok (.iload_n 2, 1) := by decide +kernel
theorem dX7_letter_20 : decode cX7_letter 20 = .ok (.i2l, 1) := by decide +kernel
theorem dX7_letter_21 : decode cX7_letter 21 = .ok (.lconst 0, 1) := by decide +kernel
theorem dX7_letter_22 : decode cX7_letter 22 = .ok (.aload_n 0, 1) := by decide +kernel
theorem dX7_letter_23 : decode cX7_letter 23 = .ok (.getfield 146, 3) := by decide +kernel
theorem dX7_letter_26 : decode cX7_letter 26 = .ok (.iconst 1, 1) := by decide +kernel
theorem dX7_letter_27 : decode cX7_letter 27 = .ok (.isub, 1) := by decide +kernel
theorem dX7_letter_28 : decode cX7_letter 28 = .ok (.i2l, 1) := by decide +kernel
theorem dX7_letter_29 : decode cX7_letter 29 = .ok (.invokestatic 44, 3) := by decide +kernel
theorem dX7_letter_32 : decode cX7_letter 32 = .ok (.ifCond .eq 12, 3) := by decide +kernel
theorem dX7_letter_35 : decode cX7_letter 35 = .ok (.aload_n 0, 1) := by decide +kernel
theorem dX7_letter_36 : decode cX7_letter 36 = .ok (.getfield 20, 3) := by decide +kernel
theorem dX7_letter_39 : decode cX7_letter 39 = .ok (.iload_n 2, 1) := by decide +kernel
theorem dX7_letter_40 : decode cX7_letter 40 = .ok (.iaload, 1) := by decide +kernel
theorem dX7_letter_41 : decode cX7_letter 41 = .ok (.goto 5, 3) := by decide +kernel
theorem dX7_letter_44 : decode cX7_letter 44 = .ok (.bipush (-9), 2) := by decide +kernel
theorem dX7_letter_46 : decode cX7_letter 46 = .ok (.ireturn, 1) := by decide +kernel
theorem dX7_at_0 : decode cX7_at 0 = .ok (.iload_n 1, 1) := by decide +kernel
theorem dX7_at_1 : decode cX7_at 1 = .ok (.invokestatic 106, 3) := by decide +kernel
theorem dX7_at_4 : decode cX7_at 4 = .ok (.ifCond .eq 15, 3) := by decide +kernel
theorem dX7_at_7 : decode cX7_at 7 = .ok (.iload_n 2, 1) := by decide +kernel
theorem dX7_at_8 : decode cX7_at 8 = .ok (.i2l, 1) := by decide +kernel
theorem dX7_at_9 : decode cX7_at 9 = .ok (.lconst 0, 1) := by decide +kernel
theorem dX7_at_10 : decode cX7_at 10 = .ok (.ldc2_w 173, 3) := by decide +kernel
theorem dX7_at_13 : decode cX7_at 13 = .ok (.invokestatic 44, 3) := by decide +kernel
theorem dX7_at_16 : decode cX7_at 16 = .ok (.ifCond .ne 5, 3) := by decide +kernel
theorem dX7_at_19 : decode cX7_at 19 = .ok (.iconst (-1), 1) := by decide +kernel
theorem dX7_at_20 : decode cX7_at 20 = .ok (.ireturn, 1) := by decide +kernel
theorem dX7_at_21 : decode cX7_at 21 = .ok (.iload_n 3, 1) := by decide +kernel
theorem dX7_at_22 : decode cX7_at 22 = .ok (.i2l, 1) := by decide +kernel
theorem dX7_at_23 : decode cX7_at 23 = .ok (.lconst 0, 1) := by decide +kernel
theorem dX7_at_24 : decode cX7_at 24 = .ok (.ldc2_w 83, 3) := by decide +kernel
theorem dX7_at_27 : decode cX7_at 27 = .ok (.invokestatic 44, 3) := by decide +kernel
theorem dX7_at_30 : decode cX7_at 30 = .ok (.ifCond .ne 6, 3) := by decide +kernel
theorem dX7_at_33 : decode cX7_at 33 = .ok (.bipush (-2), 2) := by decide +kernel
theorem dX7_at_35 : decode cX7_at 35 = .ok (.ireturn, 1) := by decide +kernel
theorem dX7_at_36 : decode cX7_at 36 = .ok (.aload_n 0, 1) := by decide +kernel
theorem dX7_at_37 : decode cX7_at 37 = .ok (.aload_n 0, 1) := by decide +kernel
theorem dX7_at_38 : decode cX7_at 38 = .ok (.getfield 13, 3) := by decide +kernel
theorem dX7_at_41 : decode cX7_at 41 = .ok (.iload_n 1, 1) := by decide +kernel
theorem dX7_at_42 : decode cX7_at 42 = .ok (.laload, 1) := by decide +kernel
theorem dX7_at_43 : decode cX7_at 43 = .ok (.invokevirtual 160, 3) := by decide +kernel
theorem dX7_at_46 : decode cX7_at 46 = .ok (.iload_n 3, 1) := by decide +kernel
theorem dX7_at_47 : decode cX7_at 47 = .ok (.ifCond .ne 17, 3) := by decide +kernel
theorem dX7_at_50 : decode cX7_at 50 = .ok (.aload_n 0, 1) := by decide +kernel
theorem dX7_at_51 : decode cX7_at 51 = .ok (.getfield 13, 3) := by decide +kernel
theorem dX7_at_54 : decode cX7_at 54 = .ok (.iload_n 1, 1) := by decide +kernel
theorem dX7_at_55 : decode cX7_at 55 = .ok (.laload, 1) := by decide +kernel
theorem dX7_at_56 : decode cX7_at 56 = .ok (.iload_n 2, 1) := by decide +kernel
theorem dX7_at_57 : decode cX7_at 57 = .ok (.lushr, 1) := by decide +kernel
theorem dX7_at_58 : decode cX7_at 58 = .ok (.lconst 1, 1) := by decide +kernel
theorem dX7_at_59 : decode cX7_at 59 = .ok (.land, 1) := by decide +kernel
theorem dX7_at_60 : decode cX7_at 60 = .ok (.l2i, 1) := by decide +kernel
theorem dX7_at_61 : decode cX7_at 61 = .ok (.goto 23, 3) := by decide +kernel
theorem dX7_at_64 : decode cX7_at 64 = .ok (.iload_n 3, 1) := by decide +kernel
theorem dX7_at_65 : decode cX7_at 65 = .ok (.iconst 1, 1) := by decide +kernel
theorem dX7_at_66 : decode cX7_at 66 = .ok (.if_icmp .ne 12, 3) := by decide +kernel
theorem dX7_at_69 : decode cX7_at 69 = .ok (.aload_n 0, 1) := by decide +kernel
theorem dX7_at_70 : decode cX7_at 70 = .ok (.getfield 23, 3) := by decide +kernel
theorem dX7_at_73 : decode cX7_at 73 = .ok (.iload_n 2, 1) := by decide +kernel
theorem dX7_at_74 : decode cX7_at 74 = .ok (.iaload, 1) := by decide +kernel
theorem dX7_at_75 : decode cX7_at 75 = .ok (.goto 9, 3) := by decide +kernel
theorem dX7_at_78 : decode cX7_at 78 = .ok (.aload_n 0, 1) := by decide +kernel
theorem dX7_at_79 : decode cX7_at 79 = .ok (.getfield 26, 3) := by decide +kernel
theorem dX7_at_82 : decode cX7_at 82 = .ok (.iload_n 2, 1) := by decide +kernel
theorem dX7_at_83 : decode cX7_at 83 = .ok (.iaload, 1) := by decide +kernel
theorem dX7_at_84 : decode cX7_at 84 = .ok (.ireturn, 1) := by decide +kernel
theorem dX7_byWay_0 : decode cX7_byWay 0 = .ok (.iload_n 2, 1) := by decide +kernel
theorem dX7_byWay_1 : decode cX7_byWay 1 = .ok (.iconst 3, 1) := by decide +kernel
theorem dX7_byWay_2 : decode cX7_byWay 2 = .ok (.if_icmp .le 10, 3) := by decide +kernel
theorem dX7_byWay_5 : decode cX7_byWay 5 = .ok (.lload_n 0, 1) := by decide +kernel
theorem dX7_byWay_6 : decode cX7_byWay 6 = .ok (.invokestatic 130, 3) := by decide +kernel
theorem dX7_byWay_9 : decode cX7_byWay 9 = .ok (.goto 4, 3) := by decide +kernel
theorem dX7_byWay_12 : decode cX7_byWay 12 = .ok (.lload_n 0, 1) := by decide +kernel
theorem dX7_byWay_13 : decode cX7_byWay 13 = .ok (.lstore_n 3, 1) := by decide +kernel
theorem dX7_byWay_14 : decode cX7_byWay 14 = .ok (.iconst 0, 1) := by decide +kernel
theorem dX7_byWay_15 : decode cX7_byWay 15 = .ok (.istore 5, 2) := by decide +kernel
theorem dX7_byWay_17 : decode cX7_byWay 17 = .ok (.iload 5, 2) := by decide +kernel
theorem dX7_byWay_19 : decode cX7_byWay 19 = .ok (.iload_n 2, 1) := by decide +kernel
theorem dX7_byWay_20 : decode cX7_byWay 20 = .ok (.iconst 4, 1) := by decide +kernel
theorem dX7_byWay_21 : decode cX7_byWay 21 = .ok (.irem, 1) := by decide +kernel
theorem dX7_byWay_22 : decode cX7_byWay 22 = .ok (.if_icmp .ge 14, 3) := by decide +kernel
theorem dX7_byWay_25 : decode cX7_byWay 25 = .ok (.lload_n 3, 1) := by decide +kernel
theorem dX7_byWay_26 : decode cX7_byWay 26 = .ok (.invokestatic 126, 3) := by decide +kernel
theorem dX7_byWay_29 : decode cX7_byWay 29 = .ok (.lstore_n 3, 1) := by decide +kernel
theorem dX7_byWay_30 : decode cX7_byWay 30 = .ok (.iinc 5 1, 3) := by decide +kernel
theorem dX7_byWay_33 : decode cX7_byWay 33 = .ok (.goto (-16), 3) := by decide +kernel
theorem dX7_byWay_36 : decode cX7_byWay 36 = .ok (.lload_n 3, 1) := by decide +kernel
theorem dX7_byWay_37 : decode cX7_byWay 37 = .ok (.lreturn, 1) := by decide +kernel
theorem dX7_waysOf_0 : decode cX7_waysOf 0 = .ok (.iconst 0, 1) := by decide +kernel
theorem dX7_waysOf_1 : decode cX7_waysOf 1 = .ok (.istore 4, 2) := by decide +kernel
theorem dX7_waysOf_3 : decode cX7_waysOf 3 = .ok (.iconst 0, 1) := by decide +kernel
theorem dX7_waysOf_4 : decode cX7_waysOf 4 = .ok (.istore 5, 2) := by decide +kernel
theorem dX7_waysOf_6 : decode cX7_waysOf 6 = .ok (.iload 5, 2) := by decide +kernel
theorem dX7_waysOf_8 : decode cX7_waysOf 8 = .ok (.bipush 8, 2) := by decide +kernel
theorem dX7_waysOf_10 : decode cX7_waysOf 10 = .ok (.if_icmp .ge 33, 3) := by decide +kernel
theorem dX7_waysOf_13 : decode cX7_waysOf 13 = .ok (.iload 4, 2) := by decide +kernel
theorem dX7_waysOf_15 : decode cX7_waysOf 15 = .ok (.lload_n 0, 1) := by decide +kernel
theorem dX7_waysOf_16 : decode cX7_waysOf 16 = .ok (.iload 5, 2) := by decide +kernel
theorem dX7_waysOf_18 : decode cX7_waysOf 18 = .ok (.invokestatic 175, 3) := by decide +kernel
theorem dX7_waysOf_21 : decode cX7_waysOf 21 = .ok (.lload_n 2, 1) := by decide +kernel
theorem dX7_waysOf_22 : decode cX7_waysOf 22 = .ok (.lcmp, 1) := by decide +kernel
theorem dX7_waysOf_23 : decode cX7_waysOf 23 = .ok (.ifCond .ne 10, 3) := by decide +kernel
theorem dX7_waysOf_26 : decode cX7_waysOf 26 = .ok (.iconst 1, 1) := by decide +kernel
theorem dX7_waysOf_27 : decode cX7_waysOf 27 = .ok (.iload 5, 2) := by decide +kernel
theorem dX7_waysOf_29 : decode cX7_waysOf 29 = .ok (.ishl, 1) := by decide +kernel
theorem dX7_waysOf_30 : decode cX7_waysOf 30 = .ok (.goto 4, 3) := by decide +kernel
theorem dX7_waysOf_33 : decode cX7_waysOf 33 = .ok (.iconst 0, 1) := by decide +kernel
theorem dX7_waysOf_34 : decode cX7_waysOf 34 = .ok (.ior, 1) := by decide +kernel
theorem dX7_waysOf_35 : decode cX7_waysOf 35 = .ok (.istore 4, 2) := by decide +kernel
theorem dX7_waysOf_37 : decode cX7_waysOf 37 = .ok (.iinc 5 1, 3) := by decide +kernel
theorem dX7_waysOf_40 : decode cX7_waysOf 40 = .ok (.goto (-34), 3) := by decide +kernel
theorem dX7_waysOf_43 : decode cX7_waysOf 43 = .ok (.iload 4, 2) := by decide +kernel
theorem dX7_waysOf_45 : decode cX7_waysOf 45 = .ok (.ireturn, 1) := by decide +kernel
theorem dX7_alike_0 : decode cX7_alike 0 = .ok (.iload_n 1, 1) := by decide +kernel
theorem dX7_alike_1 : decode cX7_alike 1 = .ok (.invokestatic 106, 3) := by decide +kernel
theorem dX7_alike_4 : decode cX7_alike 4 = .ok (.ifCond .eq 28, 3) := by decide +kernel
theorem dX7_alike_7 : decode cX7_alike 7 = .ok (.iload_n 2, 1) := by decide +kernel
theorem dX7_alike_8 : decode cX7_alike 8 = .ok (.invokestatic 106, 3) := by decide +kernel
theorem dX7_alike_11 : decode cX7_alike 11 = .ok (.ifCond .eq 21, 3) := by decide +kernel
theorem dX7_alike_14 : decode cX7_alike 14 = .ok (.aload_n 0, 1) := by decide +kernel
theorem dX7_alike_15 : decode cX7_alike 15 = .ok (.getfield 13, 3) := by decide +kernel
theorem dX7_alike_18 : decode cX7_alike 18 = .ok (.iload_n 1, 1) := by decide +kernel
theorem dX7_alike_19 : decode cX7_alike 19 = .ok (.laload, 1) := by decide +kernel
theorem dX7_alike_20 : decode cX7_alike 20 = .ok (.aload_n 0, 1) := by decide +kernel
theorem dX7_alike_21 : decode cX7_alike 21 = .ok (.getfield 13, 3) := by decide +kernel
theorem dX7_alike_24 : decode cX7_alike 24 = .ok (.iload_n 2, 1) := by decide +kernel
theorem dX7_alike_25 : decode cX7_alike 25 = .ok (.laload, 1) := by decide +kernel
theorem dX7_alike_26 : decode cX7_alike 26 = .ok (.invokestatic 178, 3) := by decide +kernel
theorem dX7_alike_29 : decode cX7_alike 29 = .ok (.goto 4, 3) := by decide +kernel
theorem dX7_alike_32 : decode cX7_alike 32 = .ok (.iconst (-1), 1) := by decide +kernel
theorem dX7_alike_33 : decode cX7_alike 33 = .ok (.ireturn, 1) := by decide +kernel
theorem dX7_near_0 : decode cX7_near 0 = .ok (.iload_n 1, 1) := by decide +kernel
theorem dX7_near_1 : decode cX7_near 1 = .ok (.invokestatic 106, 3) := by decide +kernel
theorem dX7_near_4 : decode cX7_near 4 = .ok (.ifCond .eq 10, 3) := by decide +kernel
theorem dX7_near_7 : decode cX7_near 7 = .ok (.iload_n 2, 1) := by decide +kernel
theorem dX7_near_8 : decode cX7_near 8 = .ok (.invokestatic 106, 3) := by decide +kernel
theorem dX7_near_11 : decode cX7_near 11 = .ok (.ifCond .ne 5, 3) := by decide +kernel
theorem dX7_near_14 : decode cX7_near 14 = .ok (.iconst (-1), 1) := by decide +kernel
theorem dX7_near_15 : decode cX7_near 15 = .ok (.ireturn, 1) := by decide +kernel
theorem dX7_near_16 : decode cX7_near 16 = .ok (.iload_n 3, 1) := by decide +kernel
theorem dX7_near_17 : decode cX7_near 17 = .ok (.i2l, 1) := by decide +kernel
theorem dX7_near_18 : decode cX7_near 18 = .ok (.lconst 0, 1) := by decide +kernel
theorem dX7_near_19 : decode cX7_near 19 = .ok (.lconst 1, 1) := by decide +kernel
theorem dX7_near_20 : decode cX7_near 20 = .ok (.invokestatic 44, 3) := by decide +kernel
theorem dX7_near_23 : decode cX7_near 23 = .ok (.ifCond .ne 6, 3) := by decide +kernel
theorem dX7_near_26 : decode cX7_near 26 = .ok (.bipush (-2), 2) := by decide +kernel
theorem dX7_near_28 : decode cX7_near 28 = .ok (.ireturn, 1) := by decide +kernel
theorem dX7_near_29 : decode cX7_near 29 = .ok (.bipush 65, 2) := by decide +kernel
theorem dX7_near_31 : decode cX7_near 31 = .ok (.istore 4, 2) := by decide +kernel
theorem dX7_near_33 : decode cX7_near 33 = .ok (.iconst 0, 1) := by decide +kernel
theorem dX7_near_34 : decode cX7_near 34 = .ok (.istore 5, 2) := by decide +kernel
theorem dX7_near_36 : decode cX7_near 36 = .ok (.iconst 0, 1) := by decide +kernel
theorem dX7_near_37 : decode cX7_near 37 = .ok (.istore 6, 2) := by decide +kernel
theorem dX7_near_39 : decode cX7_near 39 = .ok (.iload 6, 2) := by decide +kernel
theorem dX7_near_41 : decode cX7_near 41 = .ok (.bipush 8, 2) := by decide +kernel
theorem dX7_near_43 : decode cX7_near 43 = .ok (.if_icmp .ge 64, 3) := by decide +kernel
theorem dX7_near_46 : decode cX7_near 46 = .ok (.aload_n 0, 1) := by decide +kernel
theorem dX7_near_47 : decode cX7_near 47 = .ok (.getfield 13, 3) := by decide +kernel
theorem dX7_near_50 : decode cX7_near 50 = .ok (.iload_n 1, 1) := by decide +kernel
theorem dX7_near_51 : decode cX7_near 51 = .ok (.laload, 1) := by decide +kernel
theorem dX7_near_52 : decode cX7_near 52 = .ok (.iload 6, 2) := by decide +kernel
theorem dX7_near_54 : decode cX7_near 54 = .ok (.invokestatic 175, 3) := by decide +kernel
theorem dX7_near_57 : decode cX7_near 57 = .ok (.aload_n 0, 1) := by decide +kernel
theorem dX7_near_58 : decode cX7_near 58 = .ok (.getfield 13, 3) := by decide +kernel
theorem dX7_near_61 : decode cX7_near 61 = .ok (.iload_n 2, 1) := by decide +kernel
theorem dX7_near_62 : decode cX7_near 62 = .ok (.laload, 1) := by decide +kernel
theorem dX7_near_63 : decode cX7_near 63 = .ok (.lxor, 1) := by decide +kernel
theorem dX7_near_64 : decode cX7_near 64 = .ok (.invokestatic 112, 3) := by decide +kernel
theorem dX7_near_67 : decode cX7_near 67 = .ok (.istore 7, 2) := by decide +kernel
theorem dX7_near_69 : decode cX7_near 69 = .ok (.iload 7, 2) := by decide +kernel
theorem dX7_near_71 : decode cX7_near 71 = .ok (.iload 4, 2) := by decide +kernel
theorem dX7_near_73 : decode cX7_near 73 = .ok (.if_icmp .ge 8, 3) := by decide +kernel
theorem dX7_near_76 : decode cX7_near 76 = .ok (.iload 6, 2) := by decide +kernel
theorem dX7_near_78 : decode cX7_near 78 = .ok (.goto 5, 3) := by decide +kernel
theorem dX7_near_81 : decode cX7_near 81 = .ok (.iload 5, 2) := by decide +kernel
theorem dX7_near_83 : decode cX7_near 83 = .ok (.istore 5, 2) := by decide +kernel
theorem dX7_near_85 : decode cX7_near 85 = .ok (.iload 7, 2) := by decide +kernel
theorem dX7_near_87 : decode cX7_near 87 = .ok (.iload 4, 2) := by decide +kernel
theorem dX7_near_89 : decode cX7_near 89 = .ok (.if_icmp .ge 8, 3) := by decide +kernel
theorem dX7_near_92 : decode cX7_near 92 = .ok (.iload 7, 2) := by decide +kernel
theorem dX7_near_94 : decode cX7_near 94 = .ok (.goto 5, 3) := by decide +kernel
theorem dX7_near_97 : decode cX7_near 97 = .ok (.iload 4, 2) := by decide +kernel
theorem dX7_near_99 : decode cX7_near 99 = .ok (.istore 4, 2) := by decide +kernel
theorem dX7_near_101 : decode cX7_near 101 = .ok (.iinc 6 1, 3) := by decide +kernel
theorem dX7_near_104 : decode cX7_near 104 = .ok (.goto (-65), 3) := by decide +kernel
theorem dX7_near_107 : decode cX7_near 107 = .ok (.iload_n 3, 1) := by decide +kernel
theorem dX7_near_108 : decode cX7_near 108 = .ok (.ifCond .ne 8, 3) := by decide +kernel
theorem dX7_near_111 : decode cX7_near 111 = .ok (.iload 4, 2) := by decide +kernel
theorem dX7_near_113 : decode cX7_near 113 = .ok (.goto 5, 3) := by decide +kernel
theorem dX7_near_116 : decode cX7_near 116 = .ok (.iload 5, 2) := by decide +kernel
theorem dX7_near_118 : decode cX7_near 118 = .ok (.ireturn, 1) := by decide +kernel
theorem dX7_layTrial_0 : decode cX7_layTrial 0 = .ok (.iconst 0, 1) := by decide +kernel
theorem dX7_layTrial_1 : decode cX7_layTrial 1 = .ok (.istore_n 1, 1) := by decide +kernel
theorem dX7_layTrial_2 : decode cX7_layTrial 2 = .ok (.iload_n 1, 1) := by decide +kernel
theorem dX7_layTrial_3 : decode cX7_layTrial 3 = .ok (.iconst 3, 1) := by decide +kernel
theorem dX7_layTrial_4 : decode cX7_layTrial 4 = .ok (.if_icmp .ge 23, 3) := by decide +kernel
theorem dX7_layTrial_7 : decode cX7_layTrial 7 = .ok (.aload_n 0, 1) := by decide +kernel
theorem dX7_layTrial_8 : decode cX7_layTrial 8 = .ok (.getfield 13, 3) := by decide +kernel
theorem dX7_layTrial_11 : decode cX7_layTrial 11 = .ok (.iconst 3, 1) := by decide +kernel
theorem dX7_layTrial_12 : decode cX7_layTrial 12 = .ok (.iload_n 1, 1) := by decide +kernel
theorem dX7_layTrial_13 : decode cX7_layTrial 13 = .ok (.iadd, 1) := by decide +kernel
theorem dX7_layTrial_14 : decode cX7_layTrial 14 = .ok (.aload_n 0, 1) := by decide +kernel
theorem dX7_layTrial_15 : decode cX7_layTrial 15 = .ok (.getfield 13, 3) := by decide +kernel
theorem dX7_layTrial_18 : decode cX7_layTrial 18 = .ok (.iload_n 1, 1) := by decide +kernel
theorem dX7_layTrial_19 : decode cX7_layTrial 19 = .ok (.laload, 1) := by decide +kernel
theorem dX7_layTrial_20 : decode cX7_layTrial 20 = .ok (.lastore, 1) := by decide +kernel
theorem dX7_layTrial_21 : decode cX7_layTrial 21 = .ok (.iinc 1 1, 3) := by decide +kernel
theorem dX7_layTrial_24 : decode cX7_layTrial 24 = .ok (.goto (-22), 3) := by decide +kernel
theorem dX7_layTrial_27 : decode cX7_layTrial 27 = .ok (.return_, 1) := by decide +kernel
theorem dX7_tryThing_0 : decode cX7_tryThing 0 = .ok (.iload_n 1, 1) := by decide +kernel
theorem dX7_tryThing_1 : decode cX7_tryThing 1 = .ok (.tableswitch 304 1 9 #[51, 51, 51, 95, 95, 159, 159, 234, 262], 51) := by decide +kernel
theorem dX7_tryThing_52 : decode cX7_tryThing 52 = .ok (.iload_n 2, 1) := by decide +kernel
theorem dX7_tryThing_53 : decode cX7_tryThing 53 = .ok (.invokestatic 106, 3) := by decide +kernel
theorem dX7_tryThing_56 : decode cX7_tryThing 56 = .ok (.ifCond .eq 19, 3) := by decide +kernel
theorem dX7_tryThing_59 : decode cX7_tryThing 59 = .ok (.iload_n 3, 1) := by decide +kernel
theorem dX7_tryThing_60 : decode cX7_tryThing 60 = .ok (.invokestatic 106, 3) := by decide +kernel
theorem dX7_tryThing_63 : decode cX7_tryThing 63 = .ok (.ifCond .eq 12, 3) := by decide +kernel
theorem dX7_tryThing_66 : decode cX7_tryThing 66 = .ok (.iload_n 2, 1) := by decide +kernel
theorem dX7_tryThing_67 : decode cX7_tryThing 67 = .ok (.iload_n 3, 1) := by decide +kernel
theorem dX7_tryThing_68 : decode cX7_tryThing 68 = .ok (.if_icmp .eq 7, 3) := by decide +kernel
theorem dX7_tryThing_71 : decode cX7_tryThing 71 = .ok (.iconst 1, 1) := by decide +kernel
theorem dX7_tryThing_72 : decode cX7_tryThing 72 = .ok (.goto 4, 3) := by decide +kernel
theorem dX7_tryThing_75 : decode cX7_tryThing 75 = .ok (.iconst 0, 1) := by decide +kernel
theorem dX7_tryThing_76 : decode cX7_tryThing 76 = .ok (.istore 4, 2) := by decide +kernel
theorem dX7_tryThing_78 : decode cX7_tryThing 78 = .ok (.iload 4, 2) := by decide +kernel
theorem dX7_tryThing_80 : decode cX7_tryThing 80 = .ok (.ifCond .eq 13, 3) := by decide +kernel
theorem dX7_tryThing_83 : decode cX7_tryThing 83 = .ok (.aload_n 0, 1) := by decide +kernel
theorem dX7_tryThing_84 : decode cX7_tryThing 84 = .ok (.iconst 1, 1) := by decide +kernel
theorem dX7_tryThing_85 : decode cX7_tryThing 85 = .ok (.iload_n 1, 1) := by decide +kernel
theorem dX7_tryThing_86 : decode cX7_tryThing 86 = .ok (.iconst 1, 1) := by decide +kernel
theorem dX7_tryThing_87 : decode cX7_tryThing 87 = .ok (.isub, 1) := by decide +kernel
theorem dX7_tryThing_88 : decode cX7_tryThing 88 = .ok (.iload_n 2, 1) := by decide +kernel
theorem dX7_tryThing_89 : decode cX7_tryThing 89 = .ok (.iload_n 3, 1) := by decide +kernel
theorem dX7_tryThing_90 : decode cX7_tryThing 90 = .ok (.invokevirtual 118, 3) := by decide +kernel
theorem dX7_tryThing_93 : decode cX7_tryThing 93 = .ok (.iload 4, 2) := by decide +kernel
theorem dX7_tryThing_95 : decode cX7_tryThing 95 = .ok (.ireturn, 1) := by decide +kernel
theorem dX7_tryThing_96 : decode cX7_tryThing 96 = .ok (.iload_n 2, 1) := by decide +kernel
theorem dX7_tryThing_97 : decode cX7_tryThing 97 = .ok (.ifCond .ne 14, 3) := by decide +kernel
theorem dX7_tryThing_100 : decode cX7_tryThing 100 = .ok (.iload_n 3, 1) := by decide +kernel
theorem dX7_tryThing_101 : decode cX7_tryThing 101 = .ok (.invokestatic 106, 3) := by decide +kernel
theorem dX7_tryThing_104 : decode cX7_tryThing 104 = .ok (.ifCond .eq 7, 3) := by decide +kernel
theorem dX7_tryThing_107 : decode cX7_tryThing 107 = .ok (.iconst 1, 1) := by decide +kernel
theorem dX7_tryThing_108 : decode cX7_tryThing 108 = .ok (.goto 4, 3) := by decide +kernel
theorem dX7_tryThing_111 : decode cX7_tryThing 111 = .ok (.iconst 0, 1) := by decide +kernel
theorem dX7_tryThing_112 : decode cX7_tryThing 112 = .ok (.istore 5, 2) := by decide +kernel
theorem dX7_tryThing_114 : decode cX7_tryThing 114 = .ok (.iload 5, 2) := by decide +kernel
theorem dX7_tryThing_116 : decode cX7_tryThing 116 = .ok (.ifCond .eq 41, 3) := by decide +kernel
theorem dX7_tryThing_119 : decode cX7_tryThing 119 = .ok (.aload_n 0, 1) := by decide +kernel
theorem dX7_tryThing_120 : decode cX7_tryThing 120 = .ok (.getfield 13, 3) := by decide +kernel
theorem dX7_tryThing_123 : decode cX7_tryThing 123 = .ok (.iconst 3, 1) := by decide +kernel
theorem dX7_tryThing_124 : decode cX7_tryThing 124 = .ok (.iload_n 3, 1) := by decide +kernel
theorem dX7_tryThing_125 : decode cX7_tryThing 125 = .ok (.iadd, 1) := by decide +kernel
theorem dX7_tryThing_126 : decode cX7_tryThing 126 = .ok (.iload_n 1, 1) := by decide +kernel
theorem dX7_tryThing_127 : decode cX7_tryThing 127 = .ok (.iconst 4, 1) := by decide +kernel
theorem dX7_tryThing_128 : decode cX7_tryThing 128 = .ok (.if_icmp .ne 17, 3) := by decide +kernel
theorem dX7_tryThing_131 : decode cX7_tryThing 131 = .ok (.aload_n 0, 1) := by decide +kernel
theorem dX7_tryThing_132 : decode cX7_tryThing 132 = .ok (.getfield 13, 3) := by decide +kernel
theorem dX7_tryThing_135 : decode cX7_tryThing 135 = .ok (.iconst 3, 1) := by decide +kernel
theorem dX7_tryThing_136 : decode cX7_tryThing 136 = .ok (.iload_n 3, 1) := by decide +kernel
theorem dX7_tryThing_137 : decode cX7_tryThing 137 = .ok (.iadd, 1) := by decide +kernel
theorem dX7_tryThing_138 : decode cX7_tryThing 138 = .ok (.laload, 1) := by decide +kernel
theorem dX7_tryThing_139 : decode cX7_tryThing 139 = .ok (.invokestatic 126, 3) := by decide +kernel
theorem dX7_tryThing_142 : decode cX7_tryThing 142 = .ok (.goto 14, 3) := by decide +kernel
theorem dX7_tryThing_145 : decode cX7_tryThing 145 = .ok (.aload_n 0, 1) := by decide +kernel
theorem dX7_tryThing_146 : decode cX7_tryThing 146 = .ok (.getfield 13, 3) := by decide +kernel
theorem dX7_tryThing_149 : decode cX7_tryThing 149 = .ok (.iconst 3, 1) := by decide +kernel
theorem dX7_tryThing_150 : decode cX7_tryThing 150 = .ok (.iload_n 3, 1) := by decide +kernel
theorem dX7_tryThing_151 : decode cX7_tryThing 151 = .ok (.iadd, 1) := by decide +kernel
theorem dX7_tryThing_152 : decode cX7_tryThing 152 = .ok (.laload, 1) := by decide +kernel
theorem dX7_tryThing_153 : decode cX7_tryThing 153 = .ok (.invokestatic 130, 3) := by decide +kernel
theorem dX7_tryThing_156 : decode cX7_tryThing 156 = .ok (.lastore, 1) := by decide +kernel
theorem dX7_tryThing_157 : decode cX7_tryThing 157 = .ok (.iload 5, 2) := by decide +kernel
theorem dX7_tryThing_159 : decode cX7_tryThing 159 = .ok (.ireturn, 1) := by decide +kernel
theorem dX7_tryThing_160 : decode cX7_tryThing 160 = .ok (.iload_n 2, 1) := by decide +kernel
theorem dX7_tryThing_161 : decode cX7_tryThing 161 = .ok (.invokestatic 106, 3) := by decide +kernel
theorem dX7_tryThing_164 : decode cX7_tryThing 164 = .ok (.ifCond .eq 19, 3) := by decide +kernel
theorem dX7_tryThing_167 : decode cX7_tryThing 167 = .ok (.iload_n 3, 1) := by decide +kernel
theorem dX7_tryThing_168 : decode cX7_tryThing 168 = .ok (.i2l, 1) := by decide +kernel
theorem dX7_tryThing_169 : decode cX7_tryThing 169 = .ok (.lconst 0, 1) := by decide +kernel
theorem dX7_tryThing_170 : decode cX7_tryThing 170 = .ok (.ldc2_w 133, 3) := by decide +kernel
theorem dX7_tryThing_173 : decode cX7_tryThing 173 = .ok (.invokestatic 44, 3) := by decide +kernel
theorem dX7_tryThing_176 : decode cX7_tryThing 176 = .ok (.ifCond .eq 7, 3) := by decide +kernel
theorem dX7_tryThing_179 : decode cX7_tryThing 179 = .ok (.iconst 1, 1) := by decide +kernel
theorem dX7_tryThing_180 : decode cX7_tryThing 180 = .ok (.goto 4, 3) := by decide +kernel
theorem dX7_tryThing_183 : decode cX7_tryThing 183 = .ok (.iconst 0, 1) := by decide +kernel
theorem dX7_tryThing_184 : decode cX7_tryThing 184 = .ok (.istore 6, 2) := by decide +kernel
theorem dX7_tryThing_186 : decode cX7_tryThing 186 = .ok (.iload 6, 2) := by decide +kernel
theorem dX7_tryThing_188 : decode cX7_tryThing 188 = .ok (.ifCond .eq 44, 3) := by decide +kernel
theorem dX7_tryThing_191 : decode cX7_tryThing 191 = .ok (.aload_n 0, 1) := by decide +kernel
theorem dX7_tryThing_192 : decode cX7_tryThing 192 = .ok (.getfield 13, 3) := by decide +kernel
theorem dX7_tryThing_195 : decode cX7_tryThing 195 = .ok (.iconst 3, 1) := by decide +kernel
theorem dX7_tryThing_196 : decode cX7_tryThing 196 = .ok (.iload_n 2, 1) := by decide +kernel
theorem dX7_tryThing_197 : decode cX7_tryThing 197 = .ok (.iadd, 1) := by decide +kernel
theorem dX7_tryThing_198 : decode cX7_tryThing 198 = .ok (.iload_n 1, 1) := by decide +kernel
theorem dX7_tryThing_199 : decode cX7_tryThing 199 = .ok (.bipush 6, 2) := by decide +kernel
theorem dX7_tryThing_201 : decode cX7_tryThing 201 = .ok (.if_icmp .ne 18, 3) := by decide +kernel
theorem dX7_tryThing_204 : decode cX7_tryThing 204 = .ok (.aload_n 0, 1) := by decide +kernel
theorem dX7_tryThing_205 : decode cX7_tryThing 205 = .ok (.getfield 13, 3) := by decide +kernel
theorem dX7_tryThing_208 : decode cX7_tryThing 208 = .ok (.iconst 3, 1) := by decide +kernel
theorem dX7_tryThing_209 : decode cX7_tryThing 209 = .ok (.iload_n 2, 1) := by decide +kernel
theorem dX7_tryThing_210 : decode cX7_tryThing 210 = .ok (.iadd, 1) := by decide +kernel
theorem dX7_tryThing_211 : decode cX7_tryThing 211 = .ok (.laload, 1) := by decide +kernel
theorem dX7_tryThing_212 : decode cX7_tryThing 212 = .ok (.iload_n 3, 1) := by decide +kernel
theorem dX7_tryThing_213 : decode cX7_tryThing 213 = .ok (.invokestatic 135, 3) := by decide +kernel
theorem dX7_tryThing_216 : decode cX7_tryThing 216 = .ok (.goto 15, 3) := by decide +kernel
theorem dX7_tryThing_219 : decode cX7_tryThing 219 = .ok (.aload_n 0, 1) := by decide +kernel
theorem dX7_tryThing_220 : decode cX7_tryThing 220 = .ok (.getfield 13, 3) := by decide +kernel
theorem dX7_tryThing_223 : decode cX7_tryThing 223 = .ok (.iconst 3, 1) := by decide +kernel
theorem dX7_tryThing_224 : decode cX7_tryThing 224 = .ok (.iload_n 2, 1) := by decide +kernel
theorem dX7_tryThing_225 : decode cX7_tryThing 225 = .ok (.iadd, 1) := by decide +kernel
theorem dX7_tryThing_226 : decode cX7_tryThing 226 = .ok (.laload, 1) := by decide +kernel
theorem dX7_tryThing_227 : decode cX7_tryThing 227 = .ok (.iload_n 3, 1) := by decide +kernel
theorem dX7_tryThing_228 : decode cX7_tryThing 228 = .ok (.invokestatic 139, 3) := by decide +kernel
theorem dX7_tryThing_231 : decode cX7_tryThing 231 = .ok (.lastore, 1) := by decide +kernel
theorem dX7_tryThing_232 : decode cX7_tryThing 232 = .ok (.iload 6, 2) := by decide +kernel
theorem dX7_tryThing_234 : decode cX7_tryThing 234 = .ok (.ireturn, 1) := by decide +kernel
theorem dX7_tryThing_235 : decode cX7_tryThing 235 = .ok (.iload_n 2, 1) := by decide +kernel
theorem dX7_tryThing_236 : decode cX7_tryThing 236 = .ok (.invokestatic 106, 3) := by decide +kernel
theorem dX7_tryThing_239 : decode cX7_tryThing 239 = .ok (.ifCond .eq 22, 3) := by decide +kernel
theorem dX7_tryThing_242 : decode cX7_tryThing 242 = .ok (.aload_n 0, 1) := by decide +kernel
theorem dX7_tryThing_243 : decode cX7_tryThing 243 = .ok (.getfield 13, 3) := by decide +kernel
theorem dX7_tryThing_246 : decode cX7_tryThing 246 = .ok (.iconst 3, 1) := by decide +kernel
theorem dX7_tryThing_247 : decode cX7_tryThing 247 = .ok (.iload_n 2, 1) := by decide +kernel
theorem dX7_tryThing_248 : decode cX7_tryThing 248 = .ok (.iadd, 1) := by decide +kernel
theorem dX7_tryThing_249 : decode cX7_tryThing 249 = .ok (.laload, 1) := by decide +kernel
theorem dX7_tryThing_250 : decode cX7_tryThing 250 = .ok (.invokestatic 164, 3) := by decide +kernel
theorem dX7_tryThing_253 : decode cX7_tryThing 253 = .ok (.iload_n 3, 1) := by decide +kernel
theorem dX7_tryThing_254 : decode cX7_tryThing 254 = .ok (.if_icmp .lt 7, 3) := by decide +kernel
theorem dX7_tryThing_257 : decode cX7_tryThing 257 = .ok (.iconst 1, 1) := by decide +kernel
theorem dX7_tryThing_258 : decode cX7_tryThing 258 = .ok (.goto 4, 3) := by decide +kernel
theorem dX7_tryThing_261 : decode cX7_tryThing 261 = .ok (.iconst 0, 1) := by decide +kernel
theorem dX7_tryThing_262 : decode cX7_tryThing 262 = .ok (.ireturn, 1) := by decide +kernel
theorem dX7_tryThing_263 : decode cX7_tryThing 263 = .ok (.iload_n 2, 1) := by decide +kernel
theorem dX7_tryThing_264 : decode cX7_tryThing 264 = .ok (.invokestatic 106, 3) := by decide +kernel
theorem dX7_tryThing_267 : decode cX7_tryThing 267 = .ok (.ifCond .eq 36, 3) := by decide +kernel
theorem dX7_tryThing_270 : decode cX7_tryThing 270 = .ok (.iload_n 3, 1) := by decide +kernel
theorem dX7_tryThing_271 : decode cX7_tryThing 271 = .ok (.invokestatic 106, 3) := by decide +kernel
theorem dX7_tryThing_274 : decode cX7_tryThing 274 = .ok (.ifCond .eq 29, 3) := by decide +kernel
theorem dX7_tryThing_277 : decode cX7_tryThing 277 = .ok (.aload_n 0, 1) := by decide +kernel
theorem dX7_tryThing_278 : decode cX7_tryThing 278 = .ok (.getfield 13, 3) := by decide +kernel
theorem dX7_tryThing_281 : decode cX7_tryThing 281 = .ok (.iconst 3, 1) := by decide +kernel
theorem dX7_tryThing_282 : decode cX7_tryThing 282 = .ok (.iload_n 2, 1) := by decide +kernel
theorem dX7_tryThing_283 : decode cX7_tryThing 283 = .ok (.iadd, 1) := by decide +kernel
theorem dX7_tryThing_284 : decode cX7_tryThing 284 = .ok (.laload, 1) := by decide +kernel
theorem dX7_tryThing_285 : decode cX7_tryThing 285 = .ok (.aload_n 0, 1) := by decide +kernel
theorem dX7_tryThing_286 : decode cX7_tryThing 286 = .ok (.getfield 13, 3) := by decide +kernel
theorem dX7_tryThing_289 : decode cX7_tryThing 289 = .ok (.iconst 3, 1) := by decide +kernel
theorem dX7_tryThing_290 : decode cX7_tryThing 290 = .ok (.iload_n 3, 1) := by decide +kernel
theorem dX7_tryThing_291 : decode cX7_tryThing 291 = .ok (.iadd, 1) := by decide +kernel
theorem dX7_tryThing_292 : decode cX7_tryThing 292 = .ok (.laload, 1) := by decide +kernel
theorem dX7_tryThing_293 : decode cX7_tryThing 293 = .ok (.invokestatic 178, 3) := by decide +kernel
theorem dX7_tryThing_296 : decode cX7_tryThing 296 = .ok (.ifCond .le 7, 3) := by decide +kernel
theorem dX7_tryThing_299 : decode cX7_tryThing 299 = .ok (.iconst 1, 1) := by decide +kernel
theorem dX7_tryThing_300 : decode cX7_tryThing 300 = .ok (.goto 4, 3) := by decide +kernel
theorem dX7_tryThing_303 : decode cX7_tryThing 303 = .ok (.iconst 0, 1) := by decide +kernel
theorem dX7_tryThing_304 : decode cX7_tryThing 304 = .ok (.ireturn, 1) := by decide +kernel
theorem dX7_tryThing_305 : decode cX7_tryThing 305 = .ok (.iconst 0, 1) := by decide +kernel
theorem dX7_tryThing_306 : decode cX7_tryThing 306 = .ok (.ireturn, 1) := by decide +kernel
theorem dX7_thousandTo_0 : decode cX7_thousandTo 0 = .ok (.lconst 1, 1) := by decide +kernel
theorem dX7_thousandTo_1 : decode cX7_thousandTo 1 = .ok (.lstore_n 1, 1) := by decide +kernel
theorem dX7_thousandTo_2 : decode cX7_thousandTo 2 = .ok (.iconst 0, 1) := by decide +kernel
theorem dX7_thousandTo_3 : decode cX7_thousandTo 3 = .ok (.istore_n 3, 1) := by decide +kernel
theorem dX7_thousandTo_4 : decode cX7_thousandTo 4 = .ok (.iload_n 3, 1) := by decide +kernel
theorem dX7_thousandTo_5 : decode cX7_thousandTo 5 = .ok (.iload_n 0, 1) := by decide +kernel
theorem dX7_thousandTo_6 : decode cX7_thousandTo 6 = .ok (.if_icmp .ge 15, 3) := by decide +kernel
theorem dX7_thousandTo_9 : decode cX7_thousandTo 9 = .ok (.lload_n 1, 1) := by decide +kernel
theorem dX7_thousandTo_10 : decode cX7_thousandTo 10 = .ok (.ldc2_w 182, 3) := by decide +kernel
theorem dX7_thousandTo_13 : decode cX7_thousandTo 13 = .ok (.lmul, 1) := by decide +kernel
theorem dX7_thousandTo_14 : decode cX7_thousandTo 14 = .ok (.lstore_n 1, 1) := by decide +kernel
theorem dX7_thousandTo_15 : decode cX7_thousandTo 15 = .ok (.iinc 3 1, 3) := by decide +kernel
theorem dX7_thousandTo_18 : decode cX7_thousandTo 18 = .ok (.goto (-14), 3) := by decide +kernel
theorem dX7_thousandTo_21 : decode cX7_thousandTo 21 = .ok (.lload_n 1, 1) := by decide +kernel
theorem dX7_thousandTo_22 : decode cX7_thousandTo 22 = .ok (.lreturn, 1) := by decide +kernel
theorem dX7_judge_0 : decode cX7_judge 0 = .ok (.iload_n 1, 1) := by decide +kernel
theorem dX7_judge_1 : decode cX7_judge 1 = .ok (.i2l, 1) := by decide +kernel
theorem dX7_judge_2 : decode cX7_judge 2 = .ok (.lconst 1, 1) := by decide +kernel
theorem dX7_judge_3 : decode cX7_judge 3 = .ok (.ldc2_w 184, 3) := by decide +kernel
theorem dX7_judge_6 : decode cX7_judge 6 = .ok (.invokestatic 44, 3) := by decide +kernel
theorem dX7_judge_9 : decode cX7_judge 9 = .ok (.ifCond .eq 17, 3) := by decide +kernel
theorem dX7_judge_12 : decode cX7_judge 12 = .ok (.lload_n 2, 1) := by decide +kernel
theorem dX7_judge_13 : decode cX7_judge 13 = .ok (.lconst 0, 1) := by decide +kernel
theorem dX7_judge_14 : decode cX7_judge 14 = .ok (.iload_n 1, 1) := by decide +kernel
theorem dX7_judge_15 : decode cX7_judge 15 = .ok (.invokestatic 186, 3) := by decide +kernel
theorem dX7_judge_18 : decode cX7_judge 18 = .ok (.lconst 1, 1) := by decide +kernel
theorem dX7_judge_19 : decode cX7_judge 19 = .ok (.lsub, 1) := by decide +kernel
theorem dX7_judge_20 : decode cX7_judge 20 = .ok (.invokestatic 44, 3) := by decide +kernel
theorem dX7_judge_23 : decode cX7_judge 23 = .ok (.ifCond .ne 6, 3) := by decide +kernel
theorem dX7_judge_26 : decode cX7_judge 26 = .ok (.bipush (-2), 2) := by decide +kernel
theorem dX7_judge_28 : decode cX7_judge 28 = .ok (.ireturn, 1) := by decide +kernel
theorem dX7_judge_29 : decode cX7_judge 29 = .ok (.aload_n 0, 1) := by decide +kernel
theorem dX7_judge_30 : decode cX7_judge 30 = .ok (.invokevirtual 190, 3) := by decide +kernel
theorem dX7_judge_33 : decode cX7_judge 33 = .ok (.iconst 0, 1) := by decide +kernel
theorem dX7_judge_34 : decode cX7_judge 34 = .ok (.istore 4, 2) := by decide +kernel
theorem dX7_judge_36 : decode cX7_judge 36 = .ok (.iload 4, 2) := by decide +kernel
theorem dX7_judge_38 : decode cX7_judge 38 = .ok (.iload_n 1, 1) := by decide +kernel
theorem dX7_judge_39 : decode cX7_judge 39 = .ok (.if_icmp .ge 55, 3) := by decide +kernel
theorem dX7_judge_42 : decode cX7_judge 42 = .ok (.lload_n 2, 1) := by decide +kernel
theorem dX7_judge_43 : decode cX7_judge 43 = .ok (.iload_n 1, 1) := by decide +kernel
theorem dX7_judge_44 : decode cX7_judge 44 = .ok (.iconst 1, 1) := by decide +kernel
theorem dX7_judge_45 : decode cX7_judge 45 = .ok (.isub, 1) := by decide +kernel
theorem dX7_judge_46 : decode cX7_judge 46 = .ok (.iload 4, 2) := by decide +kernel
theorem dX7_judge_48 : decode cX7_judge 48 = .ok (.isub, 1) := by decide +kernel
theorem dX7_judge_49 : decode cX7_judge 49 = .ok (.invokestatic 186, 3) := by decide +kernel
theorem dX7_judge_52 : decode cX7_judge 52 = .ok (.ldiv, 1) := by decide +kernel
theorem dX7_judge_53 : decode cX7_judge 53 = .ok (.ldc2_w 182, 3) := by decide +kernel
theorem dX7_judge_56 : decode cX7_judge 56 = .ok (.lrem, 1) := by decide +kernel
theorem dX7_judge_57 : decode cX7_judge 57 = .ok (.l2i, 1) := by decide +kernel
theorem dX7_judge_58 : decode cX7_judge 58 = .ok (.istore 5, 2) := by decide +kernel
theorem dX7_judge_60 : decode cX7_judge 60 = .ok (.aload_n 0, 1) := by decide +kernel
theorem dX7_judge_61 : decode cX7_judge 61 = .ok (.iload 5, 2) := by decide +kernel
theorem dX7_judge_63 : decode cX7_judge 63 = .ok (.bipush 100, 2) := by decide +kernel
theorem dX7_judge_65 : decode cX7_judge 65 = .ok (.idiv, 1) := by decide +kernel
theorem dX7_judge_66 : decode cX7_judge 66 = .ok (.iload 5, 2) := by decide +kernel
theorem dX7_judge_68 : decode cX7_judge 68 = .ok (.bipush 10, 2) := by decide +kernel
theorem dX7_judge_70 : decode cX7_judge 70 = .ok (.idiv, 1) := by decide +kernel
theorem dX7_judge_71 : decode cX7_judge 71 = .ok (.bipush 10, 2) := by decide +kernel
theorem dX7_judge_73 : decode cX7_judge 73 = .ok (.irem, 1) := by decide +kernel
theorem dX7_judge_74 : decode cX7_judge 74 = .ok (.iload 5, 2) := by decide +kernel
theorem dX7_judge_76 : decode cX7_judge 76 = .ok (.bipush 10, 2) := by decide +kernel
theorem dX7_judge_78 : decode cX7_judge 78 = .ok (.irem, 1) := by decide +kernel
theorem dX7_judge_79 : decode cX7_judge 79 = .ok (.invokevirtual 193, 3) := by decide +kernel
theorem dX7_judge_82 : decode cX7_judge 82 = .ok (.ifCond .ne 6, 3) := by decide +kernel
theorem dX7_judge_85 : decode cX7_judge 85 = .ok (.iload 4, 2) := by decide +kernel
theorem dX7_judge_87 : decode cX7_judge 87 = .ok (.ireturn, 1) := by decide +kernel
theorem dX7_judge_88 : decode cX7_judge 88 = .ok (.iinc 4 1, 3) := by decide +kernel
theorem dX7_judge_91 : decode cX7_judge 91 = .ok (.goto (-55), 3) := by decide +kernel
theorem dX7_judge_94 : decode cX7_judge 94 = .ok (.bipush (-9), 2) := by decide +kernel
theorem dX7_judge_96 : decode cX7_judge 96 = .ok (.ireturn, 1) := by decide +kernel
theorem dX7_see_0 : decode cX7_see 0 = .ok (.iload_n 1, 1) := by decide +kernel
theorem dX7_see_1 : decode cX7_see 1 = .ok (.i2l, 1) := by decide +kernel
theorem dX7_see_2 : decode cX7_see 2 = .ok (.lconst 0, 1) := by decide +kernel
theorem dX7_see_3 : decode cX7_see 3 = .ok (.ldc2_w 173, 3) := by decide +kernel
theorem dX7_see_6 : decode cX7_see 6 = .ok (.invokestatic 44, 3) := by decide +kernel
theorem dX7_see_9 : decode cX7_see 9 = .ok (.ifCond .ne 5, 3) := by decide +kernel
theorem dX7_see_12 : decode cX7_see 12 = .ok (.iconst (-1), 1) := by decide +kernel
theorem dX7_see_13 : decode cX7_see 13 = .ok (.ireturn, 1) := by decide +kernel
theorem dX7_see_14 : decode cX7_see 14 = .ok (.iload_n 2, 1) := by decide +kernel
theorem dX7_see_15 : decode cX7_see 15 = .ok (.i2l, 1) := by decide +kernel
theorem dX7_see_16 : decode cX7_see 16 = .ok (.lconst 0, 1) := by decide +kernel
theorem dX7_see_17 : decode cX7_see 17 = .ok (.lconst 1, 1) := by decide +kernel
theorem dX7_see_18 : decode cX7_see 18 = .ok (.invokestatic 44, 3) := by decide +kernel
theorem dX7_see_21 : decode cX7_see 21 = .ok (.ifCond .ne 6, 3) := by decide +kernel
theorem dX7_see_24 : decode cX7_see 24 = .ok (.bipush (-2), 2) := by decide +kernel
theorem dX7_see_26 : decode cX7_see 26 = .ok (.ireturn, 1) := by decide +kernel
theorem dX7_see_27 : decode cX7_see 27 = .ok (.aload_n 0, 1) := by decide +kernel
theorem dX7_see_28 : decode cX7_see 28 = .ok (.getfield 196, 3) := by decide +kernel
theorem dX7_see_31 : decode cX7_see 31 = .ok (.bipush 6, 2) := by decide +kernel
theorem dX7_see_33 : decode cX7_see 33 = .ok (.if_icmp .ne 6, 3) := by decide +kernel
theorem dX7_see_36 : decode cX7_see 36 = .ok (.bipush (-4), 2) := by decide +kernel
theorem dX7_see_38 : decode cX7_see 38 = .ok (.ireturn, 1) := by decide +kernel
theorem dX7_see_39 : decode cX7_see 39 = .ok (.aload_n 0, 1) := by decide +kernel
theorem dX7_see_40 : decode cX7_see 40 = .ok (.getfield 29, 3) := by decide +kernel
theorem dX7_see_43 : decode cX7_see 43 = .ok (.aload_n 0, 1) := by decide +kernel
theorem dX7_see_44 : decode cX7_see 44 = .ok (.getfield 196, 3) := by decide +kernel
theorem dX7_see_47 : decode cX7_see 47 = .ok (.iload_n 1, 1) := by decide +kernel
theorem dX7_see_48 : decode cX7_see 48 = .ok (.iastore, 1) := by decide +kernel
theorem dX7_see_49 : decode cX7_see 49 = .ok (.aload_n 0, 1) := by decide +kernel
theorem dX7_see_50 : decode cX7_see 50 = .ok (.getfield 32, 3) := by decide +kernel
theorem dX7_see_53 : decode cX7_see 53 = .ok (.aload_n 0, 1) := by decide +kernel
theorem dX7_see_54 : decode cX7_see 54 = .ok (.getfield 196, 3) := by decide +kernel
theorem dX7_see_57 : decode cX7_see 57 = .ok (.iload_n 2, 1) := by decide +kernel
theorem dX7_see_58 : decode cX7_see 58 = .ok (.iastore, 1) := by decide +kernel
theorem dX7_see_59 : decode cX7_see 59 = .ok (.aload_n 0, 1) := by decide +kernel
theorem dX7_see_60 : decode cX7_see 60 = .ok (.dup, 1) := by decide +kernel
theorem dX7_see_61 : decode cX7_see 61 = .ok (.getfield 196, 3) := by decide +kernel
theorem dX7_see_64 : decode cX7_see 64 = .ok (.iconst 1, 1) := by decide +kernel
theorem dX7_see_65 : decode cX7_see 65 = .ok (.iadd, 1) := by decide +kernel
theorem dX7_see_66 : decode cX7_see 66 = .ok (.putfield 196, 3) := by decide +kernel
theorem dX7_see_69 : decode cX7_see 69 = .ok (.aload_n 0, 1) := by decide +kernel
theorem dX7_see_70 : decode cX7_see 70 = .ok (.getfield 196, 3) := by decide +kernel
theorem dX7_see_73 : decode cX7_see 73 = .ok (.ireturn, 1) := by decide +kernel
theorem dX7_unsee_0 : decode cX7_unsee 0 = .ok (.aload_n 0, 1) := by decide +kernel
theorem dX7_unsee_1 : decode cX7_unsee 1 = .ok (.getfield 196, 3) := by decide +kernel
theorem dX7_unsee_4 : decode cX7_unsee 4 = .ok (.istore_n 1, 1) := by decide +kernel
theorem dX7_unsee_5 : decode cX7_unsee 5 = .ok (.aload_n 0, 1) := by decide +kernel
theorem dX7_unsee_6 : decode cX7_unsee 6 = .ok (.iconst 0, 1) := by decide +kernel
theorem dX7_unsee_7 : decode cX7_unsee 7 = .ok (.putfield 196, 3) := by decide +kernel
theorem dX7_unsee_10 : decode cX7_unsee 10 = .ok (.iload_n 1, 1) := by decide +kernel
theorem dX7_unsee_11 : decode cX7_unsee 11 = .ok (.ireturn, 1) := by decide +kernel
theorem dX7_leafLetter_0 : decode cX7_leafLetter 0 = .ok (.iload_n 0, 1) := by decide +kernel
theorem dX7_leafLetter_1 : decode cX7_leafLetter 1 = .ok (.ifCond .ne 8, 3) := by decide +kernel
theorem dX7_leafLetter_4 : decode cX7_leafLetter 4 = .ok (.bipush 98, 2) := by decide +kernel
theorem dX7_leafLetter_6 : decode cX7_leafLetter 6 = .ok (.goto 25, 3) := by decide +kernel
theorem dX7_leafLetter_9 : decode cX7_leafLetter 9 = .ok (.iload_n 0, 1) := by decide +kernel
theorem dX7_leafLetter_10 : decode cX7_leafLetter 10 = .ok (.iconst 1, 1) := by decide +kernel
theorem dX7_leafLetter_11 : decode cX7_leafLetter 11 = .ok (.if_icmp .ne 8, 3) := by decide +kernel
theorem dX7_leafLetter_14 : decode cX7_leafLetter 14 = .ok (.bipush 119, 2) := by decide +kernel
theorem dX7_leafLetter_16 : decode cX7_leafLetter 16 = .ok (.goto 15, 3) := by decide +kernel
theorem dX7_leafLetter_19 : decode cX7_leafLetter 19 = .ok (.iload_n 0, 1) := by decide +kernel
theorem dX7_leafLetter_20 : decode cX7_leafLetter 20 = .ok (.iconst 2, 1) := by decide +kernel
theorem dX7_leafLetter_21 : decode cX7_leafLetter 21 = .ok (.if_icmp .ne 8, 3) := by decide +kernel
theorem dX7_leafLetter_24 : decode cX7_leafLetter 24 = .ok (.bipush 103, 2) := by decide +kernel
theorem dX7_leafLetter_26 : decode cX7_leafLetter 26 = .ok (.goto 5, 3) := by decide +kernel
theorem dX7_leafLetter_29 : decode cX7_leafLetter 29 = .ok (.bipush 115, 2) := by decide +kernel
theorem dX7_leafLetter_31 : decode cX7_leafLetter 31 = .ok (.ireturn, 1) := by decide +kernel
theorem dX7_mayBe_0 : decode cX7_mayBe 0 = .ok (.iconst 1, 1) := by decide +kernel
theorem dX7_mayBe_1 : decode cX7_mayBe 1 = .ok (.istore_n 2, 1) := by decide +kernel
theorem dX7_mayBe_2 : decode cX7_mayBe 2 = .ok (.iconst 0, 1) := by decide +kernel
theorem dX7_mayBe_3 : decode cX7_mayBe 3 = .ok (.istore_n 3, 1) := by decide +kernel
theorem dX7_mayBe_4 : decode cX7_mayBe 4 = .ok (.iload_n 3, 1) := by decide +kernel
theorem dX7_mayBe_5 : decode cX7_mayBe 5 = .ok (.aload_n 0, 1) := by decide +kernel
theorem dX7_mayBe_6 : decode cX7_mayBe 6 = .ok (.getfield 196, 3) := by decide +kernel
theorem dX7_mayBe_9 : decode cX7_mayBe 9 = .ok (.if_icmp .ge 97, 3) := by decide +kernel
theorem dX7_mayBe_12 : decode cX7_mayBe 12 = .ok (.aload_n 0, 1) := by decide +kernel
theorem dX7_mayBe_13 : decode cX7_mayBe 13 = .ok (.getfield 29, 3) := by decide +kernel
theorem dX7_mayBe_16 : decode cX7_mayBe 16 = .ok (.iload_n 3, 1) := by decide +kernel
theorem dX7_mayBe_17 : decode cX7_mayBe 17 = .ok (.iaload, 1) := by decide +kernel
theorem dX7_mayBe_18 : decode cX7_mayBe 18 = .ok (.bipush 8, 2) := by decide +kernel
theorem dX7_mayBe_20 : decode cX7_mayBe 20 = .ok (.irem, 1) := by decide +kernel
theorem dX7_mayBe_21 : decode cX7_mayBe 21 = .ok (.istore 4, 2) := by decide +kernel
theorem dX7_mayBe_23 : decode cX7_mayBe 23 = .ok (.aload_n 0, 1) := by decide +kernel
theorem dX7_mayBe_24 : decode cX7_mayBe 24 = .ok (.getfield 29, 3) := by decide +kernel
theorem dX7_mayBe_27 : decode cX7_mayBe 27 = .ok (.iload_n 3, 1) := by decide +kernel
theorem dX7_mayBe_28 : decode cX7_mayBe 28 = .ok (.iaload, 1) := by decide +kernel
theorem dX7_mayBe_29 : decode cX7_mayBe 29 = .ok (.bipush 8, 2) := by decide +kernel
theorem dX7_mayBe_31 : decode cX7_mayBe 31 = .ok (.idiv, 1) := by decide +kernel
theorem dX7_mayBe_32 : decode cX7_mayBe 32 = .ok (.istore 5, 2) := by decide +kernel
theorem dX7_mayBe_34 : decode cX7_mayBe 34 = .ok (.iload 4, 2) := by decide +kernel
theorem dX7_mayBe_36 : decode cX7_mayBe 36 = .ok (.iconst 4, 1) := by decide +kernel
theorem dX7_mayBe_37 : decode cX7_mayBe 37 = .ok (.idiv, 1) := by decide +kernel
theorem dX7_mayBe_38 : decode cX7_mayBe 38 = .ok (.iconst 2, 1) := by decide +kernel
theorem dX7_mayBe_39 : decode cX7_mayBe 39 = .ok (.iload 5, 2) := by decide +kernel
theorem dX7_mayBe_41 : decode cX7_mayBe 41 = .ok (.iconst 4, 1) := by decide +kernel
theorem dX7_mayBe_42 : decode cX7_mayBe 42 = .ok (.idiv, 1) := by decide +kernel
theorem dX7_mayBe_43 : decode cX7_mayBe 43 = .ok (.imul, 1) := by decide +kernel
theorem dX7_mayBe_44 : decode cX7_mayBe 44 = .ok (.iadd, 1) := by decide +kernel
theorem dX7_mayBe_45 : decode cX7_mayBe 45 = .ok (.istore 6, 2) := by decide +kernel
theorem dX7_mayBe_47 : decode cX7_mayBe 47 = .ok (.iload_n 1, 1) := by decide +kernel
theorem dX7_mayBe_48 : decode cX7_mayBe 48 = .ok (.bipush 6, 2) := by decide +kernel
theorem dX7_mayBe_50 : decode cX7_mayBe 50 = .ok (.iconst 2, 1) := by decide +kernel
theorem dX7_mayBe_51 : decode cX7_mayBe 51 = .ok (.iload 6, 2) := by decide +kernel
theorem dX7_mayBe_53 : decode cX7_mayBe 53 = .ok (.imul, 1) := by decide +kernel
theorem dX7_mayBe_54 : decode cX7_mayBe 54 = .ok (.isub, 1) := by decide +kernel
theorem dX7_mayBe_55 : decode cX7_mayBe 55 = .ok (.ishr, 1) := by decide +kernel
theorem dX7_mayBe_56 : decode cX7_mayBe 56 = .ok (.iconst 3, 1) := by decide +kernel
theorem dX7_mayBe_57 : decode cX7_mayBe 57 = .ok (.iand, 1) := by decide +kernel
theorem dX7_mayBe_58 : decode cX7_mayBe 58 = .ok (.istore 7, 2) := by decide +kernel
theorem dX7_mayBe_60 : decode cX7_mayBe 60 = .ok (.iload_n 2, 1) := by decide +kernel
theorem dX7_mayBe_61 : decode cX7_mayBe 61 = .ok (.ifCond .eq 37, 3) := by decide +kernel
theorem dX7_mayBe_64 : decode cX7_mayBe 64 = .ok (.iload 7, 2) := by decide +kernel
theorem dX7_mayBe_66 : decode cX7_mayBe 66 = .ok (.invokestatic 199, 3) := by decide +kernel
theorem dX7_mayBe_69 : decode cX7_mayBe 69 = .ok (.iload 4, 2) := by decide +kernel
theorem dX7_mayBe_71 : decode cX7_mayBe 71 = .ok (.iload 5, 2) := by decide +kernel
theorem dX7_mayBe_73 : decode cX7_mayBe 73 = .ok (.invokestatic 63, 3) := by decide +kernel
theorem dX7_mayBe_76 : decode cX7_mayBe 76 = .ok (.aload_n 0, 1) := by decide +kernel
theorem dX7_mayBe_77 : decode cX7_mayBe 77 = .ok (.getfield 32, 3) := by decide +kernel
theorem dX7_mayBe_80 : decode cX7_mayBe 80 = .ok (.iload_n 3, 1) := by decide +kernel
theorem dX7_mayBe_81 : decode cX7_mayBe 81 = .ok (.iaload, 1) := by decide +kernel
theorem dX7_mayBe_82 : decode cX7_mayBe 82 = .ok (.iconst 1, 1) := by decide +kernel
theorem dX7_mayBe_83 : decode cX7_mayBe 83 = .ok (.if_icmp .ne 7, 3) := by decide +kernel
theorem dX7_mayBe_86 : decode cX7_mayBe 86 = .ok (.iconst 1, 1) := by decide +kernel
theorem dX7_mayBe_87 : decode cX7_mayBe 87 = .ok (.goto 4, 3) := by decide +kernel
theorem dX7_mayBe_90 : decode cX7_mayBe 90 = .ok (.iconst 0, 1) := by decide +kernel
theorem dX7_mayBe_91 : decode cX7_mayBe 91 = .ok (.if_icmp .ne 7, 3) := by decide +kernel
theorem dX7_mayBe_94 : decode cX7_mayBe 94 = .ok (.iconst 1, 1) := by decide +kernel
theorem dX7_mayBe_95 : decode cX7_mayBe 95 = .ok (.goto 4, 3) := by decide +kernel
theorem dX7_mayBe_98 : decode cX7_mayBe 98 = .ok (.iconst 0, 1) := by decide +kernel
theorem dX7_mayBe_99 : decode cX7_mayBe 99 = .ok (.istore_n 2, 1) := by decide +kernel
theorem dX7_mayBe_100 : decode cX7_mayBe 100 = .ok (.iinc 3 1, 3) := by decide +kernel
theorem dX7_mayBe_103 : decode cX7_mayBe 103 = .ok (.goto (-99), 3) := by decide +kernel
theorem dX7_mayBe_106 : decode cX7_mayBe 106 = .ok (.iload_n 2, 1) := by decide +kernel
theorem dX7_mayBe_107 : decode cX7_mayBe 107 = .ok (.ireturn, 1) := by decide +kernel
theorem dX7_figuresOf_0 : decode cX7_figuresOf 0 = .ok (.sipush 1111, 3) := by decide +kernel
theorem dX7_figuresOf_3 : decode cX7_figuresOf 3 = .ok (.sipush 1000, 3) := by decide +kernel
theorem dX7_figuresOf_6 : decode cX7_figuresOf 6 = .ok (.iload_n 0, 1) := by decide +kernel
theorem dX7_figuresOf_7 : decode cX7_figuresOf 7 = .ok (.bipush 6, 2) := by decide +kernel
theorem dX7_figuresOf_9 : decode cX7_figuresOf 9 = .ok (.ishr, 1) := by decide +kernel
theorem dX7_figuresOf_10 : decode cX7_figuresOf 10 = .ok (.imul, 1) := by decide +kernel
theorem dX7_figuresOf_11 : decode cX7_figuresOf 11 = .ok (.iadd, 1) := by decide +kernel
theorem dX7_figuresOf_12 : decode cX7_figuresOf 12 = .ok (.bipush 100, 2) := by decide +kernel
theorem dX7_figuresOf_14 : decode cX7_figuresOf 14 = .ok (.iload_n 0, 1) := by decide +kernel
theorem dX7_figuresOf_15 : decode cX7_figuresOf 15 = .ok (.iconst 4, 1) := by decide +kernel
theorem dX7_figuresOf_16 : decode cX7_figuresOf 16 = .ok (.ishr, 1) := by decide +kernel
theorem dX7_figuresOf_17 : decode cX7_figuresOf 17 = .ok (.iconst 3, 1) := by decide +kernel
theorem dX7_figuresOf_18 : decode cX7_figuresOf 18 = .ok (.iand, 1) := by decide +kernel
theorem dX7_figuresOf_19 : decode cX7_figuresOf 19 = .ok (.imul, 1) := by decide +kernel
theorem dX7_figuresOf_20 : decode cX7_figuresOf 20 = .ok (.iadd, 1) := by decide +kernel
theorem dX7_figuresOf_21 : decode cX7_figuresOf 21 = .ok (.bipush 10, 2) := by decide +kernel
theorem dX7_figuresOf_23 : decode cX7_figuresOf 23 = .ok (.iload_n 0, 1) := by decide +kernel
theorem dX7_figuresOf_24 : decode cX7_figuresOf 24 = .ok (.iconst 2, 1) := by decide +kernel
theorem dX7_figuresOf_25 : decode cX7_figuresOf 25 = .ok (.ishr, 1) := by decide +kernel
theorem dX7_figuresOf_26 : decode cX7_figuresOf 26 = .ok (.iconst 3, 1) := by decide +kernel
theorem dX7_figuresOf_27 : decode cX7_figuresOf 27 = .ok (.iand, 1) := by decide +kernel
theorem dX7_figuresOf_28 : decode cX7_figuresOf 28 = .ok (.imul, 1) := by decide +kernel
theorem dX7_figuresOf_29 : decode cX7_figuresOf 29 = .ok (.iadd, 1) := by decide +kernel
theorem dX7_figuresOf_30 : decode cX7_figuresOf 30 = .ok (.iload_n 0, 1) := by decide +kernel
theorem dX7_figuresOf_31 : decode cX7_figuresOf 31 = .ok (.iconst 3, 1) := by decide +kernel
theorem dX7_figuresOf_32 : decode cX7_figuresOf 32 = .ok (.iand, 1) := by decide +kernel
theorem dX7_figuresOf_33 : decode cX7_figuresOf 33 = .ok (.iadd, 1) := by decide +kernel
theorem dX7_figuresOf_34 : decode cX7_figuresOf 34 = .ok (.ireturn, 1) := by decide +kernel
theorem dX7_leaves_0 : decode cX7_leaves 0 = .ok (.iload_n 1, 1) := by decide +kernel
theorem dX7_leaves_1 : decode cX7_leaves 1 = .ok (.i2l, 1) := by decide +kernel
theorem dX7_leaves_2 : decode cX7_leaves 2 = .ok (.lconst 0, 1) := by decide +kernel
theorem dX7_leaves_3 : decode cX7_leaves 3 = .ok (.lconst 1, 1) := by decide +kernel
theorem dX7_leaves_4 : decode cX7_leaves 4 = .ok (.invokestatic 44, 3) := by decide +kernel
theorem dX7_leaves_7 : decode cX7_leaves 7 = .ok (.ifCond .ne 6, 3) := by decide +kernel
theorem dX7_leaves_10 : decode cX7_leaves 10 = .ok (.bipush (-2), 2) := by decide +kernel
theorem dX7_leaves_12 : decode cX7_leaves 12 = .ok (.ireturn, 1) := by decide +kernel
theorem dX7_leaves_13 : decode cX7_leaves 13 = .ok (.iconst 0, 1) := by decide +kernel
theorem dX7_leaves_14 : decode cX7_leaves 14 = .ok (.istore_n 2, 1) := by decide +kernel
theorem dX7_leaves_15 : decode cX7_leaves 15 = .ok (.bipush (-9), 2) := by decide +kernel
theorem dX7_leaves_17 : decode cX7_leaves 17 = .ok (.istore_n 3, 1) := by decide +kernel
theorem dX7_leaves_18 : decode cX7_leaves 18 = .ok (.iconst 0, 1) := by decide +kernel
theorem dX7_leaves_19 : decode cX7_leaves 19 = .ok (.istore 4, 2) := by decide +kernel
theorem dX7_leaves_21 : decode cX7_leaves 21 = .ok (.iload 4, 2) := by decide +kernel
theorem dX7_leaves_23 : decode cX7_leaves 23 = .ok (.sipush 256, 3) := by decide +kernel
theorem dX7_leaves_26 : decode cX7_leaves 26 = .ok (.if_icmp .ge 35, 3) := by decide +kernel
theorem dX7_leaves_29 : decode cX7_leaves 29 = .ok (.aload_n 0, 1) := by decide +kernel
theorem dX7_leaves_30 : decode cX7_leaves 30 = .ok (.iload 4, 2) := by decide +kernel
theorem dX7_leaves_32 : decode cX7_leaves 32 = .ok (.invokevirtual 202, 3) := by decide +kernel
theorem dX7_leaves_35 : decode cX7_leaves 35 = .ok (.ifCond .eq 20, 3) := by decide +kernel
theorem dX7_leaves_38 : decode cX7_leaves 38 = .ok (.iload_n 2, 1) := by decide +kernel
theorem dX7_leaves_39 : decode cX7_leaves 39 = .ok (.ifCond .ne 11, 3) := by decide +kernel
theorem dX7_leaves_42 : decode cX7_leaves 42 = .ok (.iload 4, 2) := by decide +kernel
theorem dX7_leaves_44 : decode cX7_leaves 44 = .ok (.invokestatic 205, 3) := by decide +kernel
theorem dX7_leaves_47 : decode cX7_leaves 47 = .ok (.goto 4, 3) := by decide +kernel
theorem dX7_leaves_50 : decode cX7_leaves 50 = .ok (.iload_n 3, 1) := by decide +kernel
theorem dX7_leaves_51 : decode cX7_leaves 51 = .ok (.istore_n 3, 1) := by decide +kernel
theorem dX7_leaves_52 : decode cX7_leaves 52 = .ok (.iinc 2 1, 3) := by decide +kernel
theorem dX7_leaves_55 : decode cX7_leaves 55 = .ok (.iinc 4 1, 3) := by decide +kernel
theorem dX7_leaves_58 : decode cX7_leaves 58 = .ok (.goto (-37), 3) := by decide +kernel
theorem dX7_leaves_61 : decode cX7_leaves 61 = .ok (.iload_n 1, 1) := by decide +kernel
theorem dX7_leaves_62 : decode cX7_leaves 62 = .ok (.ifCond .ne 7, 3) := by decide +kernel
theorem dX7_leaves_65 : decode cX7_leaves 65 = .ok (.iload_n 2, 1) := by decide +kernel
theorem dX7_leaves_66 : decode cX7_leaves 66 = .ok (.goto 4, 3) := by decide +kernel
theorem dX7_leaves_69 : decode cX7_leaves 69 = .ok (.iload_n 3, 1) := by decide +kernel
theorem dX7_leaves_70 : decode cX7_leaves 70 = .ok (.ireturn, 1) := by decide +kernel
theorem dX7_common_0 : decode cX7_common 0 = .ok (.iload_n 0, 1) := by decide +kernel
theorem dX7_common_1 : decode cX7_common 1 = .ok (.ifCond .ge 8, 3) := by decide +kernel
theorem dX7_common_4 : decode cX7_common 4 = .ok (.iload_n 0, 1) := by decide +kernel
theorem dX7_common_5 : decode cX7_common 5 = .ok (.ineg, 1) := by decide +kernel
theorem dX7_common_6 : decode cX7_common 6 = .ok (.goto 4, 3) := by decide +kernel
theorem dX7_common_9 : decode cX7_common 9 = .ok (.iload_n 0, 1) := by decide +kernel
theorem dX7_common_10 : decode cX7_common 10 = .ok (.istore_n 2, 1) := by decide +kernel
theorem dX7_common_11 : decode cX7_common 11 = .ok (.iload_n 1, 1) := by decide +kernel
theorem dX7_common_12 : decode cX7_common 12 = .ok (.istore_n 3, 1) := by decide +kernel
theorem dX7_common_13 : decode cX7_common 13 = .ok (.iload_n 3, 1) := by decide +kernel
theorem dX7_common_14 : decode cX7_common 14 = .ok (.ifCond .eq 16, 3) := by decide +kernel
theorem dX7_common_17 : decode cX7_common 17 = .ok (.iload_n 2, 1) := by decide +kernel
theorem dX7_common_18 : decode cX7_common 18 = .ok (.iload_n 3, 1) := by decide +kernel
theorem dX7_common_19 : decode cX7_common 19 = .ok (.irem, 1) := by decide +kernel
theorem dX7_common_20 : decode cX7_common 20 = .ok (.istore 4, 2) := by decide +kernel
theorem dX7_common_22 : decode cX7_common 22 = .ok (.iload_n 3, 1) := by decide +kernel
theorem dX7_common_23 : decode cX7_common 23 = .ok (.istore_n 2, 1) := by decide +kernel
theorem dX7_common_24 : decode cX7_common 24 = .ok (.iload 4, 2) := by decide +kernel
theorem dX7_common_26 : decode cX7_common 26 = .ok (.istore_n 3, 1) := by decide +kernel
theorem dX7_common_27 : decode cX7_common 27 = .ok (.goto (-14), 3) := by decide +kernel
theorem dX7_common_30 : decode cX7_common 30 = .ok (.iload_n 2, 1) := by decide +kernel
theorem dX7_common_31 : decode cX7_common 31 = .ok (.ireturn, 1) := by decide +kernel
theorem dX7_areaBy_0 : decode cX7_areaBy 0 = .ok (.lconst 0, 1) := by decide +kernel
theorem dX7_areaBy_1 : decode cX7_areaBy 1 = .ok (.lstore_n 2, 1) := by decide +kernel
theorem dX7_areaBy_2 : decode cX7_areaBy 2 = .ok (.iconst 0, 1) := by decide +kernel
theorem dX7_areaBy_3 : decode cX7_areaBy 3 = .ok (.istore 4, 2) := by decide +kernel
theorem dX7_areaBy_5 : decode cX7_areaBy 5 = .ok (.iload 4, 2) := by decide +kernel
theorem dX7_areaBy_7 : decode cX7_areaBy 7 = .ok (.iconst 3, 1) := by decide +kernel
theorem dX7_areaBy_8 : decode cX7_areaBy 8 = .ok (.if_icmp .ge 33, 3) := by decide +kernel
theorem dX7_areaBy_11 : decode cX7_areaBy 11 = .ok (.lload_n 2, 1) := by decide +kernel
theorem dX7_areaBy_12 : decode cX7_areaBy 12 = .ok (.iload_n 1, 1) := by decide +kernel
theorem dX7_areaBy_13 : decode cX7_areaBy 13 = .ok (.iload 4, 2) := by decide +kernel
theorem dX7_areaBy_15 : decode cX7_areaBy 15 = .ok (.ishr, 1) := by decide +kernel
theorem dX7_areaBy_16 : decode cX7_areaBy 16 = .ok (.iconst 1, 1) := by decide +kernel
theorem dX7_areaBy_17 : decode cX7_areaBy 17 = .ok (.iand, 1) := by decide +kernel
theorem dX7_areaBy_18 : decode cX7_areaBy 18 = .ok (.iconst 1, 1) := by decide +kernel
theorem dX7_areaBy_19 : decode cX7_areaBy 19 = .ok (.if_icmp .ne 13, 3) := by decide +kernel
theorem dX7_areaBy_22 : decode cX7_areaBy 22 = .ok (.aload_n 0, 1) := by decide +kernel
theorem dX7_areaBy_23 : decode cX7_areaBy 23 = .ok (.getfield 13, 3) := by decide +kernel
theorem dX7_areaBy_26 : decode cX7_areaBy 26 = .ok (.iload 4, 2) := by decide +kernel
theorem dX7_areaBy_28 : decode cX7_areaBy 28 = .ok (.laload, 1) := by decide +kernel
theorem dX7_areaBy_29 : decode cX7_areaBy 29 = .ok (.goto 4, 3) := by decide +kernel
theorem dX7_areaBy_32 : decode cX7_areaBy 32 = .ok (.lconst 0, 1) := by decide +kernel
theorem dX7_areaBy_33 : decode cX7_areaBy 33 = .ok (.lor, 1) := by decide +kernel
theorem dX7_areaBy_34 : decode cX7_areaBy 34 = .ok (.lstore_n 2, 1) := by decide +kernel
theorem dX7_areaBy_35 : decode cX7_areaBy 35 = .ok (.iinc 4 1, 3) := by decide +kernel
theorem dX7_areaBy_38 : decode cX7_areaBy 38 = .ok (.goto (-33), 3) := by decide +kernel
theorem dX7_areaBy_41 : decode cX7_areaBy 41 = .ok (.lload_n 2, 1) := by decide +kernel
theorem dX7_areaBy_42 : decode cX7_areaBy 42 = .ok (.invokestatic 112, 3) := by decide +kernel
theorem dX7_areaBy_45 : decode cX7_areaBy 45 = .ok (.ireturn, 1) := by decide +kernel
theorem dX7_share_0 : decode cX7_share 0 = .ok (.iload_n 1, 1) := by decide +kernel
theorem dX7_share_1 : decode cX7_share 1 = .ok (.invokestatic 106, 3) := by decide +kernel
theorem dX7_share_4 : decode cX7_share 4 = .ok (.ifCond .ne 5, 3) := by decide +kernel
theorem dX7_share_7 : decode cX7_share 7 = .ok (.iconst (-1), 1) := by decide +kernel
theorem dX7_share_8 : decode cX7_share 8 = .ok (.ireturn, 1) := by decide +kernel
theorem dX7_share_9 : decode cX7_share 9 = .ok (.iconst 0, 1) := by decide +kernel
theorem dX7_share_10 : decode cX7_share 10 = .ok (.istore_n 3, 1) := by decide +kernel
theorem dX7_share_11 : decode cX7_share 11 = .ok (.iconst 0, 1) := by decide +kernel
theorem dX7_share_12 : decode cX7_share 12 = .ok (.istore 4, 2) := by decide +kernel
theorem dX7_share_14 : decode cX7_share 14 = .ok (.iload 4, 2) := by decide +kernel
theorem dX7_share_16 : decode cX7_share 16 = .ok (.bipush 8, 2) := by decide +kernel
theorem dX7_share_18 : decode cX7_share 18 = .ok (.if_icmp .ge 63, 3) := by decide +kernel
theorem dX7_share_21 : decode cX7_share 21 = .ok (.iload 4, 2) := by decide +kernel
theorem dX7_share_23 : decode cX7_share 23 = .ok (.iload_n 1, 1) := by decide +kernel
theorem dX7_share_24 : decode cX7_share 24 = .ok (.ishr, 1) := by decide +kernel
theorem dX7_share_25 : decode cX7_share 25 = .ok (.iconst 1, 1) := by decide +kernel
theorem dX7_share_26 : decode cX7_share 26 = .ok (.iand, 1) := by decide +kernel
theorem dX7_share_27 : decode cX7_share 27 = .ok (.ifCond .ne 48, 3) := by decide +kernel
theorem dX7_share_30 : decode cX7_share 30 = .ok (.iload 4, 2) := by decide +kernel
theorem dX7_share_32 : decode cX7_share 32 = .ok (.ifCond .eq 13, 3) := by decide +kernel
theorem dX7_share_35 : decode cX7_share 35 = .ok (.iload 4, 2) := by decide +kernel
theorem dX7_share_37 : decode cX7_share 37 = .ok (.i2l, 1) := by decide +kernel
theorem dX7_share_38 : decode cX7_share 38 = .ok (.invokestatic 112, 3) := by decide +kernel
theorem dX7_share_41 : decode cX7_share 41 = .ok (.iconst 2, 1) := by decide +kernel
theorem dX7_share_42 : decode cX7_share 42 = .ok (.if_icmp .ne 7, 3) := by decide +kernel
theorem dX7_share_45 : decode cX7_share 45 = .ok (.iconst 2, 1) := by decide +kernel
theorem dX7_share_46 : decode cX7_share 46 = .ok (.goto 4, 3) := by decide +kernel
theorem dX7_share_49 : decode cX7_share 49 = .ok (.iconst 1, 1) := by decide +kernel
theorem dX7_share_50 : decode cX7_share 50 = .ok (.istore 5, 2) := by decide +kernel
theorem dX7_share_52 : decode cX7_share 52 = .ok (.iload_n 3, 1) := by decide +kernel
theorem dX7_share_53 : decode cX7_share 53 = .ok (.iload 5, 2) := by decide +kernel
theorem dX7_share_55 : decode cX7_share 55 = .ok (.aload_n 0, 1) := by decide +kernel
theorem dX7_share_56 : decode cX7_share 56 = .ok (.iload 4, 2) := by decide +kernel
theorem dX7_share_58 : decode cX7_share 58 = .ok (.iconst 1, 1) := by decide +kernel
theorem dX7_share_59 : decode cX7_share 59 = .ok (.iload_n 1, 1) := by decide +kernel
theorem dX7_share_60 : decode cX7_share 60 = .ok (.ishl, 1) := by decide +kernel
theorem dX7_share_61 : decode cX7_share 61 = .ok (.ior, 1) := by decide +kernel
theorem dX7_share_62 : decode cX7_share 62 = .ok (.invokevirtual 208, 3) := by decide +kernel
theorem dX7_share_65 : decode cX7_share 65 = .ok (.aload_n 0, 1) := by decide +kernel
theorem dX7_share_66 : decode cX7_share 66 = .ok (.iload 4, 2) := by decide +kernel
theorem dX7_share_68 : decode cX7_share 68 = .ok (.invokevirtual 208, 3) := by decide +kernel
theorem dX7_share_71 : decode cX7_share 71 = .ok (.isub, 1) := by decide +kernel
theorem dX7_share_72 : decode cX7_share 72 = .ok (.imul, 1) := by decide +kernel
theorem dX7_share_73 : decode cX7_share 73 = .ok (.iadd, 1) := by decide +kernel
theorem dX7_share_74 : decode cX7_share 74 = .ok (.istore_n 3, 1) := by decide +kernel
theorem dX7_share_75 : decode cX7_share 75 = .ok (.iinc 4 1, 3) := by decide +kernel
theorem dX7_share_78 : decode cX7_share 78 = .ok (.goto (-64), 3) := by decide +kernel
theorem dX7_share_81 : decode cX7_share 81 = .ok (.iload_n 3, 1) := by decide +kernel
theorem dX7_share_82 : decode cX7_share 82 = .ok (.bipush 6, 2) := by decide +kernel
theorem dX7_share_84 : decode cX7_share 84 = .ok (.invokestatic 211, 3) := by decide +kernel
theorem dX7_share_87 : decode cX7_share 87 = .ok (.istore 4, 2) := by decide +kernel
theorem dX7_share_89 : decode cX7_share 89 = .ok (.iload_n 2, 1) := by decide +kernel
theorem dX7_share_90 : decode cX7_share 90 = .ok (.ifCond .eq 10, 3) := by decide +kernel
theorem dX7_share_93 : decode cX7_share 93 = .ok (.iload_n 3, 1) := by decide +kernel
theorem dX7_share_94 : decode cX7_share 94 = .ok (.iload 4, 2) := by decide +kernel
theorem dX7_share_96 : decode cX7_share 96 = .ok (.idiv, 1) := by decide +kernel
theorem dX7_share_97 : decode cX7_share 97 = .ok (.goto 8, 3) := by decide +kernel
theorem dX7_share_100 : decode cX7_share 100 = .ok (.bipush 6, 2) := by decide +kernel
theorem dX7_share_102 : decode cX7_share 102 = .ok (.iload 4, 2) := by decide +kernel
theorem dX7_share_104 : decode cX7_share 104 = .ok (.idiv, 1) := by decide +kernel
theorem dX7_share_105 : decode cX7_share 105 = .ok (.ireturn, 1) := by decide +kernel
theorem dX7_gain_0 : decode cX7_gain 0 = .ok (.iload_n 3, 1) := by decide +kernel
theorem dX7_gain_1 : decode cX7_gain 1 = .ok (.iconst 1, 1) := by decide +kernel
theorem dX7_gain_2 : decode cX7_gain 2 = .ok (.if_icmp .ne 15, 3) := by decide +kernel
theorem dX7_gain_5 : decode cX7_gain 5 = .ok (.aload_n 0, 1) := by decide +kernel
theorem dX7_gain_6 : decode cX7_gain 6 = .ok (.getfield 13, 3) := by decide +kernel
theorem dX7_gain_9 : decode cX7_gain 9 = .ok (.iload_n 1, 1) := by decide +kernel
theorem dX7_gain_10 : decode cX7_gain 10 = .ok (.laload, 1) := by decide +kernel
theorem dX7_gain_11 : decode cX7_gain 11 = .ok (.invokestatic 126, 3) := by decide +kernel
theorem dX7_gain_14 : decode cX7_gain 14 = .ok (.goto 9, 3) := by decide +kernel
theorem dX7_gain_17 : decode cX7_gain 17 = .ok (.aload_n 0, 1) := by decide +kernel
theorem dX7_gain_18 : decode cX7_gain 18 = .ok (.getfield 13, 3) := by decide +kernel
theorem dX7_gain_21 : decode cX7_gain 21 = .ok (.iload_n 1, 1) := by decide +kernel
theorem dX7_gain_22 : decode cX7_gain 22 = .ok (.laload, 1) := by decide +kernel
theorem dX7_gain_23 : decode cX7_gain 23 = .ok (.lstore 5, 2) := by decide +kernel
theorem dX7_gain_25 : decode cX7_gain 25 = .ok (.iload 4, 2) := by decide +kernel
theorem dX7_gain_27 : decode cX7_gain 27 = .ok (.iconst 1, 1) := by decide +kernel
theorem dX7_gain_28 : decode cX7_gain 28 = .ok (.if_icmp .ne 15, 3) := by decide +kernel
theorem dX7_gain_31 : decode cX7_gain 31 = .ok (.aload_n 0, 1) := by decide +kernel
theorem dX7_gain_32 : decode cX7_gain 32 = .ok (.getfield 13, 3) := by decide +kernel
theorem dX7_gain_35 : decode cX7_gain 35 = .ok (.iload_n 2, 1) := by decide +kernel
theorem dX7_gain_36 : decode cX7_gain 36 = .ok (.laload, 1) := by decide +kernel
theorem dX7_gain_37 : decode cX7_gain 37 = .ok (.invokestatic 126, 3) := by decide +kernel
theorem dX7_gain_40 : decode cX7_gain 40 = .ok (.goto 9, 3) := by decide +kernel
theorem dX7_gain_43 : decode cX7_gain 43 = .ok (.aload_n 0, 1) := by decide +kernel
theorem dX7_gain_44 : decode cX7_gain 44 = .ok (.getfield 13, 3) := by decide +kernel
theorem dX7_gain_47 : decode cX7_gain 47 = .ok (.iload_n 2, 1) := by decide +kernel
theorem dX7_gain_48 : decode cX7_gain 48 = .ok (.laload, 1) := by decide +kernel
theorem dX7_gain_49 : decode cX7_gain 49 = .ok (.lstore 7, 2) := by decide +kernel
theorem dX7_gain_51 : decode cX7_gain 51 = .ok (.lload 5, 2) := by decide +kernel
theorem dX7_gain_53 : decode cX7_gain 53 = .ok (.aload_n 0, 1) := by decide +kernel
theorem dX7_gain_54 : decode cX7_gain 54 = .ok (.getfield 13, 3) := by decide +kernel
theorem dX7_gain_57 : decode cX7_gain 57 = .ok (.iconst 3, 1) := by decide +kernel
theorem dX7_gain_58 : decode cX7_gain 58 = .ok (.iload_n 1, 1) := by decide +kernel
theorem dX7_gain_59 : decode cX7_gain 59 = .ok (.isub, 1) := by decide +kernel
theorem dX7_gain_60 : decode cX7_gain 60 = .ok (.iload_n 2, 1) := by decide +kernel
theorem dX7_gain_61 : decode cX7_gain 61 = .ok (.isub, 1) := by decide +kernel
theorem dX7_gain_62 : decode cX7_gain 62 = .ok (.laload, 1) := by decide +kernel
theorem dX7_gain_63 : decode cX7_gain 63 = .ok (.land, 1) := by decide +kernel
theorem dX7_gain_64 : decode cX7_gain 64 = .ok (.invokestatic 112, 3) := by decide +kernel
theorem dX7_gain_67 : decode cX7_gain 67 = .ok (.lload 5, 2) := by decide +kernel
theorem dX7_gain_69 : decode cX7_gain 69 = .ok (.lload 7, 2) := by decide +kernel
theorem dX7_gain_71 : decode cX7_gain 71 = .ok (.land, 1) := by decide +kernel
theorem dX7_gain_72 : decode cX7_gain 72 = .ok (.invokestatic 112, 3) := by decide +kernel
theorem dX7_gain_75 : decode cX7_gain 75 = .ok (.isub, 1) := by decide +kernel
theorem dX7_gain_76 : decode cX7_gain 76 = .ok (.ireturn, 1) := by decide +kernel
theorem dX7_isRest_0 : decode cX7_isRest 0 = .ok (.aload_n 0, 1) := by decide +kernel
theorem dX7_isRest_1 : decode cX7_isRest 1 = .ok (.iload_n 1, 1) := by decide +kernel
theorem dX7_isRest_2 : decode cX7_isRest 2 = .ok (.iload_n 2, 1) := by decide +kernel
theorem dX7_isRest_3 : decode cX7_isRest 3 = .ok (.iconst 1, 1) := by decide +kernel
theorem dX7_isRest_4 : decode cX7_isRest 4 = .ok (.iload_n 3, 1) := by decide +kernel
theorem dX7_isRest_5 : decode cX7_isRest 5 = .ok (.isub, 1) := by decide +kernel
theorem dX7_isRest_6 : decode cX7_isRest 6 = .ok (.iload 4, 2) := by decide +kernel
theorem dX7_isRest_8 : decode cX7_isRest 8 = .ok (.invokevirtual 214, 3) := by decide +kernel
theorem dX7_isRest_11 : decode cX7_isRest 11 = .ok (.aload_n 0, 1) := by decide +kernel
theorem dX7_isRest_12 : decode cX7_isRest 12 = .ok (.iload_n 1, 1) := by decide +kernel
theorem dX7_isRest_13 : decode cX7_isRest 13 = .ok (.iload_n 2, 1) := by decide +kernel
theorem dX7_isRest_14 : decode cX7_isRest 14 = .ok (.iload_n 3, 1) := by decide +kernel
theorem dX7_isRest_15 : decode cX7_isRest 15 = .ok (.iload 4, 2) := by decide +kernel
theorem dX7_isRest_17 : decode cX7_isRest 17 = .ok (.invokevirtual 214, 3) := by decide +kernel
theorem dX7_isRest_20 : decode cX7_isRest 20 = .ok (.if_icmp .gt 30, 3) := by decide +kernel
theorem dX7_isRest_23 : decode cX7_isRest 23 = .ok (.aload_n 0, 1) := by decide +kernel
theorem dX7_isRest_24 : decode cX7_isRest 24 = .ok (.iload_n 2, 1) := by decide +kernel
theorem dX7_isRest_25 : decode cX7_isRest 25 = .ok (.iload_n 1, 1) := by decide +kernel
theorem dX7_isRest_26 : decode cX7_isRest 26 = .ok (.iconst 1, 1) := by decide +kernel
theorem dX7_isRest_27 : decode cX7_isRest 27 = .ok (.iload 4, 2) := by decide +kernel
theorem dX7_isRest_29 : decode cX7_isRest 29 = .ok (.isub, 1) := by decide +kernel
theorem dX7_isRest_30 : decode cX7_isRest 30 = .ok (.iload_n 3, 1) := by decide +kernel
theorem dX7_isRest_31 : decode cX7_isRest 31 = .ok (.invokevirtual 214, 3) := by decide +kernel
theorem dX7_isRest_34 : decode cX7_isRest 34 = .ok (.aload_n 0, 1) := by decide +kernel
theorem dX7_isRest_35 : decode cX7_isRest 35 = .ok (.iload_n 2, 1) := by decide +kernel
theorem dX7_isRest_36 : decode cX7_isRest 36 = .ok (.iload_n 1, 1) := by decide +kernel
theorem dX7_isRest_37 : decode cX7_isRest 37 = .ok (.iload 4, 2) := by decide +kernel
theorem dX7_isRest_39 : decode cX7_isRest 39 = .ok (.iload_n 3, 1) := by decide +kernel
theorem dX7_isRest_40 : decode cX7_isRest 40 = .ok (.invokevirtual 214, 3) := by decide +kernel
theorem dX7_isRest_43 : decode cX7_isRest 43 = .ok (.if_icmp .gt 7, 3) := by decide +kernel
theorem dX7_isRest_46 : decode cX7_isRest 46 = .ok (.iconst 1, 1) := by decide +kernel
theorem dX7_isRest_47 : decode cX7_isRest 47 = .ok (.goto 4, 3) := by decide +kernel
theorem dX7_isRest_50 : decode cX7_isRest 50 = .ok (.iconst 0, 1) := by decide +kernel
theorem dX7_isRest_51 : decode cX7_isRest 51 = .ok (.ireturn, 1) := by decide +kernel
theorem dX7_rests_0 : decode cX7_rests 0 = .ok (.iload_n 1, 1) := by decide +kernel
theorem dX7_rests_1 : decode cX7_rests 1 = .ok (.invokestatic 106, 3) := by decide +kernel
theorem dX7_rests_4 : decode cX7_rests 4 = .ok (.ifCond .eq 10, 3) := by decide +kernel
theorem dX7_rests_7 : decode cX7_rests 7 = .ok (.iload_n 2, 1) := by decide +kernel
theorem dX7_rests_8 : decode cX7_rests 8 = .ok (.invokestatic 106, 3) := by decide +kernel
theorem dX7_rests_11 : decode cX7_rests 11 = .ok (.ifCond .ne 5, 3) := by decide +kernel
theorem dX7_rests_14 : decode cX7_rests 14 = .ok (.iconst (-1), 1) := by decide +kernel
theorem dX7_rests_15 : decode cX7_rests 15 = .ok (.ireturn, 1) := by decide +kernel
theorem dX7_rests_16 : decode cX7_rests 16 = .ok (.iload_n 1, 1) := by decide +kernel
theorem dX7_rests_17 : decode cX7_rests 17 = .ok (.iload_n 2, 1) := by decide +kernel
theorem dX7_rests_18 : decode cX7_rests 18 = .ok (.if_icmp .eq 13, 3) := by decide +kernel
theorem dX7_rests_21 : decode cX7_rests 21 = .ok (.iload_n 3, 1) := by decide +kernel
theorem dX7_rests_22 : decode cX7_rests 22 = .ok (.i2l, 1) := by decide +kernel
theorem dX7_rests_23 : decode cX7_rests 23 = .ok (.lconst 0, 1) := by decide +kernel
theorem dX7_rests_24 : decode cX7_rests 24 = .ok (.lconst 1, 1) := by decide +kernel
theorem dX7_rests_25 : decode cX7_rests 25 = .ok (.invokestatic 44, 3) := by decide +kernel
theorem dX7_rests_28 : decode cX7_rests 28 = .ok (.ifCond .ne 6, 3) := by decide +kernel
theorem dX7_rests_31 : decode cX7_rests 31 = .ok (.bipush (-2), 2) := by decide +kernel
theorem dX7_rests_33 : decode cX7_rests 33 = .ok (.ireturn, 1) := by decide +kernel
theorem dX7_rests_34 : decode cX7_rests 34 = .ok (.iconst 0, 1) := by decide +kernel
theorem dX7_rests_35 : decode cX7_rests 35 = .ok (.istore 4, 2) := by decide +kernel
theorem dX7_rests_37 : decode cX7_rests 37 = .ok (.bipush (-9), 2) := by decide +kernel
theorem dX7_rests_39 : decode cX7_rests 39 = .ok (.istore 5, 2) := by decide +kernel
theorem dX7_rests_41 : decode cX7_rests 41 = .ok (.iconst 0, 1) := by decide +kernel
theorem dX7_rests_42 : decode cX7_rests 42 = .ok (.istore 6, 2) := by decide +kernel
theorem dX7_rests_44 : decode cX7_rests 44 = .ok (.iload 6, 2) := by decide +kernel
theorem dX7_rests_46 : decode cX7_rests 46 = .ok (.iconst 4, 1) := by decide +kernel
theorem dX7_rests_47 : decode cX7_rests 47 = .ok (.if_icmp .ge 53, 3) := by decide +kernel
theorem dX7_rests_50 : decode cX7_rests 50 = .ok (.aload_n 0, 1) := by decide +kernel
theorem dX7_rests_51 : decode cX7_rests 51 = .ok (.iload_n 1, 1) := by decide +kernel
theorem dX7_rests_52 : decode cX7_rests 52 = .ok (.iload_n 2, 1) := by decide +kernel
theorem dX7_rests_53 : decode cX7_rests 53 = .ok (.iload 6, 2) := by decide +kernel
theorem dX7_rests_55 : decode cX7_rests 55 = .ok (.iconst 2, 1) := by decide +kernel
theorem dX7_rests_56 : decode cX7_rests 56 = .ok (.idiv, 1) := by decide +kernel
theorem dX7_rests_57 : decode cX7_rests 57 = .ok (.iload 6, 2) := by decide +kernel
theorem dX7_rests_59 : decode cX7_rests 59 = .ok (.iconst 2, 1) := by decide +kernel
theorem dX7_rests_60 : decode cX7_rests 60 = .ok (.irem, 1) := by decide +kernel
theorem dX7_rests_61 : decode cX7_rests 61 = .ok (.invokevirtual 218, 3) := by decide +kernel
theorem dX7_rests_64 : decode cX7_rests 64 = .ok (.ifCond .eq 30, 3) := by decide +kernel
theorem dX7_rests_67 : decode cX7_rests 67 = .ok (.iload 4, 2) := by decide +kernel
theorem dX7_rests_69 : decode cX7_rests 69 = .ok (.ifCond .ne 18, 3) := by decide +kernel
theorem dX7_rests_72 : decode cX7_rests 72 = .ok (.bipush 10, 2) := by decide +kernel
theorem dX7_rests_74 : decode cX7_rests 74 = .ok (.iload 6, 2) := by decide +kernel
theorem dX7_rests_76 : decode cX7_rests 76 = .ok (.iconst 2, 1) := by decide +kernel
theorem dX7_rests_77 : decode cX7_rests 77 = .ok (.idiv, 1) := by decide +kernel
theorem dX7_rests_78 : decode cX7_rests 78 = .ok (.imul, 1) := by decide +kernel
theorem dX7_rests_79 : decode cX7_rests 79 = .ok (.iload 6, 2) := by decide +kernel
theorem dX7_rests_81 : decode cX7_rests 81 = .ok (.iconst 2, 1) := by decide +kernel
theorem dX7_rests_82 : decode cX7_rests 82 = .ok (.irem, 1) := by decide +kernel
theorem dX7_rests_83 : decode cX7_rests 83 = .ok (.iadd, 1) := by decide +kernel
theorem dX7_rests_84 : decode cX7_rests 84 = .ok (.goto 5, 3) := by decide +kernel
theorem dX7_rests_87 : decode cX7_rests 87 = .ok (.iload 5, 2) := by decide +kernel
theorem dX7_rests_89 : decode cX7_rests 89 = .ok (.istore 5, 2) := by decide +kernel
theorem dX7_rests_91 : decode cX7_rests 91 = .ok (.iinc 4 1, 3) := by decide +kernel
theorem dX7_rests_94 : decode cX7_rests 94 = .ok (.iinc 6 1, 3) := by decide +kernel
theorem dX7_rests_97 : decode cX7_rests 97 = .ok (.goto (-53), 3) := by decide +kernel
theorem dX7_rests_100 : decode cX7_rests 100 = .ok (.iload_n 3, 1) := by decide +kernel
theorem dX7_rests_101 : decode cX7_rests 101 = .ok (.ifCond .ne 8, 3) := by decide +kernel
theorem dX7_rests_104 : decode cX7_rests 104 = .ok (.iload 4, 2) := by decide +kernel
theorem dX7_rests_106 : decode cX7_rests 106 = .ok (.goto 5, 3) := by decide +kernel
theorem dX7_rests_109 : decode cX7_rests 109 = .ok (.iload 5, 2) := by decide +kernel
theorem dX7_rests_111 : decode cX7_rests 111 = .ok (.ireturn, 1) := by decide +kernel
theorem dX7_fades_0 : decode cX7_fades 0 = .ok (.iload_n 1, 1) := by decide +kernel
theorem dX7_fades_1 : decode cX7_fades 1 = .ok (.invokestatic 106, 3) := by decide +kernel
theorem dX7_fades_4 : decode cX7_fades 4 = .ok (.ifCond .ne 5, 3) := by decide +kernel
theorem dX7_fades_7 : decode cX7_fades 7 = .ok (.iconst (-1), 1) := by decide +kernel
theorem dX7_fades_8 : decode cX7_fades 8 = .ok (.ireturn, 1) := by decide +kernel
theorem dX7_fades_9 : decode cX7_fades 9 = .ok (.iload_n 2, 1) := by decide +kernel
theorem dX7_fades_10 : decode cX7_fades 10 = .ok (.i2l, 1) := by decide +kernel
theorem dX7_fades_11 : decode cX7_fades 11 = .ok (.lconst 0, 1) := by decide +kernel
theorem dX7_fades_12 : decode cX7_fades 12 = .ok (.ldc2_w 222, 3) := by decide +kernel
theorem dX7_fades_15 : decode cX7_fades 15 = .ok (.invokestatic 44, 3) := by decide +kernel
theorem dX7_fades_18 : decode cX7_fades 18 = .ok (.ifCond .eq 15, 3) := by decide +kernel
theorem dX7_fades_21 : decode cX7_fades 21 = .ok (.iload_n 3, 1) := by decide +kernel
theorem dX7_fades_22 : decode cX7_fades 22 = .ok (.i2l, 1) := by decide +kernel
theorem dX7_fades_23 : decode cX7_fades 23 = .ok (.lconst 0, 1) := by decide +kernel
theorem dX7_fades_24 : decode cX7_fades 24 = .ok (.ldc2_w 224, 3) := by decide +kernel
theorem dX7_fades_27 : decode cX7_fades 27 = .ok (.invokestatic 44, 3) := by decide +kernel
theorem dX7_fades_30 : decode cX7_fades 30 = .ok (.ifCond .ne 6, 3) := by decide +kernel
theorem dX7_fades_33 : decode cX7_fades 33 = .ok (.bipush (-2), 2) := by decide +kernel
theorem dX7_fades_35 : decode cX7_fades 35 = .ok (.ireturn, 1) := by decide +kernel
theorem dX7_fades_36 : decode cX7_fades 36 = .ok (.iconst 0, 1) := by decide +kernel
theorem dX7_fades_37 : decode cX7_fades 37 = .ok (.istore 5, 2) := by decide +kernel
theorem dX7_fades_39 : decode cX7_fades 39 = .ok (.iconst 0, 1) := by decide +kernel
theorem dX7_fades_40 : decode cX7_fades 40 = .ok (.istore 6, 2) := by decide +kernel
theorem dX7_fades_42 : decode cX7_fades 42 = .ok (.iload 6, 2) := by decide +kernel
theorem dX7_fades_44 : decode cX7_fades 44 = .ok (.bipush 16, 2) := by decide +kernel
theorem dX7_fades_46 : decode cX7_fades 46 = .ok (.if_icmp .ge 117, 3) := by decide +kernel
theorem dX7_fades_49 : decode cX7_fades 49 = .ok (.iconst 1, 1) := by decide +kernel
theorem dX7_fades_50 : decode cX7_fades 50 = .ok (.istore 7, 2) := by decide +kernel
theorem dX7_fades_52 : decode cX7_fades 52 = .ok (.aload_n 0, 1) := by decide +kernel
theorem dX7_fades_53 : decode cX7_fades 53 = .ok (.getfield 13, 3) := by decide +kernel
theorem dX7_fades_56 : decode cX7_fades 56 = .ok (.iload_n 1, 1) := by decide +kernel
theorem dX7_fades_57 : decode cX7_fades 57 = .ok (.laload, 1) := by decide +kernel
theorem dX7_fades_58 : decode cX7_fades 58 = .ok (.lstore 8, 2) := by decide +kernel
theorem dX7_fades_60 : decode cX7_fades 60 = .ok (.iconst 0, 1) := by decide +kernel
theorem dX7_fades_61 : decode cX7_fades 61 = .ok (.istore 10, 2) := by decide +kernel
theorem dX7_fades_63 : decode cX7_fades 63 = .ok (.iload 10, 2) := by decide +kernel
theorem dX7_fades_65 : decode cX7_fades 65 = .ok (.iconst 4, 1) := by decide +kernel
theorem dX7_fades_66 : decode cX7_fades 66 = .ok (.if_icmp .ge 71, 3) := by decide +kernel
theorem dX7_fades_69 : decode cX7_fades 69 = .ok (.iload 6, 2) := by decide +kernel
theorem dX7_fades_71 : decode cX7_fades 71 = .ok (.iload 10, 2) := by decide +kernel
theorem dX7_fades_73 : decode cX7_fades 73 = .ok (.ishr, 1) := by decide +kernel
theorem dX7_fades_74 : decode cX7_fades 74 = .ok (.iconst 1, 1) := by decide +kernel
theorem dX7_fades_75 : decode cX7_fades 75 = .ok (.iand, 1) := by decide +kernel
theorem dX7_fades_76 : decode cX7_fades 76 = .ok (.iconst 1, 1) := by decide +kernel
theorem dX7_fades_77 : decode cX7_fades 77 = .ok (.if_icmp .ne 7, 3) := by decide +kernel
theorem dX7_fades_80 : decode cX7_fades 80 = .ok (.iconst 1, 1) := by decide +kernel
theorem dX7_fades_81 : decode cX7_fades 81 = .ok (.goto 4, 3) := by decide +kernel
theorem dX7_fades_84 : decode cX7_fades 84 = .ok (.iconst 0, 1) := by decide +kernel
theorem dX7_fades_85 : decode cX7_fades 85 = .ok (.istore 11, 2) := by decide +kernel
theorem dX7_fades_87 : decode cX7_fades 87 = .ok (.iload 7, 2) := by decide +kernel
theorem dX7_fades_89 : decode cX7_fades 89 = .ok (.iload 11, 2) := by decide +kernel
theorem dX7_fades_91 : decode cX7_fades 91 = .ok (.ifCond .eq 7, 3) := by decide +kernel
theorem dX7_fades_94 : decode cX7_fades 94 = .ok (.iload_n 3, 1) := by decide +kernel
theorem dX7_fades_95 : decode cX7_fades 95 = .ok (.goto 7, 3) := by decide +kernel
theorem dX7_fades_98 : decode cX7_fades 98 = .ok (.bipush 10, 2) := by decide +kernel
theorem dX7_fades_100 : decode cX7_fades 100 = .ok (.iload_n 3, 1) := by decide +kernel
theorem dX7_fades_101 : decode cX7_fades 101 = .ok (.isub, 1) := by decide +kernel
theorem dX7_fades_102 : decode cX7_fades 102 = .ok (.imul, 1) := by decide +kernel
theorem dX7_fades_103 : decode cX7_fades 103 = .ok (.istore 7, 2) := by decide +kernel
theorem dX7_fades_105 : decode cX7_fades 105 = .ok (.lload 8, 2) := by decide +kernel
theorem dX7_fades_107 : decode cX7_fades 107 = .ok (.iload 11, 2) := by decide +kernel
theorem dX7_fades_109 : decode cX7_fades 109 = .ok (.ifCond .eq 16, 3) := by decide +kernel
theorem dX7_fades_112 : decode cX7_fades 112 = .ok (.iconst 1, 1) := by decide +kernel
theorem dX7_fades_113 : decode cX7_fades 113 = .ok (.iload 10, 2) := by decide +kernel
theorem dX7_fades_115 : decode cX7_fades 115 = .ok (.invokestatic 142, 3) := by decide +kernel
theorem dX7_fades_118 : decode cX7_fades 118 = .ok (.ldc2_w 116, 3) := by decide +kernel
theorem dX7_fades_121 : decode cX7_fades 121 = .ok (.lxor, 1) := by decide +kernel
theorem dX7_fades_122 : decode cX7_fades 122 = .ok (.goto 6, 3) := by decide +kernel
theorem dX7_fades_125 : decode cX7_fades 125 = .ok (.ldc2_w 116, 3) := by decide +kernel
theorem dX7_fades_128 : decode cX7_fades 128 = .ok (.land, 1) := by decide +kernel
theorem dX7_fades_129 : decode cX7_fades 129 = .ok (.lstore 8, 2) := by decide +kernel
theorem dX7_fades_131 : decode cX7_fades 131 = .ok (.iinc 10 1, 3) := by decide +kernel
theorem dX7_fades_134 : decode cX7_fades 134 = .ok (.goto (-71), 3) := by decide +kernel
theorem dX7_fades_137 : decode cX7_fades 137 = .ok (.iload 5, 2) := by decide +kernel
theorem dX7_fades_139 : decode cX7_fades 139 = .ok (.lload 8, 2) := by decide +kernel
theorem dX7_fades_141 : decode cX7_fades 141 = .ok (.invokestatic 112, 3) := by decide +kernel
theorem dX7_fades_144 : decode cX7_fades 144 = .ok (.iload_n 2, 1) := by decide +kernel
theorem dX7_fades_145 : decode cX7_fades 145 = .ok (.if_icmp .lt 8, 3) := by decide +kernel
theorem dX7_fades_148 : decode cX7_fades 148 = .ok (.iload 7, 2) := by decide +kernel
theorem dX7_fades_150 : decode cX7_fades 150 = .ok (.goto 4, 3) := by decide +kernel
theorem dX7_fades_153 : decode cX7_fades 153 = .ok (.iconst 0, 1) := by decide +kernel
theorem dX7_fades_154 : decode cX7_fades 154 = .ok (.iadd, 1) := by decide +kernel
theorem dX7_fades_155 : decode cX7_fades 155 = .ok (.istore 5, 2) := by decide +kernel
theorem dX7_fades_157 : decode cX7_fades 157 = .ok (.iinc 6 1, 3) := by decide +kernel
theorem dX7_fades_160 : decode cX7_fades 160 = .ok (.goto (-118), 3) := by decide +kernel
theorem dX7_fades_163 : decode cX7_fades 163 = .ok (.iload 5, 2) := by decide +kernel
theorem dX7_fades_165 : decode cX7_fades 165 = .ok (.sipush 10000, 3) := by decide +kernel
theorem dX7_fades_168 : decode cX7_fades 168 = .ok (.invokestatic 211, 3) := by decide +kernel
theorem dX7_fades_171 : decode cX7_fades 171 = .ok (.istore 6, 2) := by decide +kernel
theorem dX7_fades_173 : decode cX7_fades 173 = .ok (.iload 4, 2) := by decide +kernel
theorem dX7_fades_175 : decode cX7_fades 175 = .ok (.ifCond .eq 11, 3) := by decide +kernel
theorem dX7_fades_178 : decode cX7_fades 178 = .ok (.iload 5, 2) := by decide +kernel
theorem dX7_fades_180 : decode cX7_fades 180 = .ok (.iload 6, 2) := by decide +kernel
theorem dX7_fades_182 : decode cX7_fades 182 = .ok (.idiv, 1) := by decide +kernel
theorem dX7_fades_183 : decode cX7_fades 183 = .ok (.goto 9, 3) := by decide +kernel
theorem dX7_fades_186 : decode cX7_fades 186 = .ok (.sipush 10000, 3) := by decide +kernel
theorem dX7_fades_189 : decode cX7_fades 189 = .ok (.iload 6, 2) := by decide +kernel
theorem dX7_fades_191 : decode cX7_fades 191 = .ok (.idiv, 1) := by decide +kernel
theorem dX7_fades_192 : decode cX7_fades 192 = .ok (.ireturn, 1) := by decide +kernel
theorem dX7_seed_0 : decode cX7_seed 0 = .ok (.aload_n 0, 1) := by decide +kernel
theorem dX7_seed_1 : decode cX7_seed 1 = .ok (.getfield 226, 3) := by decide +kernel
theorem dX7_seed_4 : decode cX7_seed 4 = .ok (.lstore_n 3, 1) := by decide +kernel
theorem dX7_seed_5 : decode cX7_seed 5 = .ok (.aload_n 0, 1) := by decide +kernel
theorem dX7_seed_6 : decode cX7_seed 6 = .ok (.lload_n 1, 1) := by decide +kernel
theorem dX7_seed_7 : decode cX7_seed 7 = .ok (.putfield 226, 3) := by decide +kernel
theorem dX7_seed_10 : decode cX7_seed 10 = .ok (.lload_n 3, 1) := by decide +kernel
theorem dX7_seed_11 : decode cX7_seed 11 = .ok (.lreturn, 1) := by decide +kernel
theorem dX7_areaOf_0 : decode cX7_areaOf 0 = .ok (.iconst 3, 1) := by decide +kernel
theorem dX7_areaOf_1 : decode cX7_areaOf 1 = .ok (.iload_n 1, 1) := by decide +kernel
theorem dX7_areaOf_2 : decode cX7_areaOf 2 = .ok (.imul, 1) := by decide +kernel
theorem dX7_areaOf_3 : decode cX7_areaOf 3 = .ok (.istore_n 2, 1) := by decide +kernel
theorem dX7_areaOf_4 : decode cX7_areaOf 4 = .ok (.aload_n 0, 1) := by decide +kernel
theorem dX7_areaOf_5 : decode cX7_areaOf 5 = .ok (.getfield 13, 3) := by decide +kernel
theorem dX7_areaOf_8 : decode cX7_areaOf 8 = .ok (.iload_n 2, 1) := by decide +kernel
theorem dX7_areaOf_9 : decode cX7_areaOf 9 = .ok (.laload, 1) := by decide +kernel
theorem dX7_areaOf_10 : decode cX7_areaOf 10 = .ok (.invokestatic 112, 3) := by decide +kernel
theorem dX7_areaOf_13 : decode cX7_areaOf 13 = .ok (.aload_n 0, 1) := by decide +kernel
theorem dX7_areaOf_14 : decode cX7_areaOf 14 = .ok (.getfield 13, 3) := by decide +kernel
theorem dX7_areaOf_17 : decode cX7_areaOf 17 = .ok (.iload_n 2, 1) := by decide +kernel
theorem dX7_areaOf_18 : decode cX7_areaOf 18 = .ok (.iconst 1, 1) := by decide +kernel
theorem dX7_areaOf_19 : decode cX7_areaOf 19 = .ok (.iadd, 1) := by decide +kernel
theorem dX7_areaOf_20 : decode cX7_areaOf 20 = .ok (.laload, 1) := by decide +kernel
theorem dX7_areaOf_21 : decode cX7_areaOf 21 = .ok (.invokestatic 112, 3) := by decide +kernel
theorem dX7_areaOf_24 : decode cX7_areaOf 24 = .ok (.iadd, 1) := by decide +kernel
theorem dX7_areaOf_25 : decode cX7_areaOf 25 = .ok (.aload_n 0, 1) := by decide +kernel
theorem dX7_areaOf_26 : decode cX7_areaOf 26 = .ok (.getfield 13, 3) := by decide +kernel
theorem dX7_areaOf_29 : decode cX7_areaOf 29 = .ok (.iload_n 2, 1) := by decide +kernel
theorem dX7_areaOf_30 : decode cX7_areaOf 30 = .ok (.iconst 2, 1) := by decide +kernel
theorem dX7_areaOf_31 : decode cX7_areaOf 31 = .ok (.iadd, 1) := by decide +kernel
theorem dX7_areaOf_32 : decode cX7_areaOf 32 = .ok (.laload, 1) := by decide +kernel
theorem dX7_areaOf_33 : decode cX7_areaOf 33 = .ok (.invokestatic 112, 3) := by decide +kernel
theorem dX7_areaOf_36 : decode cX7_areaOf 36 = .ok (.iadd, 1) := by decide +kernel
theorem dX7_areaOf_37 : decode cX7_areaOf 37 = .ok (.ireturn, 1) := by decide +kernel
theorem dX7_years_0 : decode cX7_years 0 = .ok (.iload_n 1, 1) := by decide +kernel
theorem dX7_years_1 : decode cX7_years 1 = .ok (.i2l, 1) := by decide +kernel
theorem dX7_years_2 : decode cX7_years 2 = .ok (.lconst 1, 1) := by decide +kernel
theorem dX7_years_3 : decode cX7_years 3 = .ok (.ldc2_w 229, 3) := by decide +kernel
theorem dX7_years_6 : decode cX7_years 6 = .ok (.invokestatic 44, 3) := by decide +kernel
theorem dX7_years_9 : decode cX7_years 9 = .ok (.ifCond .ne 6, 3) := by decide +kernel
theorem dX7_years_12 : decode cX7_years 12 = .ok (.bipush (-2), 2) := by decide +kernel
theorem dX7_years_14 : decode cX7_years 14 = .ok (.ireturn, 1) := by decide +kernel
theorem dX7_years_15 : decode cX7_years 15 = .ok (.aload_n 0, 1) := by decide +kernel
theorem dX7_years_16 : decode cX7_years 16 = .ok (.invokevirtual 190, 3) := by decide +kernel
theorem dX7_years_19 : decode cX7_years 19 = .ok (.iconst 0, 1) := by decide +kernel
theorem dX7_years_20 : decode cX7_years 20 = .ok (.istore_n 2, 1) := by decide +kernel
theorem dX7_years_21 : decode cX7_years 21 = .ok (.iconst 0, 1) := by decide +kernel
theorem dX7_years_22 : decode cX7_years 22 = .ok (.istore_n 3, 1) := by decide +kernel
theorem dX7_years_23 : decode cX7_years 23 = .ok (.iload_n 3, 1) := by decide +kernel
theorem dX7_years_24 : decode cX7_years 24 = .ok (.iload_n 1, 1) := by decide +kernel
theorem dX7_years_25 : decode cX7_years 25 = .ok (.if_icmp .ge 138, 3) := by decide +kernel
theorem dX7_years_28 : decode cX7_years 28 = .ok (.aload_n 0, 1) := by decide +kernel
theorem dX7_years_29 : decode cX7_years 29 = .ok (.aload_n 0, 1) := by decide +kernel
theorem dX7_years_30 : decode cX7_years 30 = .ok (.getfield 226, 3) := by decide +kernel
theorem dX7_years_33 : decode cX7_years 33 = .ok (.ldc2_w 231, 3) := by decide +kernel
theorem dX7_years_36 : decode cX7_years 36 = .ok (.lmul, 1) := by decide +kernel
theorem dX7_years_37 : decode cX7_years 37 = .ok (.ldc2_w 233, 3) := by decide +kernel
theorem dX7_years_40 : decode cX7_years 40 = .ok (.ladd, 1) := by decide +kernel
theorem dX7_years_41 : decode cX7_years 41 = .ok (.putfield 226, 3) := by decide +kernel
theorem dX7_years_44 : decode cX7_years 44 = .ok (.aload_n 0, 1) := by decide +kernel
theorem dX7_years_45 : decode cX7_years 45 = .ok (.getfield 226, 3) := by decide +kernel
theorem dX7_years_48 : decode cX7_years 48 = .ok (.bipush 33, 2) := by decide +kernel
theorem dX7_years_50 : decode cX7_years 50 = .ok (.lushr, 1) := by decide +kernel
theorem dX7_years_51 : decode cX7_years 51 = .ok (.ldc2_w 235, 3) := by decide +kernel
theorem dX7_years_54 : decode cX7_years 54 = .ok (.lrem, 1) := by decide +kernel
theorem dX7_years_55 : decode cX7_years 55 = .ok (.l2i, 1) := by decide +kernel
theorem dX7_years_56 : decode cX7_years 56 = .ok (.istore 4, 2) := by decide +kernel
theorem dX7_years_58 : decode cX7_years 58 = .ok (.iload 4, 2) := by decide +kernel
theorem dX7_years_60 : decode cX7_years 60 = .ok (.bipush 32, 2) := by decide +kernel
theorem dX7_years_62 : decode cX7_years 62 = .ok (.if_icmp .le 19, 3) := by decide +kernel
theorem dX7_years_65 : decode cX7_years 65 = .ok (.aload_n 0, 1) := by decide +kernel
theorem dX7_years_66 : decode cX7_years 66 = .ok (.bipush 7, 2) := by decide +kernel
theorem dX7_years_68 : decode cX7_years 68 = .ok (.iload 4, 2) := by decide +kernel
theorem dX7_years_70 : decode cX7_years 70 = .ok (.bipush 33, 2) := by decide +kernel
theorem dX7_years_72 : decode cX7_years 72 = .ok (.isub, 1) := by decide +kernel
theorem dX7_years_73 : decode cX7_years 73 = .ok (.iconst 0, 1) := by decide +kernel
theorem dX7_years_74 : decode cX7_years 74 = .ok (.invokevirtual 193, 3) := by decide +kernel
theorem dX7_years_77 : decode cX7_years 77 = .ok (.pop, 1) := by decide +kernel
theorem dX7_years_78 : decode cX7_years 78 = .ok (.goto 71, 3) := by decide +kernel
theorem dX7_years_81 : decode cX7_years 81 = .ok (.iload 4, 2) := by decide +kernel
theorem dX7_years_83 : decode cX7_years 83 = .ok (.bipush 29, 2) := by decide +kernel
theorem dX7_years_85 : decode cX7_years 85 = .ok (.if_icmp .le 19, 3) := by decide +kernel
theorem dX7_years_88 : decode cX7_years 88 = .ok (.aload_n 0, 1) := by decide +kernel
theorem dX7_years_89 : decode cX7_years 89 = .ok (.bipush 6, 2) := by decide +kernel
theorem dX7_years_91 : decode cX7_years 91 = .ok (.iload 4, 2) := by decide +kernel
theorem dX7_years_93 : decode cX7_years 93 = .ok (.bipush 30, 2) := by decide +kernel
theorem dX7_years_95 : decode cX7_years 95 = .ok (.isub, 1) := by decide +kernel
theorem dX7_years_96 : decode cX7_years 96 = .ok (.iconst 0, 1) := by decide +kernel
theorem dX7_years_97 : decode cX7_years 97 = .ok (.invokevirtual 193, 3) := by decide +kernel
theorem dX7_years_100 : decode cX7_years 100 = .ok (.pop, 1) := by decide +kernel
theorem dX7_years_101 : decode cX7_years 101 = .ok (.goto 48, 3) := by decide +kernel
theorem dX7_years_104 : decode cX7_years 104 = .ok (.iload 4, 2) := by decide +kernel
theorem dX7_years_106 : decode cX7_years 106 = .ok (.bipush 26, 2) := by decide +kernel
theorem dX7_years_108 : decode cX7_years 108 = .ok (.if_icmp .le 18, 3) := by decide +kernel
theorem dX7_years_111 : decode cX7_years 111 = .ok (.aload_n 0, 1) := by decide +kernel
theorem dX7_years_112 : decode cX7_years 112 = .ok (.iconst 4, 1) := by decide +kernel
theorem dX7_years_113 : decode cX7_years 113 = .ok (.iconst 0, 1) := by decide +kernel
theorem dX7_years_114 : decode cX7_years 114 = .ok (.iload 4, 2) := by decide +kernel
theorem dX7_years_116 : decode cX7_years 116 = .ok (.bipush 27, 2) := by decide +kernel
theorem dX7_years_118 : decode cX7_years 118 = .ok (.isub, 1) := by decide +kernel
theorem dX7_years_119 : decode cX7_years 119 = .ok (.invokevirtual 193, 3) := by decide +kernel
theorem dX7_years_122 : decode cX7_years 122 = .ok (.pop, 1) := by decide +kernel
theorem dX7_years_123 : decode cX7_years 123 = .ok (.goto 26, 3) := by decide +kernel
theorem dX7_years_126 : decode cX7_years 126 = .ok (.aload_n 0, 1) := by decide +kernel
theorem dX7_years_127 : decode cX7_years 127 = .ok (.iconst 1, 1) := by decide +kernel
theorem dX7_years_128 : decode cX7_years 128 = .ok (.iload 4, 2) := by decide +kernel
theorem dX7_years_130 : decode cX7_years 130 = .ok (.bipush 9, 2) := by decide +kernel
theorem dX7_years_132 : decode cX7_years 132 = .ok (.idiv, 1) := by decide +kernel
theorem dX7_years_133 : decode cX7_years 133 = .ok (.iadd, 1) := by decide +kernel
theorem dX7_years_134 : decode cX7_years 134 = .ok (.iload 4, 2) := by decide +kernel
theorem dX7_years_136 : decode cX7_years 136 = .ok (.bipush 9, 2) := by decide +kernel
theorem dX7_years_138 : decode cX7_years 138 = .ok (.irem, 1) := by decide +kernel
theorem dX7_years_139 : decode cX7_years 139 = .ok (.iconst 3, 1) := by decide +kernel
theorem dX7_years_140 : decode cX7_years 140 = .ok (.idiv, 1) := by decide +kernel
theorem dX7_years_141 : decode cX7_years 141 = .ok (.iload 4, 2) := by decide +kernel
theorem dX7_years_143 : decode cX7_years 143 = .ok (.iconst 3, 1) := by decide +kernel
theorem dX7_years_144 : decode cX7_years 144 = .ok (.irem, 1) := by decide +kernel
theorem dX7_years_145 : decode cX7_years 145 = .ok (.invokevirtual 193, 3) := by decide +kernel
theorem dX7_years_148 : decode cX7_years 148 = .ok (.pop, 1) := by decide +kernel
theorem dX7_years_149 : decode cX7_years 149 = .ok (.iload_n 2, 1) := by decide +kernel
theorem dX7_years_150 : decode cX7_years 150 = .ok (.aload_n 0, 1) := by decide +kernel
theorem dX7_years_151 : decode cX7_years 151 = .ok (.iconst 1, 1) := by decide +kernel
theorem dX7_years_152 : decode cX7_years 152 = .ok (.invokevirtual 237, 3) := by decide +kernel
theorem dX7_years_155 : decode cX7_years 155 = .ok (.iadd, 1) := by decide +kernel
theorem dX7_years_156 : decode cX7_years 156 = .ok (.istore_n 2, 1) := by decide +kernel
theorem dX7_years_157 : decode cX7_years 157 = .ok (.iinc 3 1, 3) := by decide +kernel
theorem dX7_years_160 : decode cX7_years 160 = .ok (.goto (-137), 3) := by decide +kernel
theorem dX7_years_163 : decode cX7_years 163 = .ok (.iload_n 2, 1) := by decide +kernel
theorem dX7_years_164 : decode cX7_years 164 = .ok (.ireturn, 1) := by decide +kernel
theorem dX7_keep_0 : decode cX7_keep 0 = .ok (.iload_n 1, 1) := by decide +kernel
theorem dX7_keep_1 : decode cX7_keep 1 = .ok (.i2l, 1) := by decide +kernel
theorem dX7_keep_2 : decode cX7_keep 2 = .ok (.lconst 0, 1) := by decide +kernel
theorem dX7_keep_3 : decode cX7_keep 3 = .ok (.lconst 1, 1) := by decide +kernel
theorem dX7_keep_4 : decode cX7_keep 4 = .ok (.invokestatic 44, 3) := by decide +kernel
theorem dX7_keep_7 : decode cX7_keep 7 = .ok (.ifCond .ne 5, 3) := by decide +kernel
theorem dX7_keep_10 : decode cX7_keep 10 = .ok (.iconst (-1), 1) := by decide +kernel
theorem dX7_keep_11 : decode cX7_keep 11 = .ok (.ireturn, 1) := by decide +kernel
theorem dX7_keep_12 : decode cX7_keep 12 = .ok (.aload_n 0, 1) := by decide +kernel
theorem dX7_keep_13 : decode cX7_keep 13 = .ok (.getfield 35, 3) := by decide +kernel
theorem dX7_keep_16 : decode cX7_keep 16 = .ok (.iload_n 1, 1) := by decide +kernel
theorem dX7_keep_17 : decode cX7_keep 17 = .ok (.iconst 1, 1) := by decide +kernel
theorem dX7_keep_18 : decode cX7_keep 18 = .ok (.bastore, 1) := by decide +kernel
theorem dX7_keep_19 : decode cX7_keep 19 = .ok (.iconst 0, 1) := by decide +kernel
theorem dX7_keep_20 : decode cX7_keep 20 = .ok (.istore_n 2, 1) := by decide +kernel
theorem dX7_keep_21 : decode cX7_keep 21 = .ok (.iload_n 2, 1) := by decide +kernel
theorem dX7_keep_22 : decode cX7_keep 22 = .ok (.iconst 3, 1) := by decide +kernel
theorem dX7_keep_23 : decode cX7_keep 23 = .ok (.if_icmp .ge 25, 3) := by decide +kernel
theorem dX7_keep_26 : decode cX7_keep 26 = .ok (.aload_n 0, 1) := by decide +kernel
theorem dX7_keep_27 : decode cX7_keep 27 = .ok (.getfield 39, 3) := by decide +kernel
theorem dX7_keep_30 : decode cX7_keep 30 = .ok (.iconst 3, 1) := by decide +kernel
theorem dX7_keep_31 : decode cX7_keep 31 = .ok (.iload_n 1, 1) := by decide +kernel
theorem dX7_keep_32 : decode cX7_keep 32 = .ok (.imul, 1) := by decide +kernel
theorem dX7_keep_33 : decode cX7_keep 33 = .ok (.iload_n 2, 1) := by decide +kernel
theorem dX7_keep_34 : decode cX7_keep 34 = .ok (.iadd, 1) := by decide +kernel
theorem dX7_keep_35 : decode cX7_keep 35 = .ok (.aload_n 0, 1) := by decide +kernel
theorem dX7_keep_36 : decode cX7_keep 36 = .ok (.getfield 13, 3) := by decide +kernel
theorem dX7_keep_39 : decode cX7_keep 39 = .ok (.iload_n 2, 1) := by decide +kernel
theorem dX7_keep_40 : decode cX7_keep 40 = .ok (.laload, 1) := by decide +kernel
theorem dX7_keep_41 : decode cX7_keep 41 = .ok (.lastore, 1) := by decide +kernel
theorem dX7_keep_42 : decode cX7_keep 42 = .ok (.iinc 2 1, 3) := by decide +kernel
theorem dX7_keep_45 : decode cX7_keep 45 = .ok (.goto (-24), 3) := by decide +kernel
theorem dX7_keep_48 : decode cX7_keep 48 = .ok (.aload_n 0, 1) := by decide +kernel
theorem dX7_keep_49 : decode cX7_keep 49 = .ok (.iconst 0, 1) := by decide +kernel
theorem dX7_keep_50 : decode cX7_keep 50 = .ok (.invokevirtual 237, 3) := by decide +kernel
theorem dX7_keep_53 : decode cX7_keep 53 = .ok (.ireturn, 1) := by decide +kernel
theorem dX7_again_0 : decode cX7_again 0 = .ok (.iload_n 1, 1) := by decide +kernel
theorem dX7_again_1 : decode cX7_again 1 = .ok (.i2l, 1) := by decide +kernel
theorem dX7_again_2 : decode cX7_again 2 = .ok (.lconst 0, 1) := by decide +kernel
theorem dX7_again_3 : decode cX7_again 3 = .ok (.lconst 1, 1) := by decide +kernel
theorem dX7_again_4 : decode cX7_again 4 = .ok (.invokestatic 44, 3) := by decide +kernel
theorem dX7_again_7 : decode cX7_again 7 = .ok (.ifCond .ne 5, 3) := by decide +kernel
theorem dX7_again_10 : decode cX7_again 10 = .ok (.iconst (-1), 1) := by decide +kernel
theorem dX7_again_11 : decode cX7_again 11 = .ok (.ireturn, 1) := by decide +kernel
theorem dX7_again_12 : decode cX7_again 12 = .ok (.aload_n 0, 1) := by decide +kernel
theorem dX7_again_13 : decode cX7_again 13 = .ok (.getfield 35, 3) := by decide +kernel
theorem dX7_again_16 : decode cX7_again 16 = .ok (.iload_n 1, 1) := by decide +kernel
theorem dX7_again_17 : decode cX7_again 17 = .ok (.baload, 1) := by decide +kernel
theorem dX7_again_18 : decode cX7_again 18 = .ok (.ifCond .ne 6, 3) := by decide +kernel
theorem dX7_again_21 : decode cX7_again 21 = .ok (.bipush (-3), 2) := by decide +kernel
theorem dX7_again_23 : decode cX7_again 23 = .ok (.ireturn, 1) := by decide +kernel
theorem dX7_again_24 : decode cX7_again 24 = .ok (.iconst 0, 1) := by decide +kernel
theorem dX7_again_25 : decode cX7_again 25 = .ok (.istore_n 2, 1) := by decide +kernel
theorem dX7_again_26 : decode cX7_again 26 = .ok (.iload_n 2, 1) := by decide +kernel
theorem dX7_again_27 : decode cX7_again 27 = .ok (.iconst 3, 1) := by decide +kernel
theorem dX7_again_28 : decode cX7_again 28 = .ok (.if_icmp .ge 25, 3) := by decide +kernel
theorem dX7_again_31 : decode cX7_again 31 = .ok (.aload_n 0, 1) := by decide +kernel
theorem dX7_again_32 : decode cX7_again 32 = .ok (.getfield 13, 3) := by decide +kernel
theorem dX7_again_35 : decode cX7_again 35 = .ok (.iload_n 2, 1) := by decide +kernel
theorem dX7_again_36 : decode cX7_again 36 = .ok (.aload_n 0, 1) := by decide +kernel
theorem dX7_again_37 : decode cX7_again 37 = .ok (.getfield 39, 3) := by decide +kernel
theorem dX7_again_40 : decode cX7_again 40 = .ok (.iconst 3, 1) := by decide +kernel
theorem dX7_again_41 : decode cX7_again 41 = .ok (.iload_n 1, 1) := by decide +kernel
theorem dX7_again_42 : decode cX7_again 42 = .ok (.imul, 1) := by decide +kernel
theorem dX7_again_43 : decode cX7_again 43 = .ok (.iload_n 2, 1) := by decide +kernel
theorem dX7_again_44 : decode cX7_again 44 = .ok (.iadd, 1) := by decide +kernel
theorem dX7_again_45 : decode cX7_again 45 = .ok (.laload, 1) := by decide +kernel
theorem dX7_again_46 : decode cX7_again 46 = .ok (.lastore, 1) := by decide +kernel
theorem dX7_again_47 : decode cX7_again 47 = .ok (.iinc 2 1, 3) := by decide +kernel
theorem dX7_again_50 : decode cX7_again 50 = .ok (.goto (-24), 3) := by decide +kernel
theorem dX7_again_53 : decode cX7_again 53 = .ok (.aload_n 0, 1) := by decide +kernel
theorem dX7_again_54 : decode cX7_again 54 = .ok (.iconst 0, 1) := by decide +kernel
theorem dX7_again_55 : decode cX7_again 55 = .ok (.putfield 103, 3) := by decide +kernel
theorem dX7_again_58 : decode cX7_again 58 = .ok (.aload_n 0, 1) := by decide +kernel
theorem dX7_again_59 : decode cX7_again 59 = .ok (.iconst 0, 1) := by decide +kernel
theorem dX7_again_60 : decode cX7_again 60 = .ok (.invokevirtual 237, 3) := by decide +kernel
theorem dX7_again_63 : decode cX7_again 63 = .ok (.ireturn, 1) := by decide +kernel
theorem dX7_count_0 : decode cX7_count 0 = .ok (.iload_n 1, 1) := by decide +kernel
theorem dX7_count_1 : decode cX7_count 1 = .ok (.tableswitch 91 0 5 #[39, 44, 50, 57, 81, 86], 39) := by decide +kernel
theorem dX7_count_40 : decode cX7_count 40 = .ok (.aload_n 0, 1) := by decide +kernel
theorem dX7_count_41 : decode cX7_count 41 = .ok (.getfield 69, 3) := by decide +kernel
theorem dX7_count_44 : decode cX7_count 44 = .ok (.ireturn, 1) := by decide +kernel
theorem dX7_count_45 : decode cX7_count 45 = .ok (.aload_n 0, 1) := by decide +kernel
theorem dX7_count_46 : decode cX7_count 46 = .ok (.iconst 0, 1) := by decide +kernel
theorem dX7_count_47 : decode cX7_count 47 = .ok (.invokevirtual 237, 3) := by decide +kernel
theorem dX7_count_50 : decode cX7_count 50 = .ok (.ireturn, 1) := by decide +kernel
theorem dX7_count_51 : decode cX7_count 51 = .ok (.aload_n 0, 1) := by decide +kernel
theorem dX7_count_52 : decode cX7_count 52 = .ok (.bipush 7, 2) := by decide +kernel
theorem dX7_count_54 : decode cX7_count 54 = .ok (.invokevirtual 208, 3) := by decide +kernel
theorem dX7_count_57 : decode cX7_count 57 = .ok (.ireturn, 1) := by decide +kernel
theorem dX7_count_58 : decode cX7_count 58 = .ok (.aload_n 0, 1) := by decide +kernel
theorem dX7_count_59 : decode cX7_count 59 = .ok (.getfield 13, 3) := by decide +kernel
theorem dX7_count_62 : decode cX7_count 62 = .ok (.iconst 0, 1) := by decide +kernel
theorem dX7_count_63 : decode cX7_count 63 = .ok (.laload, 1) := by decide +kernel
theorem dX7_count_64 : decode cX7_count 64 = .ok (.aload_n 0, 1) := by decide +kernel
theorem dX7_count_65 : decode cX7_count 65 = .ok (.getfield 13, 3) := by decide +kernel
theorem dX7_count_68 : decode cX7_count 68 = .ok (.iconst 1, 1) := by decide +kernel
theorem dX7_count_69 : decode cX7_count 69 = .ok (.laload, 1) := by decide +kernel
theorem dX7_count_70 : decode cX7_count 70 = .ok (.land, 1) := by decide +kernel
theorem dX7_count_71 : decode cX7_count 71 = .ok (.aload_n 0, 1) := by decide +kernel
theorem dX7_count_72 : decode cX7_count 72 = .ok (.getfield 13, 3) := by decide +kernel
theorem dX7_count_75 : decode cX7_count 75 = .ok (.iconst 2, 1) := by decide +kernel
theorem dX7_count_76 : decode cX7_count 76 = .ok (.laload, 1) := by decide +kernel
theorem dX7_count_77 : decode cX7_count 77 = .ok (.land, 1) := by decide +kernel
theorem dX7_count_78 : decode cX7_count 78 = .ok (.invokestatic 112, 3) := by decide +kernel
theorem dX7_count_81 : decode cX7_count 81 = .ok (.ireturn, 1) := by decide +kernel
theorem dX7_count_82 : decode cX7_count 82 = .ok (.aload_n 0, 1) := by decide +kernel
theorem dX7_count_83 : decode cX7_count 83 = .ok (.getfield 103, 3) := by decide +kernel
theorem dX7_count_86 : decode cX7_count 86 = .ok (.ireturn, 1) := by decide +kernel
theorem dX7_count_87 : decode cX7_count 87 = .ok (.aload_n 0, 1) := by decide +kernel
theorem dX7_count_88 : decode cX7_count 88 = .ok (.getfield 196, 3) := by decide +kernel
theorem dX7_count_91 : decode cX7_count 91 = .ok (.ireturn, 1) := by decide +kernel
theorem dX7_count_92 : decode cX7_count 92 = .ok (.bipush (-2), 2) := by decide +kernel
theorem dX7_count_94 : decode cX7_count 94 = .ok (.ireturn, 1) := by decide +kernel
