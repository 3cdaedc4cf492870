theorem dX0_init_0 : decode cX0_init 0 = .ok (.aload_n 0, 1) := by decide +kernel
theorem dX0_init_1 : decode cX0_init 1 = .ok (.invokespecial 3, 3) := by decide +kernel
theorem dX0_init_4 : decode cX0_init 4 = .ok (.aload_n 0, 1) := by decide +kernel
theorem dX0_init_5 : decode cX0_init 5 = .ok (.bipush 14, 2) := by decide +kernel
theorem dX0_init_7 : decode cX0_init 7 = .ok (.newarray .int, 2) := by decide +kernel
theorem dX0_init_9 : decode cX0_init 9 = .ok (.putfield 9, 3) := by decide +kernel
theorem dX0_init_12 : decode cX0_init 12 = .ok (.aload_n 0, 1) := by decide +kernel
theorem dX0_init_13 : decode cX0_init 13 = .ok (.bipush 14, 2) := by decide +kernel
theorem dX0_init_15 : decode cX0_init 15 = .ok (.newarray .long, 2) := by decide +kernel
theorem dX0_init_17 : decode cX0_init 17 = .ok (.putfield 15, 3) := by decide +kernel
theorem dX0_init_20 : decode cX0_init 20 = .ok (.aload_n 0, 1) := by decide +kernel
theorem dX0_init_21 : decode cX0_init 21 = .ok (.iconst 0, 1) := by decide +kernel
theorem dX0_init_22 : decode cX0_init 22 = .ok (.putfield 19, 3) := by decide +kernel
theorem dX0_init_25 : decode cX0_init 25 = .ok (.return_, 1) := by decide +kernel
theorem dX0_size_0 : decode cX0_size 0 = .ok (.aload_n 0, 1) := by decide +kernel
theorem dX0_size_1 : decode cX0_size 1 = .ok (.getfield 19, 3) := by decide +kernel
theorem dX0_size_4 : decode cX0_size 4 = .ok (.ireturn, 1) := by decide +kernel
theorem dX0_clear_0 : decode cX0_clear 0 = .ok (.aload_n 0, 1) := by decide +kernel
theorem dX0_clear_1 : decode cX0_clear 1 = .ok (.iconst 0, 1) := by decide +kernel
theorem dX0_clear_2 : decode cX0_clear 2 = .ok (.putfield 19, 3) := by decide +kernel
theorem dX0_clear_5 : decode cX0_clear 5 = .ok (.return_, 1) := by decide +kernel
theorem dX0_add_0 : decode cX0_add 0 = .ok (.aload_n 0, 1) := by decide +kernel
theorem dX0_add_1 : decode cX0_add 1 = .ok (.getfield 19, 3) := by decide +kernel
theorem dX0_add_4 : decode cX0_add 4 = .ok (.bipush 14, 2) := by decide +kernel
theorem dX0_add_6 : decode cX0_add 6 = .ok (.if_icmp .lt 7, 3) := by decide +kernel
theorem dX0_add_9 : decode cX0_add 9 = .ok (.aload_n 0, 1) := by decide +kernel
theorem dX0_add_10 : decode cX0_add 10 = .ok (.invokevirtual 23, 3) := by decide +kernel
theorem dX0_add_13 : decode cX0_add 13 = .ok (.aload_n 0, 1) := by decide +kernel
theorem dX0_add_14 : decode cX0_add 14 = .ok (.getfield 19, 3) := by decide +kernel
theorem dX0_add_17 : decode cX0_add 17 = .ok (.ifCond .lt 42, 3) := by decide +kernel
theorem dX0_add_20 : decode cX0_add 20 = .ok (.aload_n 0, 1) := by decide +kernel
theorem dX0_add_21 : decode cX0_add 21 = .ok (.getfield 19, 3) := by decide +kernel
theorem dX0_add_24 : decode cX0_add 24 = .ok (.bipush 14, 2) := by decide +kernel
theorem dX0_add_26 : decode cX0_add 26 = .ok (.if_icmp .ge 33, 3) := by decide +kernel
theorem dX0_add_29 : decode cX0_add 29 = .ok (.aload_n 0, 1) := by decide +kernel
theorem dX0_add_30 : decode cX0_add 30 = .ok (.getfield 9, 3) := by decide +kernel
theorem dX0_add_33 : decode cX0_add 33 = .ok (.aload_n 0, 1) := by decide +kernel
theorem dX0_add_34 : decode cX0_add 34 = .ok (.getfield 19, 3) := by decide +kernel
theorem dX0_add_37 : decode cX0_add 37 = .ok (.iload_n 1, 1) := by decide +kernel
theorem dX0_add_38 : decode cX0_add 38 = .ok (.iastore, 1) := by decide +kernel
theorem dX0_add_39 : decode cX0_add 39 = .ok (.aload_n 0, 1) := by decide +kernel
theorem dX0_add_40 : decode cX0_add 40 = .ok (.getfield 15, 3) := by decide +kernel
theorem dX0_add_43 : decode cX0_add 43 = .ok (.aload_n 0, 1) := by decide +kernel
theorem dX0_add_44 : decode cX0_add 44 = .ok (.getfield 19, 3) := by decide +kernel
theorem dX0_add_47 : decode cX0_add 47 = .ok (.lload_n 2, 1) := by decide +kernel
theorem dX0_add_48 : decode cX0_add 48 = .ok (.lastore, 1) := by decide +kernel
theorem dX0_add_49 : decode cX0_add 49 = .ok (.aload_n 0, 1) := by decide +kernel
theorem dX0_add_50 : decode cX0_add 50 = .ok (.dup, 1) := by decide +kernel
theorem dX0_add_51 : decode cX0_add 51 = .ok (.getfield 19, 3) := by decide +kernel
theorem dX0_add_54 : decode cX0_add 54 = .ok (.iconst 1, 1) := by decide +kernel
theorem dX0_add_55 : decode cX0_add 55 = .ok (.iadd, 1) := by decide +kernel
theorem dX0_add_56 : decode cX0_add 56 = .ok (.putfield 19, 3) := by decide +kernel
theorem dX0_add_59 : decode cX0_add 59 = .ok (.return_, 1) := by decide +kernel
theorem dX0_forgetFirst_0 : decode cX0_forgetFirst 0 = .ok (.iconst 1, 1) := by decide +kernel
theorem dX0_forgetFirst_1 : decode cX0_forgetFirst 1 = .ok (.istore_n 1, 1) := by decide +kernel
theorem dX0_forgetFirst_2 : decode cX0_forgetFirst 2 = .ok (.iload_n 1, 1) := by decide +kernel
theorem dX0_forgetFirst_3 : decode cX0_forgetFirst 3 = .ok (.bipush 14, 2) := by decide +kernel
theorem dX0_forgetFirst_5 : decode cX0_forgetFirst 5 = .ok (.if_icmp .ge 37, 3) := by decide +kernel
theorem dX0_forgetFirst_8 : decode cX0_forgetFirst 8 = .ok (.aload_n 0, 1) := by decide +kernel
theorem dX0_forgetFirst_9 : decode cX0_forgetFirst 9 = .ok (.getfield 9, 3) := by decide +kernel
theorem dX0_forgetFirst_12 : decode cX0_forgetFirst 12 = .ok (.iload_n 1, 1) := by decide +kernel
theorem dX0_forgetFirst_13 : decode cX0_forgetFirst 13 = .ok (.iconst 1, 1) := by decide +kernel
theorem dX0_forgetFirst_14 : decode cX0_forgetFirst 14 = .ok (.isub, 1) := by decide +kernel
theorem dX0_forgetFirst_15 : decode cX0_forgetFirst 15 = .ok (.aload_n 0, 1) := by decide +kernel
theorem dX0_forgetFirst_16 : decode cX0_forgetFirst 16 = .ok (.getfield 9, 3) := by decide +kernel
theorem dX0_forgetFirst_19 : decode cX0_forgetFirst 19 = .ok (.iload_n 1, 1) := by decide +kernel
theorem dX0_forgetFirst_20 : decode cX0_forgetFirst 20 = .ok (.iaload, 1) := by decide +kernel
theorem dX0_forgetFirst_21 : decode cX0_forgetFirst 21 = .ok (.iastore, 1) := by decide +kernel
theorem dX0_forgetFirst_22 : decode cX0_forgetFirst 22 = .ok (.aload_n 0, 1) := by decide +kernel
theorem dX0_forgetFirst_23 : decode cX0_forgetFirst 23 = .ok (.getfield 15, 3) := by decide +kernel
theorem dX0_forgetFirst_26 : decode cX0_forgetFirst 26 = .ok (.iload_n 1, 1) := by decide +kernel
theorem dX0_forgetFirst_27 : decode cX0_forgetFirst 27 = .ok (.iconst 1, 1) := by decide +kernel
theorem dX0_forgetFirst_28 : decode cX0_forgetFirst 28 = .ok (.isub, 1) := by decide +kernel
theorem dX0_forgetFirst_29 : decode cX0_forgetFirst 29 = .ok (.aload_n 0, 1) := by decide +kernel
theorem dX0_forgetFirst_30 : decode cX0_forgetFirst 30 = .ok (.getfield 15, 3) := by decide +kernel
theorem dX0_forgetFirst_33 : decode cX0_forgetFirst 33 = .ok (.iload_n 1, 1) := by decide +kernel
theorem dX0_forgetFirst_34 : decode cX0_forgetFirst 34 = .ok (.laload, 1) := by decide +kernel
theorem dX0_forgetFirst_35 : decode cX0_forgetFirst 35 = .ok (.lastore, 1) := by decide +kernel
theorem dX0_forgetFirst_36 : decode cX0_forgetFirst 36 = .ok (.iinc 1 1, 3) := by decide +kernel
theorem dX0_forgetFirst_39 : decode cX0_forgetFirst 39 = .ok (.goto (-37), 3) := by decide +kernel
theorem dX0_forgetFirst_42 : decode cX0_forgetFirst 42 = .ok (.aload_n 0, 1) := by decide +kernel
theorem dX0_forgetFirst_43 : decode cX0_forgetFirst 43 = .ok (.bipush 13, 2) := by decide +kernel
theorem dX0_forgetFirst_45 : decode cX0_forgetFirst 45 = .ok (.putfield 19, 3) := by decide +kernel
theorem dX0_forgetFirst_48 : decode cX0_forgetFirst 48 = .ok (.return_, 1) := by decide +kernel
theorem dX0_lastPicture_0 : decode cX0_lastPicture 0 = .ok (.aload_n 0, 1) := by decide +kernel
theorem dX0_lastPicture_1 : decode cX0_lastPicture 1 = .ok (.getfield 19, 3) := by decide +kernel
theorem dX0_lastPicture_4 : decode cX0_lastPicture 4 = .ok (.ifCond .le 26, 3) := by decide +kernel
theorem dX0_lastPicture_7 : decode cX0_lastPicture 7 = .ok (.aload_n 0, 1) := by decide +kernel
theorem dX0_lastPicture_8 : decode cX0_lastPicture 8 = .ok (.getfield 19, 3) := by decide +kernel
theorem dX0_lastPicture_11 : decode cX0_lastPicture 11 = .ok (.bipush 14, 2) := by decide +kernel
theorem dX0_lastPicture_13 : decode cX0_lastPicture 13 = .ok (.if_icmp .gt 17, 3) := by decide +kernel
theorem dX0_lastPicture_16 : decode cX0_lastPicture 16 = .ok (.aload_n 0, 1) := by decide +kernel
theorem dX0_lastPicture_17 : decode cX0_lastPicture 17 = .ok (.getfield 9, 3) := by decide +kernel
theorem dX0_lastPicture_20 : decode cX0_lastPicture 20 = .ok (.aload_n 0, 1) := by decide +kernel
theorem dX0_lastPicture_21 : decode cX0_lastPicture 21 = .ok (.getfield 19, 3) := by decide +kernel
theorem dX0_lastPicture_24 : decode cX0_lastPicture 24 = .ok (.iconst 1, 1) := by decide +kernel
theorem dX0_lastPicture_25 : decode cX0_lastPicture 25 = .ok (.isub, 1) := by decide +kernel
theorem dX0_lastPicture_26 : decode cX0_lastPicture 26 = .ok (.iaload, 1) := by decide +kernel
theorem dX0_lastPicture_27 : decode cX0_lastPicture 27 = .ok (.goto 5, 3) := by decide +kernel
theorem dX0_lastPicture_30 : decode cX0_lastPicture 30 = .ok (.bipush (-9), 2) := by decide +kernel
theorem dX0_lastPicture_32 : decode cX0_lastPicture 32 = .ok (.ireturn, 1) := by decide +kernel
theorem dX0_lastBefore_0 : decode cX0_lastBefore 0 = .ok (.aload_n 0, 1) := by decide +kernel
theorem dX0_lastBefore_1 : decode cX0_lastBefore 1 = .ok (.getfield 19, 3) := by decide +kernel
theorem dX0_lastBefore_4 : decode cX0_lastBefore 4 = .ok (.ifCond .le 26, 3) := by decide +kernel
theorem dX0_lastBefore_7 : decode cX0_lastBefore 7 = .ok (.aload_n 0, 1) := by decide +kernel
theorem dX0_lastBefore_8 : decode cX0_lastBefore 8 = .ok (.getfield 19, 3) := by decide +kernel
theorem dX0_lastBefore_11 : decode cX0_lastBefore 11 = .ok (.bipush 14, 2) := by decide +kernel
theorem dX0_lastBefore_13 : decode cX0_lastBefore 13 = .ok (.if_icmp .gt 17, 3) := by decide +kernel
theorem dX0_lastBefore_16 : decode cX0_lastBefore 16 = .ok (.aload_n 0, 1) := by decide +kernel
theorem dX0_lastBefore_17 : decode cX0_lastBefore 17 = .ok (.getfield 15, 3) := by decide +kernel
theorem dX0_lastBefore_20 : decode cX0_lastBefore 20 = .ok (.aload_n 0, 1) := by decide +kernel
theorem dX0_lastBefore_21 : decode cX0_lastBefore 21 = .ok (.getfield 19, 3) := by decide +kernel
theorem dX0_lastBefore_24 : decode cX0_lastBefore 24 = .ok (.iconst 1, 1) := by decide +kernel
theorem dX0_lastBefore_25 : decode cX0_lastBefore 25 = .ok (.isub, 1) := by decide +kernel
theorem dX0_lastBefore_26 : decode cX0_lastBefore 26 = .ok (.laload, 1) := by decide +kernel
theorem dX0_lastBefore_27 : decode cX0_lastBefore 27 = .ok (.goto 4, 3) := by decide +kernel
theorem dX0_lastBefore_30 : decode cX0_lastBefore 30 = .ok (.lconst 0, 1) := by decide +kernel
theorem dX0_lastBefore_31 : decode cX0_lastBefore 31 = .ok (.lreturn, 1) := by decide +kernel
theorem dX0_dropLast_0 : decode cX0_dropLast 0 = .ok (.aload_n 0, 1) := by decide +kernel
theorem dX0_dropLast_1 : decode cX0_dropLast 1 = .ok (.getfield 19, 3) := by decide +kernel
theorem dX0_dropLast_4 : decode cX0_dropLast 4 = .ok (.ifCond .le 13, 3) := by decide +kernel
theorem dX0_dropLast_7 : decode cX0_dropLast 7 = .ok (.aload_n 0, 1) := by decide +kernel
theorem dX0_dropLast_8 : decode cX0_dropLast 8 = .ok (.dup, 1) := by decide +kernel
theorem dX0_dropLast_9 : decode cX0_dropLast 9 = .ok (.getfield 19, 3) := by decide +kernel
theorem dX0_dropLast_12 : decode cX0_dropLast 12 = .ok (.iconst 1, 1) := by decide +kernel
theorem dX0_dropLast_13 : decode cX0_dropLast 13 = .ok (.isub, 1) := by decide +kernel
theorem dX0_dropLast_14 : decode cX0_dropLast 14 = .ok (.putfield 19, 3) := by decide +kernel
theorem dX0_dropLast_17 : decode cX0_dropLast 17 = .ok (.return_, 1) := by decide +kernel
theorem dX1_init_0 : decode cX1_init 0 = .ok (.aload_n 0, 1) := by decide +kernel
theorem dX1_init_1 : decode cX1_init 1 = .ok (.invokespecial 3, 3) := by decide +kernel
theorem dX1_init_4 : decode cX1_init 4 = .ok (.aload_n 0, 1) := by decide +kernel
theorem dX1_init_5 : decode cX1_init 5 = .ok (.iconst 3, 1) := by decide +kernel
theorem dX1_init_6 : decode cX1_init 6 = .ok (.newarray .long, 2) := by decide +kernel
theorem dX1_init_8 : decode cX1_init 8 = .ok (.putfield 9, 3) := by decide +kernel
theorem dX1_init_11 : decode cX1_init 11 = .ok (.return_, 1) := by decide +kernel
theorem dX1_cells_0 : decode cX1_cells 0 = .ok (.iload_n 1, 1) := by decide +kernel
theorem dX1_cells_1 : decode cX1_cells 1 = .ok (.invokestatic 15, 3) := by decide +kernel
theorem dX1_cells_4 : decode cX1_cells 4 = .ok (.ifCond .eq 12, 3) := by decide +kernel
theorem dX1_cells_7 : decode cX1_cells 7 = .ok (.aload_n 0, 1) := by decide +kernel
theorem dX1_cells_8 : decode cX1_cells 8 = .ok (.getfield 9, 3) := by decide +kernel
theorem dX1_cells_11 : decode cX1_cells 11 = .ok (.iload_n 1, 1) := by decide +kernel
theorem dX1_cells_12 : decode cX1_cells 12 = .ok (.laload, 1) := by decide +kernel
theorem dX1_cells_13 : decode cX1_cells 13 = .ok (.goto 4, 3) := by decide +kernel
theorem dX1_cells_16 : decode cX1_cells 16 = .ok (.lconst 0, 1) := by decide +kernel
theorem dX1_cells_17 : decode cX1_cells 17 = .ok (.lreturn, 1) := by decide +kernel
theorem dX1_set_0 : decode cX1_set 0 = .ok (.iload_n 1, 1) := by decide +kernel
theorem dX1_set_1 : decode cX1_set 1 = .ok (.invokestatic 15, 3) := by decide +kernel
theorem dX1_set_4 : decode cX1_set 4 = .ok (.ifCond .eq 10, 3) := by decide +kernel
theorem dX1_set_7 : decode cX1_set 7 = .ok (.aload_n 0, 1) := by decide +kernel
theorem dX1_set_8 : decode cX1_set 8 = .ok (.getfield 9, 3) := by decide +kernel
theorem dX1_set_11 : decode cX1_set 11 = .ok (.iload_n 1, 1) := by decide +kernel
theorem dX1_set_12 : decode cX1_set 12 = .ok (.lload_n 2, 1) := by decide +kernel
theorem dX1_set_13 : decode cX1_set 13 = .ok (.lastore, 1) := by decide +kernel
theorem dX1_set_14 : decode cX1_set 14 = .ok (.return_, 1) := by decide +kernel
theorem dX1_copyFrom_0 : decode cX1_copyFrom 0 = .ok (.iconst 0, 1) := by decide +kernel
theorem dX1_copyFrom_1 : decode cX1_copyFrom 1 = .ok (.istore_n 2, 1) := by decide +kernel
theorem dX1_copyFrom_2 : decode cX1_copyFrom 2 = .ok (.iload_n 2, 1) := by decide +kernel
theorem dX1_copyFrom_3 : decode cX1_copyFrom 3 = .ok (.iconst 3, 1) := by decide +kernel
theorem dX1_copyFrom_4 : decode cX1_copyFrom 4 = .ok (.if_icmp .ge 19, 3) := by decide +kernel
theorem dX1_copyFrom_7 : decode cX1_copyFrom 7 = .ok (.aload_n 0, 1) := by decide +kernel
theorem dX1_copyFrom_8 : decode cX1_copyFrom 8 = .ok (.iload_n 2, 1) := by decide +kernel
theorem dX1_copyFrom_9 : decode cX1_copyFrom 9 = .ok (.aload_n 1, 1) := by decide +kernel
theorem dX1_copyFrom_10 : decode cX1_copyFrom 10 = .ok (.iload_n 2, 1) := by decide +kernel
theorem dX1_copyFrom_11 : decode cX1_copyFrom 11 = .ok (.invokevirtual 19, 3) := by decide +kernel
theorem dX1_copyFrom_14 : decode cX1_copyFrom 14 = .ok (.invokevirtual 23, 3) := by decide +kernel
theorem dX1_copyFrom_17 : decode cX1_copyFrom 17 = .ok (.iinc 2 1, 3) := by decide +kernel
theorem dX1_copyFrom_20 : decode cX1_copyFrom 20 = .ok (.goto (-18), 3) := by decide +kernel
theorem dX1_copyFrom_23 : decode cX1_copyFrom 23 = .ok (.return_, 1) := by decide +kernel
theorem dX1_area_0 : decode cX1_area 0 = .ok (.iconst 0, 1) := by decide +kernel
theorem dX1_area_1 : decode cX1_area 1 = .ok (.istore_n 1, 1) := by decide +kernel
theorem dX1_area_2 : decode cX1_area 2 = .ok (.iconst 0, 1) := by decide +kernel
theorem dX1_area_3 : decode cX1_area 3 = .ok (.istore_n 2, 1) := by decide +kernel
theorem dX1_area_4 : decode cX1_area 4 = .ok (.iload_n 2, 1) := by decide +kernel
theorem dX1_area_5 : decode cX1_area 5 = .ok (.iconst 3, 1) := by decide +kernel
theorem dX1_area_6 : decode cX1_area 6 = .ok (.if_icmp .ge 20, 3) := by decide +kernel
theorem dX1_area_9 : decode cX1_area 9 = .ok (.iload_n 1, 1) := by decide +kernel
theorem dX1_area_10 : decode cX1_area 10 = .ok (.aload_n 0, 1) := by decide +kernel
theorem dX1_area_11 : decode cX1_area 11 = .ok (.iload_n 2, 1) := by decide +kernel
theorem dX1_area_12 : decode cX1_area 12 = .ok (.invokevirtual 19, 3) := by decide +kernel
theorem dX1_area_15 : decode cX1_area 15 = .ok (.invokestatic 27, 3) := by decide +kernel
theorem dX1_area_18 : decode cX1_area 18 = .ok (.iadd, 1) := by decide +kernel
theorem dX1_area_19 : decode cX1_area 19 = .ok (.istore_n 1, 1) := by decide +kernel
theorem dX1_area_20 : decode cX1_area 20 = .ok (.iinc 2 1, 3) := by decide +kernel
theorem dX1_area_23 : decode cX1_area 23 = .ok (.goto (-19), 3) := by decide +kernel
theorem dX1_area_26 : decode cX1_area 26 = .ok (.iload_n 1, 1) := by decide +kernel
theorem dX1_area_27 : decode cX1_area 27 = .ok (.ireturn, 1) := by decide +kernel
theorem dX1_blackIn_0 : decode cX1_blackIn 0 = .ok (.iconst 0, 1) := by decide +kernel
theorem dX1_blackIn_1 : decode cX1_blackIn 1 = .ok (.istore_n 2, 1) := by decide +kernel
theorem dX1_blackIn_2 : decode cX1_blackIn 2 = .ok (.iconst 0, 1) := by decide +kernel
theorem dX1_blackIn_3 : decode cX1_blackIn 3 = .ok (.istore_n 3, 1) := by decide +kernel
theorem dX1_blackIn_4 : decode cX1_blackIn 4 = .ok (.iload_n 3, 1) := by decide +kernel
theorem dX1_blackIn_5 : decode cX1_blackIn 5 = .ok (.iconst 3, 1) := by decide +kernel
theorem dX1_blackIn_6 : decode cX1_blackIn 6 = .ok (.if_icmp .ge 29, 3) := by decide +kernel
theorem dX1_blackIn_9 : decode cX1_blackIn 9 = .ok (.iload_n 2, 1) := by decide +kernel
theorem dX1_blackIn_10 : decode cX1_blackIn 10 = .ok (.aload_n 0, 1) := by decide +kernel
theorem dX1_blackIn_11 : decode cX1_blackIn 11 = .ok (.iload_n 3, 1) := by decide +kernel
theorem dX1_blackIn_12 : decode cX1_blackIn 12 = .ok (.invokevirtual 19, 3) := by decide +kernel
theorem dX1_blackIn_15 : decode cX1_blackIn 15 = .ok (.iload_n 1, 1) := by decide +kernel
theorem dX1_blackIn_16 : decode cX1_blackIn 16 = .ok (.invokestatic 33, 3) := by decide +kernel
theorem dX1_blackIn_19 : decode cX1_blackIn 19 = .ok (.ifCond .eq 7, 3) := by decide +kernel
theorem dX1_blackIn_22 : decode cX1_blackIn 22 = .ok (.iconst 1, 1) := by decide +kernel
theorem dX1_blackIn_23 : decode cX1_blackIn 23 = .ok (.goto 4, 3) := by decide +kernel
theorem dX1_blackIn_26 : decode cX1_blackIn 26 = .ok (.iconst 0, 1) := by decide +kernel
theorem dX1_blackIn_27 : decode cX1_blackIn 27 = .ok (.iadd, 1) := by decide +kernel
theorem dX1_blackIn_28 : decode cX1_blackIn 28 = .ok (.istore_n 2, 1) := by decide +kernel
theorem dX1_blackIn_29 : decode cX1_blackIn 29 = .ok (.iinc 3 1, 3) := by decide +kernel
theorem dX1_blackIn_32 : decode cX1_blackIn 32 = .ok (.goto (-28), 3) := by decide +kernel
theorem dX1_blackIn_35 : decode cX1_blackIn 35 = .ok (.iload_n 2, 1) := by decide +kernel
theorem dX1_blackIn_36 : decode cX1_blackIn 36 = .ok (.ireturn, 1) := by decide +kernel
theorem dX1_does_0 : decode cX1_does 0 = .ok (.iload_n 1, 1) := by decide +kernel
theorem dX1_does_1 : decode cX1_does 1 = .ok (.tableswitch 147 1 9 #[51, 51, 51, 59, 59, 78, 78, 86, 111], 51) := by decide +kernel
theorem dX1_does_52 : decode cX1_does 52 = .ok (.aload_n 0, 1) := by decide +kernel
theorem dX1_does_53 : decode cX1_does 53 = .ok (.iload_n 1, 1) := by decide +kernel
theorem dX1_does_54 : decode cX1_does 54 = .ok (.iload_n 2, 1) := by decide +kernel
theorem dX1_does_55 : decode cX1_does 55 = .ok (.iload_n 3, 1) := by decide +kernel
theorem dX1_does_56 : decode cX1_does 56 = .ok (.invokevirtual 39, 3) := by decide +kernel
theorem dX1_does_59 : decode cX1_does 59 = .ok (.ireturn, 1) := by decide +kernel
theorem dX1_does_60 : decode cX1_does 60 = .ok (.iload_n 2, 1) := by decide +kernel
theorem dX1_does_61 : decode cX1_does 61 = .ok (.ifCond .ne 16, 3) := by decide +kernel
theorem dX1_does_64 : decode cX1_does 64 = .ok (.aload_n 0, 1) := by decide +kernel
theorem dX1_does_65 : decode cX1_does 65 = .ok (.iload_n 1, 1) := by decide +kernel
theorem dX1_does_66 : decode cX1_does 66 = .ok (.iload_n 3, 1) := by decide +kernel
theorem dX1_does_67 : decode cX1_does 67 = .ok (.invokevirtual 43, 3) := by decide +kernel
theorem dX1_does_70 : decode cX1_does 70 = .ok (.ifCond .eq 7, 3) := by decide +kernel
theorem dX1_does_73 : decode cX1_does 73 = .ok (.iconst 1, 1) := by decide +kernel
theorem dX1_does_74 : decode cX1_does 74 = .ok (.goto 4, 3) := by decide +kernel
theorem dX1_does_77 : decode cX1_does 77 = .ok (.iconst 0, 1) := by decide +kernel
theorem dX1_does_78 : decode cX1_does 78 = .ok (.ireturn, 1) := by decide +kernel
theorem dX1_does_79 : decode cX1_does 79 = .ok (.aload_n 0, 1) := by decide +kernel
theorem dX1_does_80 : decode cX1_does 80 = .ok (.iload_n 1, 1) := by decide +kernel
theorem dX1_does_81 : decode cX1_does 81 = .ok (.iload_n 2, 1) := by decide +kernel
theorem dX1_does_82 : decode cX1_does 82 = .ok (.iload_n 3, 1) := by decide +kernel
theorem dX1_does_83 : decode cX1_does 83 = .ok (.invokevirtual 47, 3) := by decide +kernel
theorem dX1_does_86 : decode cX1_does 86 = .ok (.ireturn, 1) := by decide +kernel
theorem dX1_does_87 : decode cX1_does 87 = .ok (.iload_n 2, 1) := by decide +kernel
theorem dX1_does_88 : decode cX1_does 88 = .ok (.invokestatic 15, 3) := by decide +kernel
theorem dX1_does_91 : decode cX1_does 91 = .ok (.ifCond .eq 19, 3) := by decide +kernel
theorem dX1_does_94 : decode cX1_does 94 = .ok (.aload_n 0, 1) := by decide +kernel
theorem dX1_does_95 : decode cX1_does 95 = .ok (.iload_n 2, 1) := by decide +kernel
theorem dX1_does_96 : decode cX1_does 96 = .ok (.invokevirtual 19, 3) := by decide +kernel
theorem dX1_does_99 : decode cX1_does 99 = .ok (.invokestatic 50, 3) := by decide +kernel
theorem dX1_does_102 : decode cX1_does 102 = .ok (.iload_n 3, 1) := by decide +kernel
theorem dX1_does_103 : decode cX1_does 103 = .ok (.if_icmp .lt 7, 3) := by decide +kernel
theorem dX1_does_106 : decode cX1_does 106 = .ok (.iconst 1, 1) := by decide +kernel
theorem dX1_does_107 : decode cX1_does 107 = .ok (.goto 4, 3) := by decide +kernel
theorem dX1_does_110 : decode cX1_does 110 = .ok (.iconst 0, 1) := by decide +kernel
theorem dX1_does_111 : decode cX1_does 111 = .ok (.ireturn, 1) := by decide +kernel
theorem dX1_does_112 : decode cX1_does 112 = .ok (.iload_n 2, 1) := by decide +kernel
theorem dX1_does_113 : decode cX1_does 113 = .ok (.invokestatic 15, 3) := by decide +kernel
theorem dX1_does_116 : decode cX1_does 116 = .ok (.ifCond .eq 30, 3) := by decide +kernel
theorem dX1_does_119 : decode cX1_does 119 = .ok (.iload_n 3, 1) := by decide +kernel
theorem dX1_does_120 : decode cX1_does 120 = .ok (.invokestatic 15, 3) := by decide +kernel
theorem dX1_does_123 : decode cX1_does 123 = .ok (.ifCond .eq 23, 3) := by decide +kernel
theorem dX1_does_126 : decode cX1_does 126 = .ok (.aload_n 0, 1) := by decide +kernel
theorem dX1_does_127 : decode cX1_does 127 = .ok (.iload_n 2, 1) := by decide +kernel
theorem dX1_does_128 : decode cX1_does 128 = .ok (.invokevirtual 19, 3) := by decide +kernel
theorem dX1_does_131 : decode cX1_does 131 = .ok (.aload_n 0, 1) := by decide +kernel
theorem dX1_does_132 : decode cX1_does 132 = .ok (.iload_n 3, 1) := by decide +kernel
theorem dX1_does_133 : decode cX1_does 133 = .ok (.invokevirtual 19, 3) := by decide +kernel
theorem dX1_does_136 : decode cX1_does 136 = .ok (.invokestatic 53, 3) := by decide +kernel
theorem dX1_does_139 : decode cX1_does 139 = .ok (.ifCond .eq 7, 3) := by decide +kernel
theorem dX1_does_142 : decode cX1_does 142 = .ok (.iconst 1, 1) := by decide +kernel
theorem dX1_does_143 : decode cX1_does 143 = .ok (.goto 4, 3) := by decide +kernel
theorem dX1_does_146 : decode cX1_does 146 = .ok (.iconst 0, 1) := by decide +kernel
theorem dX1_does_147 : decode cX1_does 147 = .ok (.ireturn, 1) := by decide +kernel
theorem dX1_does_148 : decode cX1_does 148 = .ok (.iconst 0, 1) := by decide +kernel
theorem dX1_does_149 : decode cX1_does 149 = .ok (.ireturn, 1) := by decide +kernel
theorem dX1_combines_0 : decode cX1_combines 0 = .ok (.iload_n 2, 1) := by decide +kernel
theorem dX1_combines_1 : decode cX1_combines 1 = .ok (.invokestatic 15, 3) := by decide +kernel
theorem dX1_combines_4 : decode cX1_combines 4 = .ok (.ifCond .eq 15, 3) := by decide +kernel
theorem dX1_combines_7 : decode cX1_combines 7 = .ok (.iload_n 3, 1) := by decide +kernel
theorem dX1_combines_8 : decode cX1_combines 8 = .ok (.invokestatic 15, 3) := by decide +kernel
theorem dX1_combines_11 : decode cX1_combines 11 = .ok (.ifCond .eq 8, 3) := by decide +kernel
theorem dX1_combines_14 : decode cX1_combines 14 = .ok (.iload_n 2, 1) := by decide +kernel
theorem dX1_combines_15 : decode cX1_combines 15 = .ok (.iload_n 3, 1) := by decide +kernel
theorem dX1_combines_16 : decode cX1_combines 16 = .ok (.if_icmp .ne 5, 3) := by decide +kernel
theorem dX1_combines_19 : decode cX1_combines 19 = .ok (.iconst 0, 1) := by decide +kernel
theorem dX1_combines_20 : decode cX1_combines 20 = .ok (.ireturn, 1) := by decide +kernel
theorem dX1_combines_21 : decode cX1_combines 21 = .ok (.aload_n 0, 1) := by decide +kernel
theorem dX1_combines_22 : decode cX1_combines 22 = .ok (.iload_n 2, 1) := by decide +kernel
theorem dX1_combines_23 : decode cX1_combines 23 = .ok (.iload_n 1, 1) := by decide +kernel
theorem dX1_combines_24 : decode cX1_combines 24 = .ok (.aload_n 0, 1) := by decide +kernel
theorem dX1_combines_25 : decode cX1_combines 25 = .ok (.iload_n 2, 1) := by decide +kernel
theorem dX1_combines_26 : decode cX1_combines 26 = .ok (.invokevirtual 19, 3) := by decide +kernel
theorem dX1_combines_29 : decode cX1_combines 29 = .ok (.aload_n 0, 1) := by decide +kernel
theorem dX1_combines_30 : decode cX1_combines 30 = .ok (.iload_n 3, 1) := by decide +kernel
theorem dX1_combines_31 : decode cX1_combines 31 = .ok (.invokevirtual 19, 3) := by decide +kernel
theorem dX1_combines_34 : decode cX1_combines 34 = .ok (.invokestatic 57, 3) := by decide +kernel
theorem dX1_combines_37 : decode cX1_combines 37 = .ok (.invokevirtual 23, 3) := by decide +kernel
theorem dX1_combines_40 : decode cX1_combines 40 = .ok (.iconst 1, 1) := by decide +kernel
theorem dX1_combines_41 : decode cX1_combines 41 = .ok (.ireturn, 1) := by decide +kernel
theorem dX1_moves_0 : decode cX1_moves 0 = .ok (.iload_n 2, 1) := by decide +kernel
theorem dX1_moves_1 : decode cX1_moves 1 = .ok (.invokestatic 15, 3) := by decide +kernel
theorem dX1_moves_4 : decode cX1_moves 4 = .ok (.ifCond .ne 5, 3) := by decide +kernel
theorem dX1_moves_7 : decode cX1_moves 7 = .ok (.iconst 0, 1) := by decide +kernel
theorem dX1_moves_8 : decode cX1_moves 8 = .ok (.ireturn, 1) := by decide +kernel
theorem dX1_moves_9 : decode cX1_moves 9 = .ok (.aload_n 0, 1) := by decide +kernel
theorem dX1_moves_10 : decode cX1_moves 10 = .ok (.iload_n 2, 1) := by decide +kernel
theorem dX1_moves_11 : decode cX1_moves 11 = .ok (.invokevirtual 19, 3) := by decide +kernel
theorem dX1_moves_14 : decode cX1_moves 14 = .ok (.lstore_n 3, 1) := by decide +kernel
theorem dX1_moves_15 : decode cX1_moves 15 = .ok (.aload_n 0, 1) := by decide +kernel
theorem dX1_moves_16 : decode cX1_moves 16 = .ok (.iload_n 2, 1) := by decide +kernel
theorem dX1_moves_17 : decode cX1_moves 17 = .ok (.iload_n 1, 1) := by decide +kernel
theorem dX1_moves_18 : decode cX1_moves 18 = .ok (.iconst 4, 1) := by decide +kernel
theorem dX1_moves_19 : decode cX1_moves 19 = .ok (.if_icmp .ne 10, 3) := by decide +kernel
theorem dX1_moves_22 : decode cX1_moves 22 = .ok (.lload_n 3, 1) := by decide +kernel
theorem dX1_moves_23 : decode cX1_moves 23 = .ok (.invokestatic 61, 3) := by decide +kernel
theorem dX1_moves_26 : decode cX1_moves 26 = .ok (.goto 7, 3) := by decide +kernel
theorem dX1_moves_29 : decode cX1_moves 29 = .ok (.lload_n 3, 1) := by decide +kernel
theorem dX1_moves_30 : decode cX1_moves 30 = .ok (.invokestatic 65, 3) := by decide +kernel
theorem dX1_moves_33 : decode cX1_moves 33 = .ok (.invokevirtual 23, 3) := by decide +kernel
theorem dX1_moves_36 : decode cX1_moves 36 = .ok (.iconst 1, 1) := by decide +kernel
theorem dX1_moves_37 : decode cX1_moves 37 = .ok (.ireturn, 1) := by decide +kernel
theorem dX1_scales_0 : decode cX1_scales 0 = .ok (.iload_n 2, 1) := by decide +kernel
theorem dX1_scales_1 : decode cX1_scales 1 = .ok (.invokestatic 15, 3) := by decide +kernel
theorem dX1_scales_4 : decode cX1_scales 4 = .ok (.ifCond .eq 10, 3) := by decide +kernel
theorem dX1_scales_7 : decode cX1_scales 7 = .ok (.iload_n 3, 1) := by decide +kernel
theorem dX1_scales_8 : decode cX1_scales 8 = .ok (.invokestatic 68, 3) := by decide +kernel
theorem dX1_scales_11 : decode cX1_scales 11 = .ok (.ifCond .ne 5, 3) := by decide +kernel
theorem dX1_scales_14 : decode cX1_scales 14 = .ok (.iconst 0, 1) := by decide +kernel
theorem dX1_scales_15 : decode cX1_scales 15 = .ok (.ireturn, 1) := by decide +kernel
theorem dX1_scales_16 : decode cX1_scales 16 = .ok (.aload_n 0, 1) := by decide +kernel
theorem dX1_scales_17 : decode cX1_scales 17 = .ok (.iload_n 2, 1) := by decide +kernel
theorem dX1_scales_18 : decode cX1_scales 18 = .ok (.invokevirtual 19, 3) := by decide +kernel
theorem dX1_scales_21 : decode cX1_scales 21 = .ok (.lstore 4, 2) := by decide +kernel
theorem dX1_scales_23 : decode cX1_scales 23 = .ok (.aload_n 0, 1) := by decide +kernel
theorem dX1_scales_24 : decode cX1_scales 24 = .ok (.iload_n 2, 1) := by decide +kernel
theorem dX1_scales_25 : decode cX1_scales 25 = .ok (.iload_n 1, 1) := by decide +kernel
theorem dX1_scales_26 : decode cX1_scales 26 = .ok (.bipush 6, 2) := by decide +kernel
theorem dX1_scales_28 : decode cX1_scales 28 = .ok (.if_icmp .ne 12, 3) := by decide +kernel
theorem dX1_scales_31 : decode cX1_scales 31 = .ok (.lload 4, 2) := by decide +kernel
theorem dX1_scales_33 : decode cX1_scales 33 = .ok (.iload_n 3, 1) := by decide +kernel
theorem dX1_scales_34 : decode cX1_scales 34 = .ok (.invokestatic 71, 3) := by decide +kernel
theorem dX1_scales_37 : decode cX1_scales 37 = .ok (.goto 9, 3) := by decide +kernel
theorem dX1_scales_40 : decode cX1_scales 40 = .ok (.lload 4, 2) := by decide +kernel
theorem dX1_scales_42 : decode cX1_scales 42 = .ok (.iload_n 3, 1) := by decide +kernel
theorem dX1_scales_43 : decode cX1_scales 43 = .ok (.invokestatic 75, 3) := by decide +kernel
theorem dX1_scales_46 : decode cX1_scales 46 = .ok (.invokevirtual 23, 3) := by decide +kernel
theorem dX1_scales_49 : decode cX1_scales 49 = .ok (.iconst 1, 1) := by decide +kernel
theorem dX1_scales_50 : decode cX1_scales 50 = .ok (.ireturn, 1) := by decide +kernel
theorem dX2_isBlack_0 : decode cX2_isBlack 0 = .ok (.lload_n 0, 1) := by decide +kernel
theorem dX2_isBlack_1 : decode cX2_isBlack 1 = .ok (.iload_n 2, 1) := by decide +kernel
theorem dX2_isBlack_2 : decode cX2_isBlack 2 = .ok (.lushr, 1) := by decide +kernel
theorem dX2_isBlack_3 : decode cX2_isBlack 3 = .ok (.lconst 1, 1) := by decide +kernel
theorem dX2_isBlack_4 : decode cX2_isBlack 4 = .ok (.land, 1) := by decide +kernel
theorem dX2_isBlack_5 : decode cX2_isBlack 5 = .ok (.lconst 1, 1) := by decide +kernel
theorem dX2_isBlack_6 : decode cX2_isBlack 6 = .ok (.lcmp, 1) := by decide +kernel
theorem dX2_isBlack_7 : decode cX2_isBlack 7 = .ok (.ifCond .ne 7, 3) := by decide +kernel
theorem dX2_isBlack_10 : decode cX2_isBlack 10 = .ok (.iconst 1, 1) := by decide +kernel
theorem dX2_isBlack_11 : decode cX2_isBlack 11 = .ok (.goto 4, 3) := by decide +kernel
theorem dX2_isBlack_14 : decode cX2_isBlack 14 = .ok (.iconst 0, 1) := by decide +kernel
theorem dX2_isBlack_15 : decode cX2_isBlack 15 = .ok (.ireturn, 1) := by decide +kernel
theorem dX2_bit_0 : decode cX2_bit 0 = .ok (.lconst 1, 1) := by decide +kernel
theorem dX2_bit_1 : decode cX2_bit 1 = .ok (.bipush 8, 2) := by decide +kernel
theorem dX2_bit_3 : decode cX2_bit 3 = .ok (.iload_n 1, 1) := by decide +kernel
theorem dX2_bit_4 : decode cX2_bit 4 = .ok (.imul, 1) := by decide +kernel
theorem dX2_bit_5 : decode cX2_bit 5 = .ok (.iload_n 0, 1) := by decide +kernel
theorem dX2_bit_6 : decode cX2_bit 6 = .ok (.iadd, 1) := by decide +kernel
theorem dX2_bit_7 : decode cX2_bit 7 = .ok (.lshl, 1) := by decide +kernel
theorem dX2_bit_8 : decode cX2_bit 8 = .ok (.lreturn, 1) := by decide +kernel
theorem dX2_lowestRow_0 : decode cX2_lowestRow 0 = .ok (.lload_n 0, 1) := by decide +kernel
theorem dX2_lowestRow_1 : decode cX2_lowestRow 1 = .ok (.ldc2_w 11, 3) := by decide +kernel
theorem dX2_lowestRow_4 : decode cX2_lowestRow 4 = .ok (.land, 1) := by decide +kernel
theorem dX2_lowestRow_5 : decode cX2_lowestRow 5 = .ok (.l2i, 1) := by decide +kernel
theorem dX2_lowestRow_6 : decode cX2_lowestRow 6 = .ok (.ireturn, 1) := by decide +kernel
theorem dX2_isLeaf_0 : decode cX2_isLeaf 0 = .ok (.iload_n 0, 1) := by decide +kernel
theorem dX2_isLeaf_1 : decode cX2_isLeaf 1 = .ok (.bipush 98, 2) := by decide +kernel
theorem dX2_isLeaf_3 : decode cX2_isLeaf 3 = .ok (.if_icmp .eq 21, 3) := by decide +kernel
theorem dX2_isLeaf_6 : decode cX2_isLeaf 6 = .ok (.iload_n 0, 1) := by decide +kernel
theorem dX2_isLeaf_7 : decode cX2_isLeaf 7 = .ok (.bipush 119, 2) := by decide +kernel
theorem dX2_isLeaf_9 : decode cX2_isLeaf 9 = .ok (.if_icmp .eq 15, 3) := by decide +kernel
theorem dX2_isLeaf_12 : decode cX2_isLeaf 12 = .ok (.iload_n 0, 1) := by decide +kernel
theorem dX2_isLeaf_13 : decode cX2_isLeaf 13 = .ok (.bipush 103, 2) := by decide +kernel
theorem dX2_isLeaf_15 : decode cX2_isLeaf 15 = .ok (.if_icmp .eq 9, 3) := by decide +kernel
theorem dX2_isLeaf_18 : decode cX2_isLeaf 18 = .ok (.iload_n 0, 1) := by decide +kernel
theorem dX2_isLeaf_19 : decode cX2_isLeaf 19 = .ok (.bipush 115, 2) := by decide +kernel
theorem dX2_isLeaf_21 : decode cX2_isLeaf 21 = .ok (.if_icmp .ne 7, 3) := by decide +kernel
theorem dX2_isLeaf_24 : decode cX2_isLeaf 24 = .ok (.iconst 1, 1) := by decide +kernel
theorem dX2_isLeaf_25 : decode cX2_isLeaf 25 = .ok (.goto 4, 3) := by decide +kernel
theorem dX2_isLeaf_28 : decode cX2_isLeaf 28 = .ok (.iconst 0, 1) := by decide +kernel
theorem dX2_isLeaf_29 : decode cX2_isLeaf 29 = .ok (.ireturn, 1) := by decide +kernel
theorem dX2_pattern_0 : decode cX2_pattern 0 = .ok (.iload_n 0, 1) := by decide +kernel
theorem dX2_pattern_1 : decode cX2_pattern 1 = .ok (.lookupswitch 47 #[(98, 35), (103, 39), (115, 43)], 35) := by decide +kernel
theorem dX2_pattern_36 : decode cX2_pattern 36 = .ok (.ldc2_w 13, 3) := by decide +kernel
theorem dX2_pattern_39 : decode cX2_pattern 39 = .ok (.lreturn, 1) := by decide +kernel
theorem dX2_pattern_40 : decode cX2_pattern 40 = .ok (.ldc2_w 15, 3) := by decide +kernel
theorem dX2_pattern_43 : decode cX2_pattern 43 = .ok (.lreturn, 1) := by decide +kernel
theorem dX2_pattern_44 : decode cX2_pattern 44 = .ok (.ldc2_w 17, 3) := by decide +kernel
theorem dX2_pattern_47 : decode cX2_pattern 47 = .ok (.lreturn, 1) := by decide +kernel
theorem dX2_pattern_48 : decode cX2_pattern 48 = .ok (.lconst 0, 1) := by decide +kernel
theorem dX2_pattern_49 : decode cX2_pattern 49 = .ok (.lreturn, 1) := by decide +kernel
theorem dX2_squareOf_0 : decode cX2_squareOf 0 = .ok (.iload_n 1, 1) := by decide +kernel
theorem dX2_squareOf_1 : decode cX2_squareOf 1 = .ok (.ifCond .lt 8, 3) := by decide +kernel
theorem dX2_squareOf_4 : decode cX2_squareOf 4 = .ok (.iload_n 1, 1) := by decide +kernel
theorem dX2_squareOf_5 : decode cX2_squareOf 5 = .ok (.iconst 3, 1) := by decide +kernel
theorem dX2_squareOf_6 : decode cX2_squareOf 6 = .ok (.if_icmp .le 5, 3) := by decide +kernel
theorem dX2_squareOf_9 : decode cX2_squareOf 9 = .ok (.lconst 0, 1) := by decide +kernel
theorem dX2_squareOf_10 : decode cX2_squareOf 10 = .ok (.lreturn, 1) := by decide +kernel
theorem dX2_squareOf_11 : decode cX2_squareOf 11 = .ok (.bipush 8, 2) := by decide +kernel
theorem dX2_squareOf_13 : decode cX2_squareOf 13 = .ok (.iload_n 1, 1) := by decide +kernel
theorem dX2_squareOf_14 : decode cX2_squareOf 14 = .ok (.ishr, 1) := by decide +kernel
theorem dX2_squareOf_15 : decode cX2_squareOf 15 = .ok (.iconst 1, 1) := by decide +kernel
theorem dX2_squareOf_16 : decode cX2_squareOf 16 = .ok (.isub, 1) := by decide +kernel
theorem dX2_squareOf_17 : decode cX2_squareOf 17 = .ok (.istore_n 2, 1) := by decide +kernel
theorem dX2_squareOf_18 : decode cX2_squareOf 18 = .ok (.iload_n 0, 1) := by decide +kernel
theorem dX2_squareOf_19 : decode cX2_squareOf 19 = .ok (.bipush 8, 2) := by decide +kernel
theorem dX2_squareOf_21 : decode cX2_squareOf 21 = .ok (.iload_n 2, 1) := by decide +kernel
theorem dX2_squareOf_22 : decode cX2_squareOf 22 = .ok (.imul, 1) := by decide +kernel
theorem dX2_squareOf_23 : decode cX2_squareOf 23 = .ok (.iload_n 2, 1) := by decide +kernel
theorem dX2_squareOf_24 : decode cX2_squareOf 24 = .ok (.iadd, 1) := by decide +kernel
theorem dX2_squareOf_25 : decode cX2_squareOf 25 = .ok (.iconst (-1), 1) := by decide +kernel
theorem dX2_squareOf_26 : decode cX2_squareOf 26 = .ok (.ixor, 1) := by decide +kernel
theorem dX2_squareOf_27 : decode cX2_squareOf 27 = .ok (.iand, 1) := by decide +kernel
theorem dX2_squareOf_28 : decode cX2_squareOf 28 = .ok (.istore_n 3, 1) := by decide +kernel
theorem dX2_squareOf_29 : decode cX2_squareOf 29 = .ok (.getstatic 19, 3) := by decide +kernel
theorem dX2_squareOf_32 : decode cX2_squareOf 32 = .ok (.iload_n 1, 1) := by decide +kernel
theorem dX2_squareOf_33 : decode cX2_squareOf 33 = .ok (.laload, 1) := by decide +kernel
theorem dX2_squareOf_34 : decode cX2_squareOf 34 = .ok (.iload_n 3, 1) := by decide +kernel
theorem dX2_squareOf_35 : decode cX2_squareOf 35 = .ok (.lshl, 1) := by decide +kernel
theorem dX2_squareOf_36 : decode cX2_squareOf 36 = .ok (.lreturn, 1) := by decide +kernel
theorem dX2_quarterCells_0 : decode cX2_quarterCells 0 = .ok (.getstatic 19, 3) := by decide +kernel
theorem dX2_quarterCells_3 : decode cX2_quarterCells 3 = .ok (.iconst 1, 1) := by decide +kernel
theorem dX2_quarterCells_4 : decode cX2_quarterCells 4 = .ok (.laload, 1) := by decide +kernel
theorem dX2_quarterCells_5 : decode cX2_quarterCells 5 = .ok (.iload_n 0, 1) := by decide +kernel
theorem dX2_quarterCells_6 : decode cX2_quarterCells 6 = .ok (.invokestatic 23, 3) := by decide +kernel
theorem dX2_quarterCells_9 : decode cX2_quarterCells 9 = .ok (.lshl, 1) := by decide +kernel
theorem dX2_quarterCells_10 : decode cX2_quarterCells 10 = .ok (.lreturn, 1) := by decide +kernel
theorem dX2_quarterCorner_0 : decode cX2_quarterCorner 0 = .ok (.iconst 4, 1) := by decide +kernel
theorem dX2_quarterCorner_1 : decode cX2_quarterCorner 1 = .ok (.iload_n 0, 1) := by decide +kernel
theorem dX2_quarterCorner_2 : decode cX2_quarterCorner 2 = .ok (.iconst 2, 1) := by decide +kernel
theorem dX2_quarterCorner_3 : decode cX2_quarterCorner 3 = .ok (.irem, 1) := by decide +kernel
theorem dX2_quarterCorner_4 : decode cX2_quarterCorner 4 = .ok (.imul, 1) := by decide +kernel
theorem dX2_quarterCorner_5 : decode cX2_quarterCorner 5 = .ok (.bipush 32, 2) := by decide +kernel
theorem dX2_quarterCorner_7 : decode cX2_quarterCorner 7 = .ok (.iload_n 0, 1) := by decide +kernel
theorem dX2_quarterCorner_8 : decode cX2_quarterCorner 8 = .ok (.iconst 2, 1) := by decide +kernel
theorem dX2_quarterCorner_9 : decode cX2_quarterCorner 9 = .ok (.idiv, 1) := by decide +kernel
theorem dX2_quarterCorner_10 : decode cX2_quarterCorner 10 = .ok (.imul, 1) := by decide +kernel
theorem dX2_quarterCorner_11 : decode cX2_quarterCorner 11 = .ok (.iadd, 1) := by decide +kernel
theorem dX2_quarterCorner_12 : decode cX2_quarterCorner 12 = .ok (.ireturn, 1) := by decide +kernel
theorem dX2_sign_0 : decode cX2_sign 0 = .ok (.lload_n 0, 1) := by decide +kernel
theorem dX2_sign_1 : decode cX2_sign 1 = .ok (.lload_n 2, 1) := by decide +kernel
theorem dX2_sign_2 : decode cX2_sign 2 = .ok (.land, 1) := by decide +kernel
theorem dX2_sign_3 : decode cX2_sign 3 = .ok (.lstore 4, 2) := by decide +kernel
theorem dX2_sign_5 : decode cX2_sign 5 = .ok (.lload 4, 2) := by decide +kernel
theorem dX2_sign_7 : decode cX2_sign 7 = .ok (.lload_n 2, 1) := by decide +kernel
theorem dX2_sign_8 : decode cX2_sign 8 = .ok (.lcmp, 1) := by decide +kernel
theorem dX2_sign_9 : decode cX2_sign 9 = .ok (.ifCond .ne 6, 3) := by decide +kernel
theorem dX2_sign_12 : decode cX2_sign 12 = .ok (.bipush 98, 2) := by decide +kernel
theorem dX2_sign_14 : decode cX2_sign 14 = .ok (.ireturn, 1) := by decide +kernel
theorem dX2_sign_15 : decode cX2_sign 15 = .ok (.lload 4, 2) := by decide +kernel
theorem dX2_sign_17 : decode cX2_sign 17 = .ok (.lconst 0, 1) := by decide +kernel
theorem dX2_sign_18 : decode cX2_sign 18 = .ok (.lcmp, 1) := by decide +kernel
theorem dX2_sign_19 : decode cX2_sign 19 = .ok (.ifCond .ne 6, 3) := by decide +kernel
theorem dX2_sign_22 : decode cX2_sign 22 = .ok (.bipush 119, 2) := by decide +kernel
theorem dX2_sign_24 : decode cX2_sign 24 = .ok (.ireturn, 1) := by decide +kernel
theorem dX2_sign_25 : decode cX2_sign 25 = .ok (.lload 4, 2) := by decide +kernel
theorem dX2_sign_27 : decode cX2_sign 27 = .ok (.ldc2_w 15, 3) := by decide +kernel
theorem dX2_sign_30 : decode cX2_sign 30 = .ok (.lload_n 2, 1) := by decide +kernel
theorem dX2_sign_31 : decode cX2_sign 31 = .ok (.land, 1) := by decide +kernel
theorem dX2_sign_32 : decode cX2_sign 32 = .ok (.lcmp, 1) := by decide +kernel
theorem dX2_sign_33 : decode cX2_sign 33 = .ok (.ifCond .ne 6, 3) := by decide +kernel
theorem dX2_sign_36 : decode cX2_sign 36 = .ok (.bipush 103, 2) := by decide +kernel
theorem dX2_sign_38 : decode cX2_sign 38 = .ok (.ireturn, 1) := by decide +kernel
theorem dX2_sign_39 : decode cX2_sign 39 = .ok (.lload 4, 2) := by decide +kernel
theorem dX2_sign_41 : decode cX2_sign 41 = .ok (.ldc2_w 17, 3) := by decide +kernel
theorem dX2_sign_44 : decode cX2_sign 44 = .ok (.lload_n 2, 1) := by decide +kernel
theorem dX2_sign_45 : decode cX2_sign 45 = .ok (.land, 1) := by decide +kernel
theorem dX2_sign_46 : decode cX2_sign 46 = .ok (.lcmp, 1) := by decide +kernel
theorem dX2_sign_47 : decode cX2_sign 47 = .ok (.ifCond .ne 8, 3) := by decide +kernel
theorem dX2_sign_50 : decode cX2_sign 50 = .ok (.bipush 115, 2) := by decide +kernel
theorem dX2_sign_52 : decode cX2_sign 52 = .ok (.goto 5, 3) := by decide +kernel
theorem dX2_sign_55 : decode cX2_sign 55 = .ok (.bipush 113, 2) := by decide +kernel
theorem dX2_sign_57 : decode cX2_sign 57 = .ok (.ireturn, 1) := by decide +kernel
theorem dX2_depthAt_0 : decode cX2_depthAt 0 = .ok (.iconst 0, 1) := by decide +kernel
theorem dX2_depthAt_1 : decode cX2_depthAt 1 = .ok (.istore_n 3, 1) := by decide +kernel
theorem dX2_depthAt_2 : decode cX2_depthAt 2 = .ok (.iload_n 3, 1) := by decide +kernel
theorem dX2_depthAt_3 : decode cX2_depthAt 3 = .ok (.iconst 3, 1) := by decide +kernel
theorem dX2_depthAt_4 : decode cX2_depthAt 4 = .ok (.if_icmp .ge 23, 3) := by decide +kernel
theorem dX2_depthAt_7 : decode cX2_depthAt 7 = .ok (.lload_n 0, 1) := by decide +kernel
theorem dX2_depthAt_8 : decode cX2_depthAt 8 = .ok (.iload_n 2, 1) := by decide +kernel
theorem dX2_depthAt_9 : decode cX2_depthAt 9 = .ok (.iload_n 3, 1) := by decide +kernel
theorem dX2_depthAt_10 : decode cX2_depthAt 10 = .ok (.invokestatic 27, 3) := by decide +kernel
theorem dX2_depthAt_13 : decode cX2_depthAt 13 = .ok (.invokestatic 31, 3) := by decide +kernel
theorem dX2_depthAt_16 : decode cX2_depthAt 16 = .ok (.bipush 113, 2) := by decide +kernel
theorem dX2_depthAt_18 : decode cX2_depthAt 18 = .ok (.if_icmp .ne 9, 3) := by decide +kernel
theorem dX2_depthAt_21 : decode cX2_depthAt 21 = .ok (.iinc 3 1, 3) := by decide +kernel
theorem dX2_depthAt_24 : decode cX2_depthAt 24 = .ok (.goto (-22), 3) := by decide +kernel
theorem dX2_depthAt_27 : decode cX2_depthAt 27 = .ok (.iload_n 3, 1) := by decide +kernel
theorem dX2_depthAt_28 : decode cX2_depthAt 28 = .ok (.ireturn, 1) := by decide +kernel
theorem dX2_combined_0 : decode cX2_combined 0 = .ok (.iload_n 0, 1) := by decide +kernel
theorem dX2_combined_1 : decode cX2_combined 1 = .ok (.tableswitch 43 1 3 #[27, 31, 35], 27) := by decide +kernel
theorem dX2_combined_28 : decode cX2_combined 28 = .ok (.lload_n 1, 1) := by decide +kernel
theorem dX2_combined_29 : decode cX2_combined 29 = .ok (.lload_n 3, 1) := by decide +kernel
theorem dX2_combined_30 : decode cX2_combined 30 = .ok (.lor, 1) := by decide +kernel
theorem dX2_combined_31 : decode cX2_combined 31 = .ok (.lreturn, 1) := by decide +kernel
theorem dX2_combined_32 : decode cX2_combined 32 = .ok (.lload_n 1, 1) := by decide +kernel
theorem dX2_combined_33 : decode cX2_combined 33 = .ok (.lload_n 3, 1) := by decide +kernel
theorem dX2_combined_34 : decode cX2_combined 34 = .ok (.land, 1) := by decide +kernel
theorem dX2_combined_35 : decode cX2_combined 35 = .ok (.lreturn, 1) := by decide +kernel
theorem dX2_combined_36 : decode cX2_combined 36 = .ok (.lload_n 1, 1) := by decide +kernel
theorem dX2_combined_37 : decode cX2_combined 37 = .ok (.lload_n 3, 1) := by decide +kernel
theorem dX2_combined_38 : decode cX2_combined 38 = .ok (.ldc2_w 13, 3) := by decide +kernel
theorem dX2_combined_41 : decode cX2_combined 41 = .ok (.lxor, 1) := by decide +kernel
theorem dX2_combined_42 : decode cX2_combined 42 = .ok (.land, 1) := by decide +kernel
theorem dX2_combined_43 : decode cX2_combined 43 = .ok (.lreturn, 1) := by decide +kernel
theorem dX2_combined_44 : decode cX2_combined 44 = .ok (.lload_n 1, 1) := by decide +kernel
theorem dX2_combined_45 : decode cX2_combined 45 = .ok (.lreturn, 1) := by decide +kernel
theorem dX2_turned_0 : decode cX2_turned 0 = .ok (.lconst 0, 1) := by decide +kernel
theorem dX2_turned_1 : decode cX2_turned 1 = .ok (.lstore_n 2, 1) := by decide +kernel
theorem dX2_turned_2 : decode cX2_turned 2 = .ok (.iconst 0, 1) := by decide +kernel
theorem dX2_turned_3 : decode cX2_turned 3 = .ok (.istore 4, 2) := by decide +kernel
theorem dX2_turned_5 : decode cX2_turned 5 = .ok (.iload 4, 2) := by decide +kernel
theorem dX2_turned_7 : decode cX2_turned 7 = .ok (.bipush 64, 2) := by decide +kernel
theorem dX2_turned_9 : decode cX2_turned 9 = .ok (.if_icmp .ge 37, 3) := by decide +kernel
theorem dX2_turned_12 : decode cX2_turned 12 = .ok (.lload_n 0, 1) := by decide +kernel
theorem dX2_turned_13 : decode cX2_turned 13 = .ok (.iload 4, 2) := by decide +kernel
theorem dX2_turned_15 : decode cX2_turned 15 = .ok (.invokestatic 35, 3) := by decide +kernel
theorem dX2_turned_18 : decode cX2_turned 18 = .ok (.ifCond .eq 22, 3) := by decide +kernel
theorem dX2_turned_21 : decode cX2_turned 21 = .ok (.lload_n 2, 1) := by decide +kernel
theorem dX2_turned_22 : decode cX2_turned 22 = .ok (.bipush 7, 2) := by decide +kernel
theorem dX2_turned_24 : decode cX2_turned 24 = .ok (.iload 4, 2) := by decide +kernel
theorem dX2_turned_26 : decode cX2_turned 26 = .ok (.bipush 8, 2) := by decide +kernel
theorem dX2_turned_28 : decode cX2_turned 28 = .ok (.idiv, 1) := by decide +kernel
theorem dX2_turned_29 : decode cX2_turned 29 = .ok (.isub, 1) := by decide +kernel
theorem dX2_turned_30 : decode cX2_turned 30 = .ok (.iload 4, 2) := by decide +kernel
theorem dX2_turned_32 : decode cX2_turned 32 = .ok (.bipush 8, 2) := by decide +kernel
theorem dX2_turned_34 : decode cX2_turned 34 = .ok (.irem, 1) := by decide +kernel
theorem dX2_turned_35 : decode cX2_turned 35 = .ok (.invokestatic 39, 3) := by decide +kernel
theorem dX2_turned_38 : decode cX2_turned 38 = .ok (.lor, 1) := by decide +kernel
theorem dX2_turned_39 : decode cX2_turned 39 = .ok (.lstore_n 2, 1) := by decide +kernel
theorem dX2_turned_40 : decode cX2_turned 40 = .ok (.iinc 4 1, 3) := by decide +kernel
theorem dX2_turned_43 : decode cX2_turned 43 = .ok (.goto (-38), 3) := by decide +kernel
theorem dX2_turned_46 : decode cX2_turned 46 = .ok (.lload_n 2, 1) := by decide +kernel
theorem dX2_turned_47 : decode cX2_turned 47 = .ok (.lreturn, 1) := by decide +kernel
theorem dX2_flipped_0 : decode cX2_flipped 0 = .ok (.lconst 0, 1) := by decide +kernel
theorem dX2_flipped_1 : decode cX2_flipped 1 = .ok (.lstore_n 2, 1) := by decide +kernel
theorem dX2_flipped_2 : decode cX2_flipped 2 = .ok (.iconst 0, 1) := by decide +kernel
theorem dX2_flipped_3 : decode cX2_flipped 3 = .ok (.istore 4, 2) := by decide +kernel
theorem dX2_flipped_5 : decode cX2_flipped 5 = .ok (.iload 4, 2) := by decide +kernel
theorem dX2_flipped_7 : decode cX2_flipped 7 = .ok (.bipush 64, 2) := by decide +kernel
theorem dX2_flipped_9 : decode cX2_flipped 9 = .ok (.if_icmp .ge 37, 3) := by decide +kernel
theorem dX2_flipped_12 : decode cX2_flipped 12 = .ok (.lload_n 0, 1) := by decide +kernel
theorem dX2_flipped_13 : decode cX2_flipped 13 = .ok (.iload 4, 2) := by decide +kernel
theorem dX2_flipped_15 : decode cX2_flipped 15 = .ok (.invokestatic 35, 3) := by decide +kernel
theorem dX2_flipped_18 : decode cX2_flipped 18 = .ok (.ifCond .eq 22, 3) := by decide +kernel
theorem dX2_flipped_21 : decode cX2_flipped 21 = .ok (.lload_n 2, 1) := by decide +kernel
theorem dX2_flipped_22 : decode cX2_flipped 22 = .ok (.bipush 7, 2) := by decide +kernel
theorem dX2_flipped_24 : decode cX2_flipped 24 = .ok (.iload 4, 2) := by decide +kernel
theorem dX2_flipped_26 : decode cX2_flipped 26 = .ok (.bipush 8, 2) := by decide +kernel
theorem dX2_flipped_28 : decode cX2_flipped 28 = .ok (.irem, 1) := by decide +kernel
theorem dX2_flipped_29 : decode cX2_flipped 29 = .ok (.isub, 1) := by decide +kernel
theorem dX2_flipped_30 : decode cX2_flipped 30 = .ok (.iload 4, 2) := by decide +kernel
theorem dX2_flipped_32 : decode cX2_flipped 32 = .ok (.bipush 8, 2) := by decide +kernel
theorem dX2_flipped_34 : decode cX2_flipped 34 = .ok (.idiv, 1) := by decide +kernel
theorem dX2_flipped_35 : decode cX2_flipped 35 = .ok (.invokestatic 39, 3) := by decide +kernel
theorem dX2_flipped_38 : decode cX2_flipped 38 = .ok (.lor, 1) := by decide +kernel
theorem dX2_flipped_39 : decode cX2_flipped 39 = .ok (.lstore_n 2, 1) := by decide +kernel
theorem dX2_flipped_40 : decode cX2_flipped 40 = .ok (.iinc 4 1, 3) := by decide +kernel
theorem dX2_flipped_43 : decode cX2_flipped 43 = .ok (.goto (-38), 3) := by decide +kernel
theorem dX2_flipped_46 : decode cX2_flipped 46 = .ok (.lload_n 2, 1) := by decide +kernel
theorem dX2_flipped_47 : decode cX2_flipped 47 = .ok (.lreturn, 1) := by decide +kernel
theorem dX2_halved_0 : decode cX2_halved 0 = .ok (.lconst 0, 1) := by decide +kernel
theorem dX2_halved_1 : decode cX2_halved 1 = .ok (.lstore_n 3, 1) := by decide +kernel
theorem dX2_halved_2 : decode cX2_halved 2 = .ok (.iconst 0, 1) := by decide +kernel
theorem dX2_halved_3 : decode cX2_halved 3 = .ok (.istore 5, 2) := by decide +kernel
theorem dX2_halved_5 : decode cX2_halved 5 = .ok (.iload 5, 2) := by decide +kernel
theorem dX2_halved_7 : decode cX2_halved 7 = .ok (.iconst 4, 1) := by decide +kernel
theorem dX2_halved_8 : decode cX2_halved 8 = .ok (.if_icmp .ge 55, 3) := by decide +kernel
theorem dX2_halved_11 : decode cX2_halved 11 = .ok (.iconst 0, 1) := by decide +kernel
theorem dX2_halved_12 : decode cX2_halved 12 = .ok (.istore 6, 2) := by decide +kernel
theorem dX2_halved_14 : decode cX2_halved 14 = .ok (.iload 6, 2) := by decide +kernel
theorem dX2_halved_16 : decode cX2_halved 16 = .ok (.iconst 4, 1) := by decide +kernel
theorem dX2_halved_17 : decode cX2_halved 17 = .ok (.if_icmp .ge 40, 3) := by decide +kernel
theorem dX2_halved_20 : decode cX2_halved 20 = .ok (.lload_n 0, 1) := by decide +kernel
theorem dX2_halved_21 : decode cX2_halved 21 = .ok (.iload 6, 2) := by decide +kernel
theorem dX2_halved_23 : decode cX2_halved 23 = .ok (.iload 5, 2) := by decide +kernel
theorem dX2_halved_25 : decode cX2_halved 25 = .ok (.invokestatic 42, 3) := by decide +kernel
theorem dX2_halved_28 : decode cX2_halved 28 = .ok (.land, 1) := by decide +kernel
theorem dX2_halved_29 : decode cX2_halved 29 = .ok (.invokestatic 45, 3) := by decide +kernel
theorem dX2_halved_32 : decode cX2_halved 32 = .ok (.iconst 2, 1) := by decide +kernel
theorem dX2_halved_33 : decode cX2_halved 33 = .ok (.if_icmp .lt 18, 3) := by decide +kernel
theorem dX2_halved_36 : decode cX2_halved 36 = .ok (.lload_n 3, 1) := by decide +kernel
theorem dX2_halved_37 : decode cX2_halved 37 = .ok (.iload 6, 2) := by decide +kernel
theorem dX2_halved_39 : decode cX2_halved 39 = .ok (.iload 5, 2) := by decide +kernel
theorem dX2_halved_41 : decode cX2_halved 41 = .ok (.invokestatic 39, 3) := by decide +kernel
theorem dX2_halved_44 : decode cX2_halved 44 = .ok (.iload_n 2, 1) := by decide +kernel
theorem dX2_halved_45 : decode cX2_halved 45 = .ok (.invokestatic 23, 3) := by decide +kernel
theorem dX2_halved_48 : decode cX2_halved 48 = .ok (.lshl, 1) := by decide +kernel
theorem dX2_halved_49 : decode cX2_halved 49 = .ok (.lor, 1) := by decide +kernel
theorem dX2_halved_50 : decode cX2_halved 50 = .ok (.lstore_n 3, 1) := by decide +kernel
theorem dX2_halved_51 : decode cX2_halved 51 = .ok (.iinc 6 1, 3) := by decide +kernel
theorem dX2_halved_54 : decode cX2_halved 54 = .ok (.goto (-40), 3) := by decide +kernel
theorem dX2_halved_57 : decode cX2_halved 57 = .ok (.iinc 5 1, 3) := by decide +kernel
theorem dX2_halved_60 : decode cX2_halved 60 = .ok (.goto (-55), 3) := by decide +kernel
theorem dX2_halved_63 : decode cX2_halved 63 = .ok (.lload_n 3, 1) := by decide +kernel
theorem dX2_halved_64 : decode cX2_halved 64 = .ok (.lreturn, 1) := by decide +kernel
theorem dX2_grown_0 : decode cX2_grown 0 = .ok (.lconst 0, 1) := by decide +kernel
theorem dX2_grown_1 : decode cX2_grown 1 = .ok (.lstore_n 3, 1) := by decide +kernel
theorem dX2_grown_2 : decode cX2_grown 2 = .ok (.iconst 0, 1) := by decide +kernel
theorem dX2_grown_3 : decode cX2_grown 3 = .ok (.istore 5, 2) := by decide +kernel
theorem dX2_grown_5 : decode cX2_grown 5 = .ok (.iload 5, 2) := by decide +kernel
theorem dX2_grown_7 : decode cX2_grown 7 = .ok (.iconst 4, 1) := by decide +kernel
theorem dX2_grown_8 : decode cX2_grown 8 = .ok (.if_icmp .ge 54, 3) := by decide +kernel
theorem dX2_grown_11 : decode cX2_grown 11 = .ok (.iconst 0, 1) := by decide +kernel
theorem dX2_grown_12 : decode cX2_grown 12 = .ok (.istore 6, 2) := by decide +kernel
theorem dX2_grown_14 : decode cX2_grown 14 = .ok (.iload 6, 2) := by decide +kernel
theorem dX2_grown_16 : decode cX2_grown 16 = .ok (.iconst 4, 1) := by decide +kernel
theorem dX2_grown_17 : decode cX2_grown 17 = .ok (.if_icmp .ge 39, 3) := by decide +kernel
theorem dX2_grown_20 : decode cX2_grown 20 = .ok (.lload_n 0, 1) := by decide +kernel
theorem dX2_grown_21 : decode cX2_grown 21 = .ok (.iload_n 2, 1) := by decide +kernel
theorem dX2_grown_22 : decode cX2_grown 22 = .ok (.invokestatic 23, 3) := by decide +kernel
theorem dX2_grown_25 : decode cX2_grown 25 = .ok (.bipush 8, 2) := by decide +kernel
theorem dX2_grown_27 : decode cX2_grown 27 = .ok (.iload 5, 2) := by decide +kernel
theorem dX2_grown_29 : decode cX2_grown 29 = .ok (.imul, 1) := by decide +kernel
theorem dX2_grown_30 : decode cX2_grown 30 = .ok (.iadd, 1) := by decide +kernel
theorem dX2_grown_31 : decode cX2_grown 31 = .ok (.iload 6, 2) := by decide +kernel
theorem dX2_grown_33 : decode cX2_grown 33 = .ok (.iadd, 1) := by decide +kernel
theorem dX2_grown_34 : decode cX2_grown 34 = .ok (.invokestatic 35, 3) := by decide +kernel
theorem dX2_grown_37 : decode cX2_grown 37 = .ok (.ifCond .eq 13, 3) := by decide +kernel
theorem dX2_grown_40 : decode cX2_grown 40 = .ok (.lload_n 3, 1) := by decide +kernel
theorem dX2_grown_41 : decode cX2_grown 41 = .ok (.iload 6, 2) := by decide +kernel
theorem dX2_grown_43 : decode cX2_grown 43 = .ok (.iload 5, 2) := by decide +kernel
theorem dX2_grown_45 : decode cX2_grown 45 = .ok (.invokestatic 42, 3) := by decide +kernel
theorem dX2_grown_48 : decode cX2_grown 48 = .ok (.lor, 1) := by decide +kernel
theorem dX2_grown_49 : decode cX2_grown 49 = .ok (.lstore_n 3, 1) := by decide +kernel
theorem dX2_grown_50 : decode cX2_grown 50 = .ok (.iinc 6 1, 3) := by decide +kernel
theorem dX2_grown_53 : decode cX2_grown 53 = .ok (.goto (-39), 3) := by decide +kernel
theorem dX2_grown_56 : decode cX2_grown 56 = .ok (.iinc 5 1, 3) := by decide +kernel
theorem dX2_grown_59 : decode cX2_grown 59 = .ok (.goto (-54), 3) := by decide +kernel
theorem dX2_grown_62 : decode cX2_grown 62 = .ok (.lload_n 3, 1) := by decide +kernel
theorem dX2_grown_63 : decode cX2_grown 63 = .ok (.lreturn, 1) := by decide +kernel
theorem dX2_fourCells_0 : decode cX2_fourCells 0 = .ok (.ldc2_w 51, 3) := by decide +kernel
theorem dX2_fourCells_3 : decode cX2_fourCells 3 = .ok (.bipush 16, 2) := by decide +kernel
theorem dX2_fourCells_5 : decode cX2_fourCells 5 = .ok (.iload_n 1, 1) := by decide +kernel
theorem dX2_fourCells_6 : decode cX2_fourCells 6 = .ok (.imul, 1) := by decide +kernel
theorem dX2_fourCells_7 : decode cX2_fourCells 7 = .ok (.iconst 2, 1) := by decide +kernel
theorem dX2_fourCells_8 : decode cX2_fourCells 8 = .ok (.iload_n 0, 1) := by decide +kernel
theorem dX2_fourCells_9 : decode cX2_fourCells 9 = .ok (.imul, 1) := by decide +kernel
theorem dX2_fourCells_10 : decode cX2_fourCells 10 = .ok (.iadd, 1) := by decide +kernel
theorem dX2_fourCells_11 : decode cX2_fourCells 11 = .ok (.lshl, 1) := by decide +kernel
theorem dX2_fourCells_12 : decode cX2_fourCells 12 = .ok (.lreturn, 1) := by decide +kernel
theorem dX2_byWay_0 : decode cX2_byWay 0 = .ok (.iload_n 2, 1) := by decide +kernel
theorem dX2_byWay_1 : decode cX2_byWay 1 = .ok (.iconst 4, 1) := by decide +kernel
theorem dX2_byWay_2 : decode cX2_byWay 2 = .ok (.if_icmp .ge 7, 3) := by decide +kernel
theorem dX2_byWay_5 : decode cX2_byWay 5 = .ok (.lload_n 0, 1) := by decide +kernel
theorem dX2_byWay_6 : decode cX2_byWay 6 = .ok (.goto 7, 3) := by decide +kernel
theorem dX2_byWay_9 : decode cX2_byWay 9 = .ok (.lload_n 0, 1) := by decide +kernel
theorem dX2_byWay_10 : decode cX2_byWay 10 = .ok (.invokestatic 53, 3) := by decide +kernel
theorem dX2_byWay_13 : decode cX2_byWay 13 = .ok (.lstore_n 3, 1) := by decide +kernel
theorem dX2_byWay_14 : decode cX2_byWay 14 = .ok (.iconst 0, 1) := by decide +kernel
theorem dX2_byWay_15 : decode cX2_byWay 15 = .ok (.istore 5, 2) := by decide +kernel
theorem dX2_byWay_17 : decode cX2_byWay 17 = .ok (.iload 5, 2) := by decide +kernel
theorem dX2_byWay_19 : decode cX2_byWay 19 = .ok (.iload_n 2, 1) := by decide +kernel
theorem dX2_byWay_20 : decode cX2_byWay 20 = .ok (.iconst 4, 1) := by decide +kernel
theorem dX2_byWay_21 : decode cX2_byWay 21 = .ok (.irem, 1) := by decide +kernel
theorem dX2_byWay_22 : decode cX2_byWay 22 = .ok (.if_icmp .ge 14, 3) := by decide +kernel
theorem dX2_byWay_25 : decode cX2_byWay 25 = .ok (.lload_n 3, 1) := by decide +kernel
theorem dX2_byWay_26 : decode cX2_byWay 26 = .ok (.invokestatic 57, 3) := by decide +kernel
theorem dX2_byWay_29 : decode cX2_byWay 29 = .ok (.lstore_n 3, 1) := by decide +kernel
theorem dX2_byWay_30 : decode cX2_byWay 30 = .ok (.iinc 5 1, 3) := by decide +kernel
theorem dX2_byWay_33 : decode cX2_byWay 33 = .ok (.goto (-16), 3) := by decide +kernel
theorem dX2_byWay_36 : decode cX2_byWay 36 = .ok (.lload_n 3, 1) := by decide +kernel
theorem dX2_byWay_37 : decode cX2_byWay 37 = .ok (.lreturn, 1) := by decide +kernel
theorem dX2_unlike_0 : decode cX2_unlike 0 = .ok (.lload_n 0, 1) := by decide +kernel
theorem dX2_unlike_1 : decode cX2_unlike 1 = .ok (.iload 4, 2) := by decide +kernel
theorem dX2_unlike_3 : decode cX2_unlike 3 = .ok (.invokestatic 60, 3) := by decide +kernel
theorem dX2_unlike_6 : decode cX2_unlike 6 = .ok (.lload_n 2, 1) := by decide +kernel
theorem dX2_unlike_7 : decode cX2_unlike 7 = .ok (.lxor, 1) := by decide +kernel
theorem dX2_unlike_8 : decode cX2_unlike 8 = .ok (.invokestatic 45, 3) := by decide +kernel
theorem dX2_unlike_11 : decode cX2_unlike 11 = .ok (.ireturn, 1) := by decide +kernel
theorem dX2_waysAlike_0 : decode cX2_waysAlike 0 = .ok (.iconst 0, 1) := by decide +kernel
theorem dX2_waysAlike_1 : decode cX2_waysAlike 1 = .ok (.istore 4, 2) := by decide +kernel
theorem dX2_waysAlike_3 : decode cX2_waysAlike 3 = .ok (.iconst 0, 1) := by decide +kernel
theorem dX2_waysAlike_4 : decode cX2_waysAlike 4 = .ok (.istore 5, 2) := by decide +kernel
theorem dX2_waysAlike_6 : decode cX2_waysAlike 6 = .ok (.iload 5, 2) := by decide +kernel
theorem dX2_waysAlike_8 : decode cX2_waysAlike 8 = .ok (.bipush 8, 2) := by decide +kernel
theorem dX2_waysAlike_10 : decode cX2_waysAlike 10 = .ok (.if_icmp .ge 28, 3) := by decide +kernel
theorem dX2_waysAlike_13 : decode cX2_waysAlike 13 = .ok (.lload_n 0, 1) := by decide +kernel
theorem dX2_waysAlike_14 : decode cX2_waysAlike 14 = .ok (.lload_n 2, 1) := by decide +kernel
theorem dX2_waysAlike_15 : decode cX2_waysAlike 15 = .ok (.iload 5, 2) := by decide +kernel
theorem dX2_waysAlike_17 : decode cX2_waysAlike 17 = .ok (.invokestatic 64, 3) := by decide +kernel
theorem dX2_waysAlike_20 : decode cX2_waysAlike 20 = .ok (.ifCond .ne 12, 3) := by decide +kernel
theorem dX2_waysAlike_23 : decode cX2_waysAlike 23 = .ok (.iload 4, 2) := by decide +kernel
theorem dX2_waysAlike_25 : decode cX2_waysAlike 25 = .ok (.iconst 1, 1) := by decide +kernel
theorem dX2_waysAlike_26 : decode cX2_waysAlike 26 = .ok (.iload 5, 2) := by decide +kernel
theorem dX2_waysAlike_28 : decode cX2_waysAlike 28 = .ok (.ishl, 1) := by decide +kernel
theorem dX2_waysAlike_29 : decode cX2_waysAlike 29 = .ok (.ior, 1) := by decide +kernel
theorem dX2_waysAlike_30 : decode cX2_waysAlike 30 = .ok (.istore 4, 2) := by decide +kernel
theorem dX2_waysAlike_32 : decode cX2_waysAlike 32 = .ok (.iinc 5 1, 3) := by decide +kernel
theorem dX2_waysAlike_35 : decode cX2_waysAlike 35 = .ok (.goto (-29), 3) := by decide +kernel
theorem dX2_waysAlike_38 : decode cX2_waysAlike 38 = .ok (.iload 4, 2) := by decide +kernel
theorem dX2_waysAlike_40 : decode cX2_waysAlike 40 = .ok (.ireturn, 1) := by decide +kernel
theorem dX2_nearestWay_0 : decode cX2_nearestWay 0 = .ok (.iconst 0, 1) := by decide +kernel
theorem dX2_nearestWay_1 : decode cX2_nearestWay 1 = .ok (.istore 4, 2) := by decide +kernel
theorem dX2_nearestWay_3 : decode cX2_nearestWay 3 = .ok (.lload_n 0, 1) := by decide +kernel
theorem dX2_nearestWay_4 : decode cX2_nearestWay 4 = .ok (.lload_n 2, 1) := by decide +kernel
theorem dX2_nearestWay_5 : decode cX2_nearestWay 5 = .ok (.iconst 0, 1) := by decide +kernel
theorem dX2_nearestWay_6 : decode cX2_nearestWay 6 = .ok (.invokestatic 64, 3) := by decide +kernel
theorem dX2_nearestWay_9 : decode cX2_nearestWay 9 = .ok (.istore 5, 2) := by decide +kernel
theorem dX2_nearestWay_11 : decode cX2_nearestWay 11 = .ok (.iconst 1, 1) := by decide +kernel
theorem dX2_nearestWay_12 : decode cX2_nearestWay 12 = .ok (.istore 6, 2) := by decide +kernel
theorem dX2_nearestWay_14 : decode cX2_nearestWay 14 = .ok (.iload 6, 2) := by decide +kernel
theorem dX2_nearestWay_16 : decode cX2_nearestWay 16 = .ok (.bipush 8, 2) := by decide +kernel
theorem dX2_nearestWay_18 : decode cX2_nearestWay 18 = .ok (.if_icmp .ge 33, 3) := by decide +kernel
theorem dX2_nearestWay_21 : decode cX2_nearestWay 21 = .ok (.lload_n 0, 1) := by decide +kernel
theorem dX2_nearestWay_22 : decode cX2_nearestWay 22 = .ok (.lload_n 2, 1) := by decide +kernel
theorem dX2_nearestWay_23 : decode cX2_nearestWay 23 = .ok (.iload 6, 2) := by decide +kernel
theorem dX2_nearestWay_25 : decode cX2_nearestWay 25 = .ok (.invokestatic 64, 3) := by decide +kernel
theorem dX2_nearestWay_28 : decode cX2_nearestWay 28 = .ok (.istore 7, 2) := by decide +kernel
theorem dX2_nearestWay_30 : decode cX2_nearestWay 30 = .ok (.iload 7, 2) := by decide +kernel
theorem dX2_nearestWay_32 : decode cX2_nearestWay 32 = .ok (.iload 5, 2) := by decide +kernel
theorem dX2_nearestWay_34 : decode cX2_nearestWay 34 = .ok (.if_icmp .ge 11, 3) := by decide +kernel
theorem dX2_nearestWay_37 : decode cX2_nearestWay 37 = .ok (.iload 7, 2) := by decide +kernel
theorem dX2_nearestWay_39 : decode cX2_nearestWay 39 = .ok (.istore 5, 2) := by decide +kernel
theorem dX2_nearestWay_41 : decode cX2_nearestWay 41 = .ok (.iload 6, 2) := by decide +kernel
theorem dX2_nearestWay_43 : decode cX2_nearestWay 43 = .ok (.istore 4, 2) := by decide +kernel
theorem dX2_nearestWay_45 : decode cX2_nearestWay 45 = .ok (.iinc 6 1, 3) := by decide +kernel
theorem dX2_nearestWay_48 : decode cX2_nearestWay 48 = .ok (.goto (-34), 3) := by decide +kernel
theorem dX2_nearestWay_51 : decode cX2_nearestWay 51 = .ok (.iload 4, 2) := by decide +kernel
theorem dX2_nearestWay_53 : decode cX2_nearestWay 53 = .ok (.ireturn, 1) := by decide +kernel
theorem dX2_parts_0 : decode cX2_parts 0 = .ok (.lload_n 0, 1) := by decide +kernel
theorem dX2_parts_1 : decode cX2_parts 1 = .ok (.lstore_n 2, 1) := by decide +kernel
theorem dX2_parts_2 : decode cX2_parts 2 = .ok (.iconst 0, 1) := by decide +kernel
theorem dX2_parts_3 : decode cX2_parts 3 = .ok (.istore 4, 2) := by decide +kernel
theorem dX2_parts_5 : decode cX2_parts 5 = .ok (.iload 4, 2) := by decide +kernel
theorem dX2_parts_7 : decode cX2_parts 7 = .ok (.bipush 64, 2) := by decide +kernel
theorem dX2_parts_9 : decode cX2_parts 9 = .ok (.if_icmp .ge 30, 3) := by decide +kernel
theorem dX2_parts_12 : decode cX2_parts 12 = .ok (.lload_n 2, 1) := by decide +kernel
theorem dX2_parts_13 : decode cX2_parts 13 = .ok (.lconst 0, 1) := by decide +kernel
theorem dX2_parts_14 : decode cX2_parts 14 = .ok (.lcmp, 1) := by decide +kernel
theorem dX2_parts_15 : decode cX2_parts 15 = .ok (.ifCond .eq 24, 3) := by decide +kernel
theorem dX2_parts_18 : decode cX2_parts 18 = .ok (.lload_n 2, 1) := by decide +kernel
theorem dX2_parts_19 : decode cX2_parts 19 = .ok (.lload_n 2, 1) := by decide +kernel
theorem dX2_parts_20 : decode cX2_parts 20 = .ok (.lload_n 2, 1) := by decide +kernel
theorem dX2_parts_21 : decode cX2_parts 21 = .ok (.lload_n 2, 1) := by decide +kernel
theorem dX2_parts_22 : decode cX2_parts 22 = .ok (.lneg, 1) := by decide +kernel
theorem dX2_parts_23 : decode cX2_parts 23 = .ok (.land, 1) := by decide +kernel
theorem dX2_parts_24 : decode cX2_parts 24 = .ok (.invokestatic 68, 3) := by decide +kernel
theorem dX2_parts_27 : decode cX2_parts 27 = .ok (.ldc2_w 13, 3) := by decide +kernel
theorem dX2_parts_30 : decode cX2_parts 30 = .ok (.lxor, 1) := by decide +kernel
theorem dX2_parts_31 : decode cX2_parts 31 = .ok (.land, 1) := by decide +kernel
theorem dX2_parts_32 : decode cX2_parts 32 = .ok (.lstore_n 2, 1) := by decide +kernel
theorem dX2_parts_33 : decode cX2_parts 33 = .ok (.iinc 4 1, 3) := by decide +kernel
theorem dX2_parts_36 : decode cX2_parts 36 = .ok (.goto (-31), 3) := by decide +kernel
theorem dX2_parts_39 : decode cX2_parts 39 = .ok (.iload 4, 2) := by decide +kernel
theorem dX2_parts_41 : decode cX2_parts 41 = .ok (.ireturn, 1) := by decide +kernel
theorem dX2_partOf_0 : decode cX2_partOf 0 = .ok (.lload_n 2, 1) := by decide +kernel
theorem dX2_partOf_1 : decode cX2_partOf 1 = .ok (.lstore 4, 2) := by decide +kernel
theorem dX2_partOf_3 : decode cX2_partOf 3 = .ok (.iconst 0, 1) := by decide +kernel
theorem dX2_partOf_4 : decode cX2_partOf 4 = .ok (.istore 6, 2) := by decide +kernel
theorem dX2_partOf_6 : decode cX2_partOf 6 = .ok (.iload 6, 2) := by decide +kernel
theorem dX2_partOf_8 : decode cX2_partOf 8 = .ok (.bipush 64, 2) := by decide +kernel
theorem dX2_partOf_10 : decode cX2_partOf 10 = .ok (.if_icmp .ge 54, 3) := by decide +kernel
theorem dX2_partOf_13 : decode cX2_partOf 13 = .ok (.lload_n 0, 1) := by decide +kernel
theorem dX2_partOf_14 : decode cX2_partOf 14 = .ok (.lload 4, 2) := by decide +kernel
theorem dX2_partOf_16 : decode cX2_partOf 16 = .ok (.lload 4, 2) := by decide +kernel
theorem dX2_partOf_18 : decode cX2_partOf 18 = .ok (.invokestatic 72, 3) := by decide +kernel
theorem dX2_partOf_21 : decode cX2_partOf 21 = .ok (.lor, 1) := by decide +kernel
theorem dX2_partOf_22 : decode cX2_partOf 22 = .ok (.lload 4, 2) := by decide +kernel
theorem dX2_partOf_24 : decode cX2_partOf 24 = .ok (.invokestatic 75, 3) := by decide +kernel
theorem dX2_partOf_27 : decode cX2_partOf 27 = .ok (.lor, 1) := by decide +kernel
theorem dX2_partOf_28 : decode cX2_partOf 28 = .ok (.lload 4, 2) := by decide +kernel
theorem dX2_partOf_30 : decode cX2_partOf 30 = .ok (.bipush 8, 2) := by decide +kernel
theorem dX2_partOf_32 : decode cX2_partOf 32 = .ok (.lushr, 1) := by decide +kernel
theorem dX2_partOf_33 : decode cX2_partOf 33 = .ok (.lor, 1) := by decide +kernel
theorem dX2_partOf_34 : decode cX2_partOf 34 = .ok (.lload 4, 2) := by decide +kernel
theorem dX2_partOf_36 : decode cX2_partOf 36 = .ok (.bipush 8, 2) := by decide +kernel
theorem dX2_partOf_38 : decode cX2_partOf 38 = .ok (.lshl, 1) := by decide +kernel
theorem dX2_partOf_39 : decode cX2_partOf 39 = .ok (.lor, 1) := by decide +kernel
theorem dX2_partOf_40 : decode cX2_partOf 40 = .ok (.land, 1) := by decide +kernel
theorem dX2_partOf_41 : decode cX2_partOf 41 = .ok (.lstore 7, 2) := by decide +kernel
theorem dX2_partOf_43 : decode cX2_partOf 43 = .ok (.lload 7, 2) := by decide +kernel
theorem dX2_partOf_45 : decode cX2_partOf 45 = .ok (.lload 4, 2) := by decide +kernel
theorem dX2_partOf_47 : decode cX2_partOf 47 = .ok (.lcmp, 1) := by decide +kernel
theorem dX2_partOf_48 : decode cX2_partOf 48 = .ok (.ifCond .ne 6, 3) := by decide +kernel
theorem dX2_partOf_51 : decode cX2_partOf 51 = .ok (.lload 4, 2) := by decide +kernel
theorem dX2_partOf_53 : decode cX2_partOf 53 = .ok (.lreturn, 1) := by decide +kernel
theorem dX2_partOf_54 : decode cX2_partOf 54 = .ok (.lload 7, 2) := by decide +kernel
theorem dX2_partOf_56 : decode cX2_partOf 56 = .ok (.lstore 4, 2) := by decide +kernel
theorem dX2_partOf_58 : decode cX2_partOf 58 = .ok (.iinc 6 1, 3) := by decide +kernel
theorem dX2_partOf_61 : decode cX2_partOf 61 = .ok (.goto (-55), 3) := by decide +kernel
theorem dX2_partOf_64 : decode cX2_partOf 64 = .ok (.lload 4, 2) := by decide +kernel
theorem dX2_partOf_66 : decode cX2_partOf 66 = .ok (.lreturn, 1) := by decide +kernel
theorem dX2_leftOf_0 : decode cX2_leftOf 0 = .ok (.lload_n 0, 1) := by decide +kernel
theorem dX2_leftOf_1 : decode cX2_leftOf 1 = .ok (.ldc2_w 78, 3) := by decide +kernel
theorem dX2_leftOf_4 : decode cX2_leftOf 4 = .ok (.land, 1) := by decide +kernel
theorem dX2_leftOf_5 : decode cX2_leftOf 5 = .ok (.iconst 1, 1) := by decide +kernel
theorem dX2_leftOf_6 : decode cX2_leftOf 6 = .ok (.lushr, 1) := by decide +kernel
theorem dX2_leftOf_7 : decode cX2_leftOf 7 = .ok (.lreturn, 1) := by decide +kernel
theorem dX2_rightOf_0 : decode cX2_rightOf 0 = .ok (.lload_n 0, 1) := by decide +kernel
theorem dX2_rightOf_1 : decode cX2_rightOf 1 = .ok (.ldc2_w 80, 3) := by decide +kernel
theorem dX2_rightOf_4 : decode cX2_rightOf 4 = .ok (.land, 1) := by decide +kernel
theorem dX2_rightOf_5 : decode cX2_rightOf 5 = .ok (.iconst 1, 1) := by decide +kernel
theorem dX2_rightOf_6 : decode cX2_rightOf 6 = .ok (.lshl, 1) := by decide +kernel
theorem dX2_rightOf_7 : decode cX2_rightOf 7 = .ok (.lreturn, 1) := by decide +kernel
theorem dX2_rim_0 : decode cX2_rim 0 = .ok (.lload_n 0, 1) := by decide +kernel
theorem dX2_rim_1 : decode cX2_rim 1 = .ok (.lload_n 0, 1) := by decide +kernel
theorem dX2_rim_2 : decode cX2_rim 2 = .ok (.invokestatic 72, 3) := by decide +kernel
theorem dX2_rim_5 : decode cX2_rim 5 = .ok (.ldc2_w 13, 3) := by decide +kernel
theorem dX2_rim_8 : decode cX2_rim 8 = .ok (.lxor, 1) := by decide +kernel
theorem dX2_rim_9 : decode cX2_rim 9 = .ok (.land, 1) := by decide +kernel
theorem dX2_rim_10 : decode cX2_rim 10 = .ok (.invokestatic 45, 3) := by decide +kernel
theorem dX2_rim_13 : decode cX2_rim 13 = .ok (.lload_n 0, 1) := by decide +kernel
theorem dX2_rim_14 : decode cX2_rim 14 = .ok (.lload_n 0, 1) := by decide +kernel
theorem dX2_rim_15 : decode cX2_rim 15 = .ok (.invokestatic 75, 3) := by decide +kernel
theorem dX2_rim_18 : decode cX2_rim 18 = .ok (.ldc2_w 13, 3) := by decide +kernel
theorem dX2_rim_21 : decode cX2_rim 21 = .ok (.lxor, 1) := by decide +kernel
theorem dX2_rim_22 : decode cX2_rim 22 = .ok (.land, 1) := by decide +kernel
theorem dX2_rim_23 : decode cX2_rim 23 = .ok (.invokestatic 45, 3) := by decide +kernel
theorem dX2_rim_26 : decode cX2_rim 26 = .ok (.iadd, 1) := by decide +kernel
theorem dX2_rim_27 : decode cX2_rim 27 = .ok (.lload_n 0, 1) := by decide +kernel
theorem dX2_rim_28 : decode cX2_rim 28 = .ok (.lload_n 0, 1) := by decide +kernel
theorem dX2_rim_29 : decode cX2_rim 29 = .ok (.bipush 8, 2) := by decide +kernel
theorem dX2_rim_31 : decode cX2_rim 31 = .ok (.lushr, 1) := by decide +kernel
theorem dX2_rim_32 : decode cX2_rim 32 = .ok (.ldc2_w 13, 3) := by decide +kernel
theorem dX2_rim_35 : decode cX2_rim 35 = .ok (.lxor, 1) := by decide +kernel
theorem dX2_rim_36 : decode cX2_rim 36 = .ok (.land, 1) := by decide +kernel
theorem dX2_rim_37 : decode cX2_rim 37 = .ok (.invokestatic 45, 3) := by decide +kernel
theorem dX2_rim_40 : decode cX2_rim 40 = .ok (.iadd, 1) := by decide +kernel
theorem dX2_rim_41 : decode cX2_rim 41 = .ok (.lload_n 0, 1) := by decide +kernel
theorem dX2_rim_42 : decode cX2_rim 42 = .ok (.lload_n 0, 1) := by decide +kernel
theorem dX2_rim_43 : decode cX2_rim 43 = .ok (.bipush 8, 2) := by decide +kernel
theorem dX2_rim_45 : decode cX2_rim 45 = .ok (.lshl, 1) := by decide +kernel
theorem dX2_rim_46 : decode cX2_rim 46 = .ok (.ldc2_w 13, 3) := by decide +kernel
theorem dX2_rim_49 : decode cX2_rim 49 = .ok (.lxor, 1) := by decide +kernel
theorem dX2_rim_50 : decode cX2_rim 50 = .ok (.land, 1) := by decide +kernel
theorem dX2_rim_51 : decode cX2_rim 51 = .ok (.invokestatic 45, 3) := by decide +kernel
theorem dX2_rim_54 : decode cX2_rim 54 = .ok (.iadd, 1) := by decide +kernel
theorem dX2_rim_55 : decode cX2_rim 55 = .ok (.ireturn, 1) := by decide +kernel
theorem dX2_blocks_0 : decode cX2_blocks 0 = .ok (.lload_n 0, 1) := by decide +kernel
theorem dX2_blocks_1 : decode cX2_blocks 1 = .ok (.lstore_n 2, 1) := by decide +kernel
theorem dX2_blocks_2 : decode cX2_blocks 2 = .ok (.iconst 0, 1) := by decide +kernel
theorem dX2_blocks_3 : decode cX2_blocks 3 = .ok (.istore 4, 2) := by decide +kernel
theorem dX2_blocks_5 : decode cX2_blocks 5 = .ok (.iconst 0, 1) := by decide +kernel
theorem dX2_blocks_6 : decode cX2_blocks 6 = .ok (.istore 5, 2) := by decide +kernel
theorem dX2_blocks_8 : decode cX2_blocks 8 = .ok (.iload 5, 2) := by decide +kernel
theorem dX2_blocks_10 : decode cX2_blocks 10 = .ok (.iconst 3, 1) := by decide +kernel
theorem dX2_blocks_11 : decode cX2_blocks 11 = .ok (.if_icmp .gt 56, 3) := by decide +kernel
theorem dX2_blocks_14 : decode cX2_blocks 14 = .ok (.iconst 0, 1) := by decide +kernel
theorem dX2_blocks_15 : decode cX2_blocks 15 = .ok (.istore 6, 2) := by decide +kernel
theorem dX2_blocks_17 : decode cX2_blocks 17 = .ok (.iload 6, 2) := by decide +kernel
theorem dX2_blocks_19 : decode cX2_blocks 19 = .ok (.bipush 64, 2) := by decide +kernel
theorem dX2_blocks_21 : decode cX2_blocks 21 = .ok (.if_icmp .ge 40, 3) := by decide +kernel
theorem dX2_blocks_24 : decode cX2_blocks 24 = .ok (.iload 6, 2) := by decide +kernel
theorem dX2_blocks_26 : decode cX2_blocks 26 = .ok (.iload 5, 2) := by decide +kernel
theorem dX2_blocks_28 : decode cX2_blocks 28 = .ok (.invokestatic 27, 3) := by decide +kernel
theorem dX2_blocks_31 : decode cX2_blocks 31 = .ok (.lstore 7, 2) := by decide +kernel
theorem dX2_blocks_33 : decode cX2_blocks 33 = .ok (.lload_n 2, 1) := by decide +kernel
theorem dX2_blocks_34 : decode cX2_blocks 34 = .ok (.lload 7, 2) := by decide +kernel
theorem dX2_blocks_36 : decode cX2_blocks 36 = .ok (.land, 1) := by decide +kernel
theorem dX2_blocks_37 : decode cX2_blocks 37 = .ok (.lload 7, 2) := by decide +kernel
theorem dX2_blocks_39 : decode cX2_blocks 39 = .ok (.lcmp, 1) := by decide +kernel
theorem dX2_blocks_40 : decode cX2_blocks 40 = .ok (.ifCond .ne 15, 3) := by decide +kernel
theorem dX2_blocks_43 : decode cX2_blocks 43 = .ok (.lload_n 2, 1) := by decide +kernel
theorem dX2_blocks_44 : decode cX2_blocks 44 = .ok (.lload 7, 2) := by decide +kernel
theorem dX2_blocks_46 : decode cX2_blocks 46 = .ok (.ldc2_w 13, 3) := by decide +kernel
theorem dX2_blocks_49 : decode cX2_blocks 49 = .ok (.lxor, 1) := by decide +kernel
theorem dX2_blocks_50 : decode cX2_blocks 50 = .ok (.land, 1) := by decide +kernel
theorem dX2_blocks_51 : decode cX2_blocks 51 = .ok (.lstore_n 2, 1) := by decide +kernel
theorem dX2_blocks_52 : decode cX2_blocks 52 = .ok (.iinc 4 1, 3) := by decide +kernel
theorem dX2_blocks_55 : decode cX2_blocks 55 = .ok (.iinc 6 1, 3) := by decide +kernel
theorem dX2_blocks_58 : decode cX2_blocks 58 = .ok (.goto (-41), 3) := by decide +kernel
theorem dX2_blocks_61 : decode cX2_blocks 61 = .ok (.iinc 5 1, 3) := by decide +kernel
theorem dX2_blocks_64 : decode cX2_blocks 64 = .ok (.goto (-56), 3) := by decide +kernel
theorem dX2_blocks_67 : decode cX2_blocks 67 = .ok (.iload 4, 2) := by decide +kernel
theorem dX2_blocks_69 : decode cX2_blocks 69 = .ok (.ireturn, 1) := by decide +kernel
theorem dX3_init_0 : decode cX3_init 0 = .ok (.aload_n 0, 1) := by decide +kernel
theorem dX3_init_1 : decode cX3_init 1 = .ok (.invokespecial 3, 3) := by decide +kernel
theorem dX3_init_4 : decode cX3_init 4 = .ok (.aload_n 0, 1) := by decide +kernel
theorem dX3_init_5 : decode cX3_init 5 = .ok (.bipush 6, 2) := by decide +kernel
theorem dX3_init_7 : decode cX3_init 7 = .ok (.newarray .int, 2) := by decide +kernel
theorem dX3_init_9 : decode cX3_init 9 = .ok (.putfield 9, 3) := by decide +kernel
theorem dX3_init_12 : decode cX3_init 12 = .ok (.aload_n 0, 1) := by decide +kernel
theorem dX3_init_13 : decode cX3_init 13 = .ok (.bipush 6, 2) := by decide +kernel
theorem dX3_init_15 : decode cX3_init 15 = .ok (.newarray .boolean, 2) := by decide +kernel
theorem dX3_init_17 : decode cX3_init 17 = .ok (.putfield 15, 3) := by decide +kernel
theorem dX3_init_20 : decode cX3_init 20 = .ok (.aload_n 0, 1) := by decide +kernel
theorem dX3_init_21 : decode cX3_init 21 = .ok (.iconst 0, 1) := by decide +kernel
theorem dX3_init_22 : decode cX3_init 22 = .ok (.putfield 19, 3) := by decide +kernel
theorem dX3_init_25 : decode cX3_init 25 = .ok (.return_, 1) := by decide +kernel
theorem dX3_size_0 : decode cX3_size 0 = .ok (.aload_n 0, 1) := by decide +kernel
theorem dX3_size_1 : decode cX3_size 1 = .ok (.getfield 19, 3) := by decide +kernel
theorem dX3_size_4 : decode cX3_size 4 = .ok (.ireturn, 1) := by decide +kernel
theorem dX3_clear_0 : decode cX3_clear 0 = .ok (.aload_n 0, 1) := by decide +kernel
theorem dX3_clear_1 : decode cX3_clear 1 = .ok (.iconst 0, 1) := by decide +kernel
theorem dX3_clear_2 : decode cX3_clear 2 = .ok (.putfield 19, 3) := by decide +kernel
theorem dX3_clear_5 : decode cX3_clear 5 = .ok (.return_, 1) := by decide +kernel
theorem dX3_add_0 : decode cX3_add 0 = .ok (.aload_n 0, 1) := by decide +kernel
theorem dX3_add_1 : decode cX3_add 1 = .ok (.getfield 19, 3) := by decide +kernel
theorem dX3_add_4 : decode cX3_add 4 = .ok (.ifCond .lt 12, 3) := by decide +kernel
theorem dX3_add_7 : decode cX3_add 7 = .ok (.aload_n 0, 1) := by decide +kernel
theorem dX3_add_8 : decode cX3_add 8 = .ok (.getfield 19, 3) := by decide +kernel
theorem dX3_add_11 : decode cX3_add 11 = .ok (.bipush 6, 2) := by decide +kernel
theorem dX3_add_13 : decode cX3_add 13 = .ok (.if_icmp .lt 5, 3) := by decide +kernel
theorem dX3_add_16 : decode cX3_add 16 = .ok (.iconst 0, 1) := by decide +kernel
theorem dX3_add_17 : decode cX3_add 17 = .ok (.ireturn, 1) := by decide +kernel
theorem dX3_add_18 : decode cX3_add 18 = .ok (.aload_n 0, 1) := by decide +kernel
theorem dX3_add_19 : decode cX3_add 19 = .ok (.getfield 9, 3) := by decide +kernel
theorem dX3_add_22 : decode cX3_add 22 = .ok (.aload_n 0, 1) := by decide +kernel
theorem dX3_add_23 : decode cX3_add 23 = .ok (.getfield 19, 3) := by decide +kernel
theorem dX3_add_26 : decode cX3_add 26 = .ok (.iload_n 1, 1) := by decide +kernel
theorem dX3_add_27 : decode cX3_add 27 = .ok (.iastore, 1) := by decide +kernel
theorem dX3_add_28 : decode cX3_add 28 = .ok (.aload_n 0, 1) := by decide +kernel
theorem dX3_add_29 : decode cX3_add 29 = .ok (.getfield 15, 3) := by decide +kernel
theorem dX3_add_32 : decode cX3_add 32 = .ok (.aload_n 0, 1) := by decide +kernel
theorem dX3_add_33 : decode cX3_add 33 = .ok (.getfield 19, 3) := by decide +kernel
theorem dX3_add_36 : decode cX3_add 36 = .ok (.iload_n 2, 1) := by decide +kernel
theorem dX3_add_37 : decode cX3_add 37 = .ok (.bastore, 1) := by decide +kernel
theorem dX3_add_38 : decode cX3_add 38 = .ok (.aload_n 0, 1) := by decide +kernel
theorem dX3_add_39 : decode cX3_add 39 = .ok (.dup, 1) := by decide +kernel
theorem dX3_add_40 : decode cX3_add 40 = .ok (.getfield 19, 3) := by decide +kernel
theorem dX3_add_43 : decode cX3_add 43 = .ok (.iconst 1, 1) := by decide +kernel
theorem dX3_add_44 : decode cX3_add 44 = .ok (.iadd, 1) := by decide +kernel
theorem dX3_add_45 : decode cX3_add 45 = .ok (.putfield 19, 3) := by decide +kernel
theorem dX3_add_48 : decode cX3_add 48 = .ok (.iconst 1, 1) := by decide +kernel
theorem dX3_add_49 : decode cX3_add 49 = .ok (.ireturn, 1) := by decide +kernel
theorem dX3_fits_0 : decode cX3_fits 0 = .ok (.iconst 1, 1) := by decide +kernel
theorem dX3_fits_1 : decode cX3_fits 1 = .ok (.istore_n 1, 1) := by decide +kernel
theorem dX3_fits_2 : decode cX3_fits 2 = .ok (.iconst 0, 1) := by decide +kernel
theorem dX3_fits_3 : decode cX3_fits 3 = .ok (.istore_n 2, 1) := by decide +kernel
theorem dX3_fits_4 : decode cX3_fits 4 = .ok (.iload_n 2, 1) := by decide +kernel
theorem dX3_fits_5 : decode cX3_fits 5 = .ok (.iconst 4, 1) := by decide +kernel
theorem dX3_fits_6 : decode cX3_fits 6 = .ok (.if_icmp .ge 55, 3) := by decide +kernel
theorem dX3_fits_9 : decode cX3_fits 9 = .ok (.iconst 0, 1) := by decide +kernel
theorem dX3_fits_10 : decode cX3_fits 10 = .ok (.istore_n 3, 1) := by decide +kernel
theorem dX3_fits_11 : decode cX3_fits 11 = .ok (.iconst 0, 1) := by decide +kernel
theorem dX3_fits_12 : decode cX3_fits 12 = .ok (.istore 4, 2) := by decide +kernel
theorem dX3_fits_14 : decode cX3_fits 14 = .ok (.iload 4, 2) := by decide +kernel
theorem dX3_fits_16 : decode cX3_fits 16 = .ok (.getstatic 23, 3) := by decide +kernel
theorem dX3_fits_19 : decode cX3_fits 19 = .ok (.arraylength, 1) := by decide +kernel
theorem dX3_fits_20 : decode cX3_fits 20 = .ok (.if_icmp .ge 31, 3) := by decide +kernel
theorem dX3_fits_23 : decode cX3_fits 23 = .ok (.iload_n 3, 1) := by decide +kernel
theorem dX3_fits_24 : decode cX3_fits 24 = .ok (.aload_n 0, 1) := by decide +kernel
theorem dX3_fits_25 : decode cX3_fits 25 = .ok (.iload_n 2, 1) := by decide +kernel
theorem dX3_fits_26 : decode cX3_fits 26 = .ok (.getstatic 23, 3) := by decide +kernel
theorem dX3_fits_29 : decode cX3_fits 29 = .ok (.iload 4, 2) := by decide +kernel
theorem dX3_fits_31 : decode cX3_fits 31 = .ok (.iaload, 1) := by decide +kernel
theorem dX3_fits_32 : decode cX3_fits 32 = .ok (.invokevirtual 26, 3) := by decide +kernel
theorem dX3_fits_35 : decode cX3_fits 35 = .ok (.ifCond .eq 7, 3) := by decide +kernel
theorem dX3_fits_38 : decode cX3_fits 38 = .ok (.iconst 1, 1) := by decide +kernel
theorem dX3_fits_39 : decode cX3_fits 39 = .ok (.goto 4, 3) := by decide +kernel
theorem dX3_fits_42 : decode cX3_fits 42 = .ok (.iconst 0, 1) := by decide +kernel
theorem dX3_fits_43 : decode cX3_fits 43 = .ok (.iadd, 1) := by decide +kernel
theorem dX3_fits_44 : decode cX3_fits 44 = .ok (.istore_n 3, 1) := by decide +kernel
theorem dX3_fits_45 : decode cX3_fits 45 = .ok (.iinc 4 1, 3) := by decide +kernel
theorem dX3_fits_48 : decode cX3_fits 48 = .ok (.goto (-34), 3) := by decide +kernel
theorem dX3_fits_51 : decode cX3_fits 51 = .ok (.iload_n 1, 1) := by decide +kernel
theorem dX3_fits_52 : decode cX3_fits 52 = .ok (.iload_n 3, 1) := by decide +kernel
theorem dX3_fits_53 : decode cX3_fits 53 = .ok (.imul, 1) := by decide +kernel
theorem dX3_fits_54 : decode cX3_fits 54 = .ok (.istore_n 1, 1) := by decide +kernel
theorem dX3_fits_55 : decode cX3_fits 55 = .ok (.iinc 2 1, 3) := by decide +kernel
theorem dX3_fits_58 : decode cX3_fits 58 = .ok (.goto (-54), 3) := by decide +kernel
theorem dX3_fits_61 : decode cX3_fits 61 = .ok (.iload_n 1, 1) := by decide +kernel
theorem dX3_fits_62 : decode cX3_fits 62 = .ok (.ireturn, 1) := by decide +kernel
theorem dX3_firstFit_0 : decode cX3_firstFit 0 = .ok (.iconst 0, 1) := by decide +kernel
theorem dX3_firstFit_1 : decode cX3_firstFit 1 = .ok (.istore_n 1, 1) := by decide +kernel
theorem dX3_firstFit_2 : decode cX3_firstFit 2 = .ok (.iconst 0, 1) := by decide +kernel
theorem dX3_firstFit_3 : decode cX3_firstFit 3 = .ok (.istore_n 2, 1) := by decide +kernel
theorem dX3_firstFit_4 : decode cX3_firstFit 4 = .ok (.iload_n 2, 1) := by decide +kernel
theorem dX3_firstFit_5 : decode cX3_firstFit 5 = .ok (.iconst 4, 1) := by decide +kernel
theorem dX3_firstFit_6 : decode cX3_firstFit 6 = .ok (.if_icmp .ge 31, 3) := by decide +kernel
theorem dX3_firstFit_9 : decode cX3_firstFit 9 = .ok (.aload_n 0, 1) := by decide +kernel
theorem dX3_firstFit_10 : decode cX3_firstFit 10 = .ok (.iload_n 2, 1) := by decide +kernel
theorem dX3_firstFit_11 : decode cX3_firstFit 11 = .ok (.invokevirtual 30, 3) := by decide +kernel
theorem dX3_firstFit_14 : decode cX3_firstFit 14 = .ok (.istore_n 3, 1) := by decide +kernel
theorem dX3_firstFit_15 : decode cX3_firstFit 15 = .ok (.iload_n 3, 1) := by decide +kernel
theorem dX3_firstFit_16 : decode cX3_firstFit 16 = .ok (.bipush (-9), 2) := by decide +kernel
theorem dX3_firstFit_18 : decode cX3_firstFit 18 = .ok (.if_icmp .ne 6, 3) := by decide +kernel
theorem dX3_firstFit_21 : decode cX3_firstFit 21 = .ok (.bipush (-9), 2) := by decide +kernel
theorem dX3_firstFit_23 : decode cX3_firstFit 23 = .ok (.ireturn, 1) := by decide +kernel
theorem dX3_firstFit_24 : decode cX3_firstFit 24 = .ok (.bipush 10, 2) := by decide +kernel
theorem dX3_firstFit_26 : decode cX3_firstFit 26 = .ok (.iload_n 1, 1) := by decide +kernel
theorem dX3_firstFit_27 : decode cX3_firstFit 27 = .ok (.imul, 1) := by decide +kernel
theorem dX3_firstFit_28 : decode cX3_firstFit 28 = .ok (.iload_n 3, 1) := by decide +kernel
theorem dX3_firstFit_29 : decode cX3_firstFit 29 = .ok (.iadd, 1) := by decide +kernel
theorem dX3_firstFit_30 : decode cX3_firstFit 30 = .ok (.istore_n 1, 1) := by decide +kernel
theorem dX3_firstFit_31 : decode cX3_firstFit 31 = .ok (.iinc 2 1, 3) := by decide +kernel
theorem dX3_firstFit_34 : decode cX3_firstFit 34 = .ok (.goto (-30), 3) := by decide +kernel
theorem dX3_firstFit_37 : decode cX3_firstFit 37 = .ok (.iload_n 1, 1) := by decide +kernel
theorem dX3_firstFit_38 : decode cX3_firstFit 38 = .ok (.ireturn, 1) := by decide +kernel
theorem dX3_firstFigure_0 : decode cX3_firstFigure 0 = .ok (.iconst 0, 1) := by decide +kernel
theorem dX3_firstFigure_1 : decode cX3_firstFigure 1 = .ok (.istore_n 2, 1) := by decide +kernel
theorem dX3_firstFigure_2 : decode cX3_firstFigure 2 = .ok (.iload_n 2, 1) := by decide +kernel
theorem dX3_firstFigure_3 : decode cX3_firstFigure 3 = .ok (.getstatic 23, 3) := by decide +kernel
theorem dX3_firstFigure_6 : decode cX3_firstFigure 6 = .ok (.arraylength, 1) := by decide +kernel
theorem dX3_firstFigure_7 : decode cX3_firstFigure 7 = .ok (.if_icmp .ge 26, 3) := by decide +kernel
theorem dX3_firstFigure_10 : decode cX3_firstFigure 10 = .ok (.aload_n 0, 1) := by decide +kernel
theorem dX3_firstFigure_11 : decode cX3_firstFigure 11 = .ok (.iload_n 1, 1) := by decide +kernel
theorem dX3_firstFigure_12 : decode cX3_firstFigure 12 = .ok (.getstatic 23, 3) := by decide +kernel
theorem dX3_firstFigure_15 : decode cX3_firstFigure 15 = .ok (.iload_n 2, 1) := by decide +kernel
theorem dX3_firstFigure_16 : decode cX3_firstFigure 16 = .ok (.iaload, 1) := by decide +kernel
theorem dX3_firstFigure_17 : decode cX3_firstFigure 17 = .ok (.invokevirtual 26, 3) := by decide +kernel
theorem dX3_firstFigure_20 : decode cX3_firstFigure 20 = .ok (.ifCond .eq 7, 3) := by decide +kernel
theorem dX3_firstFigure_23 : decode cX3_firstFigure 23 = .ok (.iload_n 2, 1) := by decide +kernel
theorem dX3_firstFigure_24 : decode cX3_firstFigure 24 = .ok (.iconst 1, 1) := by decide +kernel
theorem dX3_firstFigure_25 : decode cX3_firstFigure 25 = .ok (.iadd, 1) := by decide +kernel
theorem dX3_firstFigure_26 : decode cX3_firstFigure 26 = .ok (.ireturn, 1) := by decide +kernel
theorem dX3_firstFigure_27 : decode cX3_firstFigure 27 = .ok (.iinc 2 1, 3) := by decide +kernel
theorem dX3_firstFigure_30 : decode cX3_firstFigure 30 = .ok (.goto (-28), 3) := by decide +kernel
theorem dX3_firstFigure_33 : decode cX3_firstFigure 33 = .ok (.bipush (-9), 2) := by decide +kernel
theorem dX3_firstFigure_35 : decode cX3_firstFigure 35 = .ok (.ireturn, 1) := by decide +kernel
theorem dX3_isSo_0 : decode cX3_isSo 0 = .ok (.iconst 0, 1) := by decide +kernel
theorem dX3_isSo_1 : decode cX3_isSo 1 = .ok (.istore_n 3, 1) := by decide +kernel
theorem dX3_isSo_2 : decode cX3_isSo 2 = .ok (.iload_n 3, 1) := by decide +kernel
theorem dX3_isSo_3 : decode cX3_isSo 3 = .ok (.aload_n 0, 1) := by decide +kernel
theorem dX3_isSo_4 : decode cX3_isSo 4 = .ok (.getfield 19, 3) := by decide +kernel
theorem dX3_isSo_7 : decode cX3_isSo 7 = .ok (.if_icmp .ge 59, 3) := by decide +kernel
theorem dX3_isSo_10 : decode cX3_isSo 10 = .ok (.iload_n 3, 1) := by decide +kernel
theorem dX3_isSo_11 : decode cX3_isSo 11 = .ok (.bipush 6, 2) := by decide +kernel
theorem dX3_isSo_13 : decode cX3_isSo 13 = .ok (.if_icmp .ge 53, 3) := by decide +kernel
theorem dX3_isSo_16 : decode cX3_isSo 16 = .ok (.iload_n 1, 1) := by decide +kernel
theorem dX3_isSo_17 : decode cX3_isSo 17 = .ok (.invokestatic 34, 3) := by decide +kernel
theorem dX3_isSo_20 : decode cX3_isSo 20 = .ok (.aload_n 0, 1) := by decide +kernel
theorem dX3_isSo_21 : decode cX3_isSo 21 = .ok (.getfield 9, 3) := by decide +kernel
theorem dX3_isSo_24 : decode cX3_isSo 24 = .ok (.iload_n 3, 1) := by decide +kernel
theorem dX3_isSo_25 : decode cX3_isSo 25 = .ok (.iaload, 1) := by decide +kernel
theorem dX3_isSo_26 : decode cX3_isSo 26 = .ok (.invokestatic 40, 3) := by decide +kernel
theorem dX3_isSo_29 : decode cX3_isSo 29 = .ok (.istore 4, 2) := by decide +kernel
theorem dX3_isSo_31 : decode cX3_isSo 31 = .ok (.iload 4, 2) := by decide +kernel
theorem dX3_isSo_33 : decode cX3_isSo 33 = .ok (.ifCond .eq 27, 3) := by decide +kernel
theorem dX3_isSo_36 : decode cX3_isSo 36 = .ok (.iload_n 2, 1) := by decide +kernel
theorem dX3_isSo_37 : decode cX3_isSo 37 = .ok (.invokestatic 44, 3) := by decide +kernel
theorem dX3_isSo_40 : decode cX3_isSo 40 = .ok (.aload_n 0, 1) := by decide +kernel
theorem dX3_isSo_41 : decode cX3_isSo 41 = .ok (.getfield 9, 3) := by decide +kernel
theorem dX3_isSo_44 : decode cX3_isSo 44 = .ok (.iload_n 3, 1) := by decide +kernel
theorem dX3_isSo_45 : decode cX3_isSo 45 = .ok (.iaload, 1) := by decide +kernel
theorem dX3_isSo_46 : decode cX3_isSo 46 = .ok (.invokestatic 40, 3) := by decide +kernel
theorem dX3_isSo_49 : decode cX3_isSo 49 = .ok (.aload_n 0, 1) := by decide +kernel
theorem dX3_isSo_50 : decode cX3_isSo 50 = .ok (.getfield 15, 3) := by decide +kernel
theorem dX3_isSo_53 : decode cX3_isSo 53 = .ok (.iload_n 3, 1) := by decide +kernel
theorem dX3_isSo_54 : decode cX3_isSo 54 = .ok (.baload, 1) := by decide +kernel
theorem dX3_isSo_55 : decode cX3_isSo 55 = .ok (.if_icmp .eq 5, 3) := by decide +kernel
theorem dX3_isSo_58 : decode cX3_isSo 58 = .ok (.iconst 0, 1) := by decide +kernel
theorem dX3_isSo_59 : decode cX3_isSo 59 = .ok (.ireturn, 1) := by decide +kernel
theorem dX3_isSo_60 : decode cX3_isSo 60 = .ok (.iinc 3 1, 3) := by decide +kernel
theorem dX3_isSo_63 : decode cX3_isSo 63 = .ok (.goto (-61), 3) := by decide +kernel
theorem dX3_isSo_66 : decode cX3_isSo 66 = .ok (.iconst 1, 1) := by decide +kernel
theorem dX3_isSo_67 : decode cX3_isSo 67 = .ok (.ireturn, 1) := by decide +kernel
theorem dX4_init_0 : decode cX4_init 0 = .ok (.aload_n 0, 1) := by decide +kernel
theorem dX4_init_1 : decode cX4_init 1 = .ok (.invokespecial 3, 3) := by decide +kernel
theorem dX4_init_4 : decode cX4_init 4 = .ok (.aload_n 0, 1) := by decide +kernel
theorem dX4_init_5 : decode cX4_init 5 = .ok (.bipush 64, 2) := by decide +kernel
theorem dX4_init_7 : decode cX4_init 7 = .ok (.newarray .int, 2) := by decide +kernel
theorem dX4_init_9 : decode cX4_init 9 = .ok (.putfield 9, 3) := by decide +kernel
theorem dX4_init_12 : decode cX4_init 12 = .ok (.aload_n 0, 1) := by decide +kernel
theorem dX4_init_13 : decode cX4_init 13 = .ok (.new 15, 3) := by decide +kernel
theorem dX4_init_16 : decode cX4_init 16 = .ok (.dup, 1) := by decide +kernel
theorem dX4_init_17 : decode cX4_init 17 = .ok (.invokespecial 17, 3) := by decide +kernel
theorem dX4_init_20 : decode cX4_init 20 = .ok (.putfield 18, 3) := by decide +kernel
theorem dX4_init_23 : decode cX4_init 23 = .ok (.aload_n 0, 1) := by decide +kernel
theorem dX4_init_24 : decode cX4_init 24 = .ok (.iconst 0, 1) := by decide +kernel
theorem dX4_init_25 : decode cX4_init 25 = .ok (.putfield 22, 3) := by decide +kernel
theorem dX4_init_28 : decode cX4_init 28 = .ok (.aload_n 0, 1) := by decide +kernel
theorem dX4_init_29 : decode cX4_init 29 = .ok (.lconst 0, 1) := by decide +kernel
theorem dX4_init_30 : decode cX4_init 30 = .ok (.putfield 26, 3) := by decide +kernel
theorem dX4_init_33 : decode cX4_init 33 = .ok (.return_, 1) := by decide +kernel
theorem dX4_size_0 : decode cX4_size 0 = .ok (.aload_n 0, 1) := by decide +kernel
theorem dX4_size_1 : decode cX4_size 1 = .ok (.getfield 22, 3) := by decide +kernel
theorem dX4_size_4 : decode cX4_size 4 = .ok (.ireturn, 1) := by decide +kernel
theorem dX4_clear_0 : decode cX4_clear 0 = .ok (.aload_n 0, 1) := by decide +kernel
theorem dX4_clear_1 : decode cX4_clear 1 = .ok (.iconst 0, 1) := by decide +kernel
theorem dX4_clear_2 : decode cX4_clear 2 = .ok (.putfield 22, 3) := by decide +kernel
theorem dX4_clear_5 : decode cX4_clear 5 = .ok (.return_, 1) := by decide +kernel
theorem dX4_add_0 : decode cX4_add 0 = .ok (.aload_n 0, 1) := by decide +kernel
theorem dX4_add_1 : decode cX4_add 1 = .ok (.getfield 22, 3) := by decide +kernel
theorem dX4_add_4 : decode cX4_add 4 = .ok (.ifCond .lt 12, 3) := by decide +kernel
theorem dX4_add_7 : decode cX4_add 7 = .ok (.aload_n 0, 1) := by decide +kernel
theorem dX4_add_8 : decode cX4_add 8 = .ok (.getfield 22, 3) := by decide +kernel
theorem dX4_add_11 : decode cX4_add 11 = .ok (.bipush 64, 2) := by decide +kernel
theorem dX4_add_13 : decode cX4_add 13 = .ok (.if_icmp .lt 5, 3) := by decide +kernel
theorem dX4_add_16 : decode cX4_add 16 = .ok (.iconst 0, 1) := by decide +kernel
theorem dX4_add_17 : decode cX4_add 17 = .ok (.ireturn, 1) := by decide +kernel
theorem dX4_add_18 : decode cX4_add 18 = .ok (.aload_n 0, 1) := by decide +kernel
theorem dX4_add_19 : decode cX4_add 19 = .ok (.getfield 9, 3) := by decide +kernel
theorem dX4_add_22 : decode cX4_add 22 = .ok (.aload_n 0, 1) := by decide +kernel
theorem dX4_add_23 : decode cX4_add 23 = .ok (.getfield 22, 3) := by decide +kernel
theorem dX4_add_26 : decode cX4_add 26 = .ok (.iload_n 1, 1) := by decide +kernel
theorem dX4_add_27 : decode cX4_add 27 = .ok (.iastore, 1) := by decide +kernel
theorem dX4_add_28 : decode cX4_add 28 = .ok (.aload_n 0, 1) := by decide +kernel
theorem dX4_add_29 : decode cX4_add 29 = .ok (.dup, 1) := by decide +kernel
theorem dX4_add_30 : decode cX4_add 30 = .ok (.getfield 22, 3) := by decide +kernel
theorem dX4_add_33 : decode cX4_add 33 = .ok (.iconst 1, 1) := by decide +kernel
theorem dX4_add_34 : decode cX4_add 34 = .ok (.iadd, 1) := by decide +kernel
theorem dX4_add_35 : decode cX4_add 35 = .ok (.putfield 22, 3) := by decide +kernel
theorem dX4_add_38 : decode cX4_add 38 = .ok (.iconst 1, 1) := by decide +kernel
theorem dX4_add_39 : decode cX4_add 39 = .ok (.ireturn, 1) := by decide +kernel
theorem dX4_firstFault_0 : decode cX4_firstFault 0 = .ok (.aload_n 0, 1) := by decide +kernel
theorem dX4_firstFault_1 : decode cX4_firstFault 1 = .ok (.getfield 18, 3) := by decide +kernel
theorem dX4_firstFault_4 : decode cX4_firstFault 4 = .ok (.invokevirtual 30, 3) := by decide +kernel
theorem dX4_firstFault_7 : decode cX4_firstFault 7 = .ok (.aload_n 0, 1) := by decide +kernel
theorem dX4_firstFault_8 : decode cX4_firstFault 8 = .ok (.lconst 0, 1) := by decide +kernel
theorem dX4_firstFault_9 : decode cX4_firstFault 9 = .ok (.putfield 26, 3) := by decide +kernel
theorem dX4_firstFault_12 : decode cX4_firstFault 12 = .ok (.iconst 0, 1) := by decide +kernel
theorem dX4_firstFault_13 : decode cX4_firstFault 13 = .ok (.istore_n 1, 1) := by decide +kernel
theorem dX4_firstFault_14 : decode cX4_firstFault 14 = .ok (.iload_n 1, 1) := by decide +kernel
theorem dX4_firstFault_15 : decode cX4_firstFault 15 = .ok (.aload_n 0, 1) := by decide +kernel
theorem dX4_firstFault_16 : decode cX4_firstFault 16 = .ok (.getfield 22, 3) := by decide +kernel
theorem dX4_firstFault_19 : decode cX4_firstFault 19 = .ok (.if_icmp .ge 30, 3) := by decide +kernel
theorem dX4_firstFault_22 : decode cX4_firstFault 22 = .ok (.iload_n 1, 1) := by decide +kernel
theorem dX4_firstFault_23 : decode cX4_firstFault 23 = .ok (.bipush 64, 2) := by decide +kernel
theorem dX4_firstFault_25 : decode cX4_firstFault 25 = .ok (.if_icmp .ge 24, 3) := by decide +kernel
theorem dX4_firstFault_28 : decode cX4_firstFault 28 = .ok (.aload_n 0, 1) := by decide +kernel
theorem dX4_firstFault_29 : decode cX4_firstFault 29 = .ok (.aload_n 0, 1) := by decide +kernel
theorem dX4_firstFault_30 : decode cX4_firstFault 30 = .ok (.getfield 9, 3) := by decide +kernel
theorem dX4_firstFault_33 : decode cX4_firstFault 33 = .ok (.iload_n 1, 1) := by decide +kernel
theorem dX4_firstFault_34 : decode cX4_firstFault 34 = .ok (.iaload, 1) := by decide +kernel
theorem dX4_firstFault_35 : decode cX4_firstFault 35 = .ok (.invokevirtual 33, 3) := by decide +kernel
theorem dX4_firstFault_38 : decode cX4_firstFault 38 = .ok (.ifCond .ne 5, 3) := by decide +kernel
theorem dX4_firstFault_41 : decode cX4_firstFault 41 = .ok (.iload_n 1, 1) := by decide +kernel
theorem dX4_firstFault_42 : decode cX4_firstFault 42 = .ok (.ireturn, 1) := by decide +kernel
theorem dX4_firstFault_43 : decode cX4_firstFault 43 = .ok (.iinc 1 1, 3) := by decide +kernel
theorem dX4_firstFault_46 : decode cX4_firstFault 46 = .ok (.goto (-32), 3) := by decide +kernel
theorem dX4_firstFault_49 : decode cX4_firstFault 49 = .ok (.aload_n 0, 1) := by decide +kernel
theorem dX4_firstFault_50 : decode cX4_firstFault 50 = .ok (.getfield 18, 3) := by decide +kernel
theorem dX4_firstFault_53 : decode cX4_firstFault 53 = .ok (.invokevirtual 37, 3) := by decide +kernel
theorem dX4_firstFault_56 : decode cX4_firstFault 56 = .ok (.ifCond .eq 8, 3) := by decide +kernel
theorem dX4_firstFault_59 : decode cX4_firstFault 59 = .ok (.bipush (-9), 2) := by decide +kernel
theorem dX4_firstFault_61 : decode cX4_firstFault 61 = .ok (.goto 7, 3) := by decide +kernel
theorem dX4_firstFault_64 : decode cX4_firstFault 64 = .ok (.aload_n 0, 1) := by decide +kernel
theorem dX4_firstFault_65 : decode cX4_firstFault 65 = .ok (.getfield 22, 3) := by decide +kernel
theorem dX4_firstFault_68 : decode cX4_firstFault 68 = .ok (.ireturn, 1) := by decide +kernel
theorem dX4_drawn_0 : decode cX4_drawn 0 = .ok (.aload_n 0, 1) := by decide +kernel
theorem dX4_drawn_1 : decode cX4_drawn 1 = .ok (.getfield 26, 3) := by decide +kernel
theorem dX4_drawn_4 : decode cX4_drawn 4 = .ok (.lreturn, 1) := by decide +kernel
theorem dX4_reads_0 : decode cX4_reads 0 = .ok (.aload_n 0, 1) := by decide +kernel
theorem dX4_reads_1 : decode cX4_reads 1 = .ok (.getfield 18, 3) := by decide +kernel
theorem dX4_reads_4 : decode cX4_reads 4 = .ok (.invokevirtual 37, 3) := by decide +kernel
theorem dX4_reads_7 : decode cX4_reads 7 = .ok (.ifCond .eq 5, 3) := by decide +kernel
theorem dX4_reads_10 : decode cX4_reads 10 = .ok (.iconst 0, 1) := by decide +kernel
theorem dX4_reads_11 : decode cX4_reads 11 = .ok (.ireturn, 1) := by decide +kernel
theorem dX4_reads_12 : decode cX4_reads 12 = .ok (.iload_n 1, 1) := by decide +kernel
theorem dX4_reads_13 : decode cX4_reads 13 = .ok (.bipush 113, 2) := by decide +kernel
theorem dX4_reads_15 : decode cX4_reads 15 = .ok (.if_icmp .ne 11, 3) := by decide +kernel
theorem dX4_reads_18 : decode cX4_reads 18 = .ok (.aload_n 0, 1) := by decide +kernel
theorem dX4_reads_19 : decode cX4_reads 19 = .ok (.getfield 18, 3) := by decide +kernel
theorem dX4_reads_22 : decode cX4_reads 22 = .ok (.invokevirtual 41, 3) := by decide +kernel
theorem dX4_reads_25 : decode cX4_reads 25 = .ok (.ireturn, 1) := by decide +kernel
theorem dX4_reads_26 : decode cX4_reads 26 = .ok (.iload_n 1, 1) := by decide +kernel
theorem dX4_reads_27 : decode cX4_reads 27 = .ok (.invokestatic 44, 3) := by decide +kernel
theorem dX4_reads_30 : decode cX4_reads 30 = .ok (.ifCond .ne 5, 3) := by decide +kernel
theorem dX4_reads_33 : decode cX4_reads 33 = .ok (.iconst 0, 1) := by decide +kernel
theorem dX4_reads_34 : decode cX4_reads 34 = .ok (.ireturn, 1) := by decide +kernel
theorem dX4_reads_35 : decode cX4_reads 35 = .ok (.aload_n 0, 1) := by decide +kernel
theorem dX4_reads_36 : decode cX4_reads 36 = .ok (.dup, 1) := by decide +kernel
theorem dX4_reads_37 : decode cX4_reads 37 = .ok (.getfield 26, 3) := by decide +kernel
theorem dX4_reads_40 : decode cX4_reads 40 = .ok (.aload_n 0, 1) := by decide +kernel
theorem dX4_reads_41 : decode cX4_reads 41 = .ok (.getfield 18, 3) := by decide +kernel
theorem dX4_reads_44 : decode cX4_reads 44 = .ok (.invokevirtual 49, 3) := by decide +kernel
theorem dX4_reads_47 : decode cX4_reads 47 = .ok (.iload_n 1, 1) := by decide +kernel
theorem dX4_reads_48 : decode cX4_reads 48 = .ok (.invokestatic 53, 3) := by decide +kernel
theorem dX4_reads_51 : decode cX4_reads 51 = .ok (.land, 1) := by decide +kernel
theorem dX4_reads_52 : decode cX4_reads 52 = .ok (.lor, 1) := by decide +kernel
theorem dX4_reads_53 : decode cX4_reads 53 = .ok (.putfield 26, 3) := by decide +kernel
theorem dX4_reads_56 : decode cX4_reads 56 = .ok (.aload_n 0, 1) := by decide +kernel
theorem dX4_reads_57 : decode cX4_reads 57 = .ok (.getfield 18, 3) := by decide +kernel
theorem dX4_reads_60 : decode cX4_reads 60 = .ok (.invokevirtual 57, 3) := by decide +kernel
theorem dX4_reads_63 : decode cX4_reads 63 = .ok (.iconst 1, 1) := by decide +kernel
theorem dX4_reads_64 : decode cX4_reads 64 = .ok (.ireturn, 1) := by decide +kernel
theorem dX5_init_0 : decode cX5_init 0 = .ok (.aload_n 0, 1) := by decide +kernel
theorem dX5_init_1 : decode cX5_init 1 = .ok (.invokespecial 3, 3) := by decide +kernel
theorem dX5_init_4 : decode cX5_init 4 = .ok (.aload_n 0, 1) := by decide +kernel
theorem dX5_init_5 : decode cX5_init 5 = .ok (.iconst 0, 1) := by decide +kernel
theorem dX5_init_6 : decode cX5_init 6 = .ok (.putfield 9, 3) := by decide +kernel
theorem dX5_init_9 : decode cX5_init 9 = .ok (.aload_n 0, 1) := by decide +kernel
theorem dX5_init_10 : decode cX5_init 10 = .ok (.iconst 0, 1) := by decide +kernel
theorem dX5_init_11 : decode cX5_init 11 = .ok (.putfield 15, 3) := by decide +kernel
theorem dX5_init_14 : decode cX5_init 14 = .ok (.return_, 1) := by decide +kernel
theorem dX5_start_0 : decode cX5_start 0 = .ok (.aload_n 0, 1) := by decide +kernel
theorem dX5_start_1 : decode cX5_start 1 = .ok (.iconst 0, 1) := by decide +kernel
theorem dX5_start_2 : decode cX5_start 2 = .ok (.putfield 9, 3) := by decide +kernel
theorem dX5_start_5 : decode cX5_start 5 = .ok (.aload_n 0, 1) := by decide +kernel
theorem dX5_start_6 : decode cX5_start 6 = .ok (.iconst 0, 1) := by decide +kernel
theorem dX5_start_7 : decode cX5_start 7 = .ok (.putfield 15, 3) := by decide +kernel
theorem dX5_start_10 : decode cX5_start 10 = .ok (.return_, 1) := by decide +kernel
theorem dX5_hasEnded_0 : decode cX5_hasEnded 0 = .ok (.aload_n 0, 1) := by decide +kernel
theorem dX5_hasEnded_1 : decode cX5_hasEnded 1 = .ok (.getfield 9, 3) := by decide +kernel
theorem dX5_hasEnded_4 : decode cX5_hasEnded 4 = .ok (.bipush 64, 2) := by decide +kernel
theorem dX5_hasEnded_6 : decode cX5_hasEnded 6 = .ok (.if_icmp .lt 7, 3) := by decide +kernel
theorem dX5_hasEnded_9 : decode cX5_hasEnded 9 = .ok (.iconst 1, 1) := by decide +kernel
theorem dX5_hasEnded_10 : decode cX5_hasEnded 10 = .ok (.goto 4, 3) := by decide +kernel
theorem dX5_hasEnded_13 : decode cX5_hasEnded 13 = .ok (.iconst 0, 1) := by decide +kernel
theorem dX5_hasEnded_14 : decode cX5_hasEnded 14 = .ok (.ireturn, 1) := by decide +kernel
theorem dX5_square_0 : decode cX5_square 0 = .ok (.aload_n 0, 1) := by decide +kernel
theorem dX5_square_1 : decode cX5_square 1 = .ok (.invokevirtual 18, 3) := by decide +kernel
theorem dX5_square_4 : decode cX5_square 4 = .ok (.aload_n 0, 1) := by decide +kernel
theorem dX5_square_5 : decode cX5_square 5 = .ok (.getfield 15, 3) := by decide +kernel
theorem dX5_square_8 : decode cX5_square 8 = .ok (.invokestatic 22, 3) := by decide +kernel
theorem dX5_square_11 : decode cX5_square 11 = .ok (.lreturn, 1) := by decide +kernel
theorem dX5_cut_0 : decode cX5_cut 0 = .ok (.aload_n 0, 1) := by decide +kernel
theorem dX5_cut_1 : decode cX5_cut 1 = .ok (.getfield 15, 3) := by decide +kernel
theorem dX5_cut_4 : decode cX5_cut 4 = .ok (.iconst 3, 1) := by decide +kernel
theorem dX5_cut_5 : decode cX5_cut 5 = .ok (.if_icmp .lt 5, 3) := by decide +kernel
theorem dX5_cut_8 : decode cX5_cut 8 = .ok (.iconst 0, 1) := by decide +kernel
theorem dX5_cut_9 : decode cX5_cut 9 = .ok (.ireturn, 1) := by decide +kernel
theorem dX5_cut_10 : decode cX5_cut 10 = .ok (.aload_n 0, 1) := by decide +kernel
theorem dX5_cut_11 : decode cX5_cut 11 = .ok (.dup, 1) := by decide +kernel
theorem dX5_cut_12 : decode cX5_cut 12 = .ok (.getfield 15, 3) := by decide +kernel
theorem dX5_cut_15 : decode cX5_cut 15 = .ok (.iconst 1, 1) := by decide +kernel
theorem dX5_cut_16 : decode cX5_cut 16 = .ok (.iadd, 1) := by decide +kernel
theorem dX5_cut_17 : decode cX5_cut 17 = .ok (.putfield 15, 3) := by decide +kernel
theorem dX5_cut_20 : decode cX5_cut 20 = .ok (.iconst 1, 1) := by decide +kernel
theorem dX5_cut_21 : decode cX5_cut 21 = .ok (.ireturn, 1) := by decide +kernel
theorem dX5_pass_0 : decode cX5_pass 0 = .ok (.aload_n 0, 1) := by decide +kernel
theorem dX5_pass_1 : decode cX5_pass 1 = .ok (.dup, 1) := by decide +kernel
theorem dX5_pass_2 : decode cX5_pass 2 = .ok (.getfield 9, 3) := by decide +kernel
theorem dX5_pass_5 : decode cX5_pass 5 = .ok (.aload_n 0, 1) := by decide +kernel
theorem dX5_pass_6 : decode cX5_pass 6 = .ok (.getfield 15, 3) := by decide +kernel
theorem dX5_pass_9 : decode cX5_pass 9 = .ok (.invokestatic 28, 3) := by decide +kernel
theorem dX5_pass_12 : decode cX5_pass 12 = .ok (.iadd, 1) := by decide +kernel
theorem dX5_pass_13 : decode cX5_pass 13 = .ok (.putfield 9, 3) := by decide +kernel
theorem dX5_pass_16 : decode cX5_pass 16 = .ok (.aload_n 0, 1) := by decide +kernel
theorem dX5_pass_17 : decode cX5_pass 17 = .ok (.getfield 15, 3) := by decide +kernel
theorem dX5_pass_20 : decode cX5_pass 20 = .ok (.ifCond .le 35, 3) := by decide +kernel
theorem dX5_pass_23 : decode cX5_pass 23 = .ok (.aload_n 0, 1) := by decide +kernel
theorem dX5_pass_24 : decode cX5_pass 24 = .ok (.getfield 9, 3) := by decide +kernel
theorem dX5_pass_27 : decode cX5_pass 27 = .ok (.aload_n 0, 1) := by decide +kernel
theorem dX5_pass_28 : decode cX5_pass 28 = .ok (.getfield 15, 3) := by decide +kernel
theorem dX5_pass_31 : decode cX5_pass 31 = .ok (.iconst 1, 1) := by decide +kernel
theorem dX5_pass_32 : decode cX5_pass 32 = .ok (.isub, 1) := by decide +kernel
theorem dX5_pass_33 : decode cX5_pass 33 = .ok (.invokestatic 28, 3) := by decide +kernel
theorem dX5_pass_36 : decode cX5_pass 36 = .ok (.iconst 1, 1) := by decide +kernel
theorem dX5_pass_37 : decode cX5_pass 37 = .ok (.isub, 1) := by decide +kernel
theorem dX5_pass_38 : decode cX5_pass 38 = .ok (.iand, 1) := by decide +kernel
theorem dX5_pass_39 : decode cX5_pass 39 = .ok (.ifCond .ne 16, 3) := by decide +kernel
theorem dX5_pass_42 : decode cX5_pass 42 = .ok (.aload_n 0, 1) := by decide +kernel
theorem dX5_pass_43 : decode cX5_pass 43 = .ok (.dup, 1) := by decide +kernel
theorem dX5_pass_44 : decode cX5_pass 44 = .ok (.getfield 15, 3) := by decide +kernel
theorem dX5_pass_47 : decode cX5_pass 47 = .ok (.iconst 1, 1) := by decide +kernel
theorem dX5_pass_48 : decode cX5_pass 48 = .ok (.isub, 1) := by decide +kernel
theorem dX5_pass_49 : decode cX5_pass 49 = .ok (.putfield 15, 3) := by decide +kernel
theorem dX5_pass_52 : decode cX5_pass 52 = .ok (.goto (-36), 3) := by decide +kernel
theorem dX5_pass_55 : decode cX5_pass 55 = .ok (.return_, 1) := by decide +kernel
theorem dX5_sizeAt_0 : decode cX5_sizeAt 0 = .ok (.bipush 64, 2) := by decide +kernel
theorem dX5_sizeAt_2 : decode cX5_sizeAt 2 = .ok (.iconst 2, 1) := by decide +kernel
theorem dX5_sizeAt_3 : decode cX5_sizeAt 3 = .ok (.iload_n 0, 1) := by decide +kernel
theorem dX5_sizeAt_4 : decode cX5_sizeAt 4 = .ok (.imul, 1) := by decide +kernel
theorem dX5_sizeAt_5 : decode cX5_sizeAt 5 = .ok (.ishr, 1) := by decide +kernel
theorem dX5_sizeAt_6 : decode cX5_sizeAt 6 = .ok (.ireturn, 1) := by decide +kernel
theorem dX5_leastLength_0 : decode cX5_leastLength 0 = .ok (.aload_n 0, 1) := by decide +kernel
theorem dX5_leastLength_1 : decode cX5_leastLength 1 = .ok (.invokevirtual 32, 3) := by decide +kernel
theorem dX5_leastLength_4 : decode cX5_leastLength 4 = .ok (.iconst 0, 1) := by decide +kernel
theorem dX5_leastLength_5 : decode cX5_leastLength 5 = .ok (.istore_n 3, 1) := by decide +kernel
theorem dX5_leastLength_6 : decode cX5_leastLength 6 = .ok (.iload_n 3, 1) := by decide +kernel
theorem dX5_leastLength_7 : decode cX5_leastLength 7 = .ok (.bipush 85, 2) := by decide +kernel
theorem dX5_leastLength_9 : decode cX5_leastLength 9 = .ok (.if_icmp .ge 21, 3) := by decide +kernel
theorem dX5_leastLength_12 : decode cX5_leastLength 12 = .ok (.aload_n 0, 1) := by decide +kernel
theorem dX5_leastLength_13 : decode cX5_leastLength 13 = .ok (.invokevirtual 35, 3) := by decide +kernel
theorem dX5_leastLength_16 : decode cX5_leastLength 16 = .ok (.ifCond .ne 14, 3) := by decide +kernel
theorem dX5_leastLength_19 : decode cX5_leastLength 19 = .ok (.aload_n 0, 1) := by decide +kernel
theorem dX5_leastLength_20 : decode cX5_leastLength 20 = .ok (.lload_n 1, 1) := by decide +kernel
theorem dX5_leastLength_21 : decode cX5_leastLength 21 = .ok (.invokevirtual 39, 3) := by decide +kernel
theorem dX5_leastLength_24 : decode cX5_leastLength 24 = .ok (.iinc 3 1, 3) := by decide +kernel
theorem dX5_leastLength_27 : decode cX5_leastLength 27 = .ok (.goto (-21), 3) := by decide +kernel
theorem dX5_leastLength_30 : decode cX5_leastLength 30 = .ok (.iload_n 3, 1) := by decide +kernel
theorem dX5_leastLength_31 : decode cX5_leastLength 31 = .ok (.ireturn, 1) := by decide +kernel
theorem dX5_leastLetter_0 : decode cX5_leastLetter 0 = .ok (.iload_n 3, 1) := by decide +kernel
theorem dX5_leastLetter_1 : decode cX5_leastLetter 1 = .ok (.ifCond .lt 9, 3) := by decide +kernel
theorem dX5_leastLetter_4 : decode cX5_leastLetter 4 = .ok (.iload_n 3, 1) := by decide +kernel
theorem dX5_leastLetter_5 : decode cX5_leastLetter 5 = .ok (.bipush 85, 2) := by decide +kernel
theorem dX5_leastLetter_7 : decode cX5_leastLetter 7 = .ok (.if_icmp .lt 6, 3) := by decide +kernel
theorem dX5_leastLetter_10 : decode cX5_leastLetter 10 = .ok (.bipush (-9), 2) := by decide +kernel
theorem dX5_leastLetter_12 : decode cX5_leastLetter 12 = .ok (.ireturn, 1) := by decide +kernel
theorem dX5_leastLetter_13 : decode cX5_leastLetter 13 = .ok (.aload_n 0, 1) := by decide +kernel
theorem dX5_leastLetter_14 : decode cX5_leastLetter 14 = .ok (.invokevirtual 32, 3) := by decide +kernel
theorem dX5_leastLetter_17 : decode cX5_leastLetter 17 = .ok (.iconst 0, 1) := by decide +kernel
theorem dX5_leastLetter_18 : decode cX5_leastLetter 18 = .ok (.istore 4, 2) := by decide +kernel
theorem dX5_leastLetter_20 : decode cX5_leastLetter 20 = .ok (.iload 4, 2) := by decide +kernel
theorem dX5_leastLetter_22 : decode cX5_leastLetter 22 = .ok (.iload_n 3, 1) := by decide +kernel
theorem dX5_leastLetter_23 : decode cX5_leastLetter 23 = .ok (.if_icmp .ge 21, 3) := by decide +kernel
theorem dX5_leastLetter_26 : decode cX5_leastLetter 26 = .ok (.aload_n 0, 1) := by decide +kernel
theorem dX5_leastLetter_27 : decode cX5_leastLetter 27 = .ok (.invokevirtual 35, 3) := by decide +kernel
theorem dX5_leastLetter_30 : decode cX5_leastLetter 30 = .ok (.ifCond .ne 14, 3) := by decide +kernel
theorem dX5_leastLetter_33 : decode cX5_leastLetter 33 = .ok (.aload_n 0, 1) := by decide +kernel
theorem dX5_leastLetter_34 : decode cX5_leastLetter 34 = .ok (.lload_n 1, 1) := by decide +kernel
theorem dX5_leastLetter_35 : decode cX5_leastLetter 35 = .ok (.invokevirtual 39, 3) := by decide +kernel
theorem dX5_leastLetter_38 : decode cX5_leastLetter 38 = .ok (.iinc 4 1, 3) := by decide +kernel
theorem dX5_leastLetter_41 : decode cX5_leastLetter 41 = .ok (.goto (-21), 3) := by decide +kernel
theorem dX5_leastLetter_44 : decode cX5_leastLetter 44 = .ok (.aload_n 0, 1) := by decide +kernel
theorem dX5_leastLetter_45 : decode cX5_leastLetter 45 = .ok (.invokevirtual 35, 3) := by decide +kernel
theorem dX5_leastLetter_48 : decode cX5_leastLetter 48 = .ok (.ifCond .eq 8, 3) := by decide +kernel
theorem dX5_leastLetter_51 : decode cX5_leastLetter 51 = .ok (.bipush (-9), 2) := by decide +kernel
theorem dX5_leastLetter_53 : decode cX5_leastLetter 53 = .ok (.goto 11, 3) := by decide +kernel
theorem dX5_leastLetter_56 : decode cX5_leastLetter 56 = .ok (.lload_n 1, 1) := by decide +kernel
theorem dX5_leastLetter_57 : decode cX5_leastLetter 57 = .ok (.aload_n 0, 1) := by decide +kernel
theorem dX5_leastLetter_58 : decode cX5_leastLetter 58 = .ok (.invokevirtual 43, 3) := by decide +kernel
theorem dX5_leastLetter_61 : decode cX5_leastLetter 61 = .ok (.invokestatic 47, 3) := by decide +kernel
theorem dX5_leastLetter_64 : decode cX5_leastLetter 64 = .ok (.ireturn, 1) := by decide +kernel
theorem dX5_step_0 : decode cX5_step 0 = .ok (.lload_n 1, 1) := by decide +kernel
theorem dX5_step_1 : decode cX5_step 1 = .ok (.aload_n 0, 1) := by decide +kernel
theorem dX5_step_2 : decode cX5_step 2 = .ok (.invokevirtual 43, 3) := by decide +kernel
theorem dX5_step_5 : decode cX5_step 5 = .ok (.invokestatic 47, 3) := by decide +kernel
theorem dX5_step_8 : decode cX5_step 8 = .ok (.bipush 113, 2) := by decide +kernel
theorem dX5_step_10 : decode cX5_step 10 = .ok (.if_icmp .ne 10, 3) := by decide +kernel
theorem dX5_step_13 : decode cX5_step 13 = .ok (.aload_n 0, 1) := by decide +kernel
theorem dX5_step_14 : decode cX5_step 14 = .ok (.invokevirtual 51, 3) := by decide +kernel
theorem dX5_step_17 : decode cX5_step 17 = .ok (.ifCond .ne 7, 3) := by decide +kernel
theorem dX5_step_20 : decode cX5_step 20 = .ok (.aload_n 0, 1) := by decide +kernel
theorem dX5_step_21 : decode cX5_step 21 = .ok (.invokevirtual 54, 3) := by decide +kernel
theorem dX5_step_24 : decode cX5_step 24 = .ok (.return_, 1) := by decide +kernel
theorem dX5_cell_0 : decode cX5_cell 0 = .ok (.aload_n 0, 1) := by decide +kernel
theorem dX5_cell_1 : decode cX5_cell 1 = .ok (.getfield 9, 3) := by decide +kernel
theorem dX5_cell_4 : decode cX5_cell 4 = .ok (.iconst 1, 1) := by decide +kernel
theorem dX5_cell_5 : decode cX5_cell 5 = .ok (.iand, 1) := by decide +kernel
theorem dX5_cell_6 : decode cX5_cell 6 = .ok (.aload_n 0, 1) := by decide +kernel
theorem dX5_cell_7 : decode cX5_cell 7 = .ok (.getfield 9, 3) := by decide +kernel
theorem dX5_cell_10 : decode cX5_cell 10 = .ok (.iconst 1, 1) := by decide +kernel
theorem dX5_cell_11 : decode cX5_cell 11 = .ok (.ishr, 1) := by decide +kernel
theorem dX5_cell_12 : decode cX5_cell 12 = .ok (.iconst 2, 1) := by decide +kernel
theorem dX5_cell_13 : decode cX5_cell 13 = .ok (.iand, 1) := by decide +kernel
theorem dX5_cell_14 : decode cX5_cell 14 = .ok (.ior, 1) := by decide +kernel
theorem dX5_cell_15 : decode cX5_cell 15 = .ok (.aload_n 0, 1) := by decide +kernel
theorem dX5_cell_16 : decode cX5_cell 16 = .ok (.getfield 9, 3) := by decide +kernel
theorem dX5_cell_19 : decode cX5_cell 19 = .ok (.iconst 2, 1) := by decide +kernel
theorem dX5_cell_20 : decode cX5_cell 20 = .ok (.ishr, 1) := by decide +kernel
theorem dX5_cell_21 : decode cX5_cell 21 = .ok (.iconst 4, 1) := by decide +kernel
theorem dX5_cell_22 : decode cX5_cell 22 = .ok (.iand, 1) := by decide +kernel
theorem dX5_cell_23 : decode cX5_cell 23 = .ok (.ior, 1) := by decide +kernel
theorem dX5_cell_24 : decode cX5_cell 24 = .ok (.istore_n 1, 1) := by decide +kernel
theorem dX5_cell_25 : decode cX5_cell 25 = .ok (.aload_n 0, 1) := by decide +kernel
theorem dX5_cell_26 : decode cX5_cell 26 = .ok (.getfield 9, 3) := by decide +kernel
theorem dX5_cell_29 : decode cX5_cell 29 = .ok (.iconst 1, 1) := by decide +kernel
theorem dX5_cell_30 : decode cX5_cell 30 = .ok (.ishr, 1) := by decide +kernel
theorem dX5_cell_31 : decode cX5_cell 31 = .ok (.iconst 1, 1) := by decide +kernel
theorem dX5_cell_32 : decode cX5_cell 32 = .ok (.iand, 1) := by decide +kernel
theorem dX5_cell_33 : decode cX5_cell 33 = .ok (.aload_n 0, 1) := by decide +kernel
theorem dX5_cell_34 : decode cX5_cell 34 = .ok (.getfield 9, 3) := by decide +kernel
theorem dX5_cell_37 : decode cX5_cell 37 = .ok (.iconst 2, 1) := by decide +kernel
theorem dX5_cell_38 : decode cX5_cell 38 = .ok (.ishr, 1) := by decide +kernel
theorem dX5_cell_39 : decode cX5_cell 39 = .ok (.iconst 2, 1) := by decide +kernel
theorem dX5_cell_40 : decode cX5_cell 40 = .ok (.iand, 1) := by decide +kernel
theorem dX5_cell_41 : decode cX5_cell 41 = .ok (.ior, 1) := by decide +kernel
theorem dX5_cell_42 : decode cX5_cell 42 = .ok (.aload_n 0, 1) := by decide +kernel
theorem dX5_cell_43 : decode cX5_cell 43 = .ok (.getfield 9, 3) := by decide +kernel
theorem dX5_cell_46 : decode cX5_cell 46 = .ok (.iconst 3, 1) := by decide +kernel
theorem dX5_cell_47 : decode cX5_cell 47 = .ok (.ishr, 1) := by decide +kernel
theorem dX5_cell_48 : decode cX5_cell 48 = .ok (.iconst 4, 1) := by decide +kernel
theorem dX5_cell_49 : decode cX5_cell 49 = .ok (.iand, 1) := by decide +kernel
theorem dX5_cell_50 : decode cX5_cell 50 = .ok (.ior, 1) := by decide +kernel
theorem dX5_cell_51 : decode cX5_cell 51 = .ok (.istore_n 2, 1) := by decide +kernel
theorem dX5_cell_52 : decode cX5_cell 52 = .ok (.bipush 8, 2) := by decide +kernel
theorem dX5_cell_54 : decode cX5_cell 54 = .ok (.iload_n 2, 1) := by decide +kernel
theorem dX5_cell_55 : decode cX5_cell 55 = .ok (.imul, 1) := by decide +kernel
theorem dX5_cell_56 : decode cX5_cell 56 = .ok (.iload_n 1, 1) := by decide +kernel
theorem dX5_cell_57 : decode cX5_cell 57 = .ok (.iadd, 1) := by decide +kernel
theorem dX5_cell_58 : decode cX5_cell 58 = .ok (.ireturn, 1) := by decide +kernel
theorem dJ13_bitCount_95d88_0 : decode cJ13_bitCount_95d88 0 = .ok (.lload_n 0, 1) := by decide +kernel
theorem dJ13_bitCount_95d88_1 : decode cJ13_bitCount_95d88 1 = .ok (.lload_n 0, 1) := by decide +kernel
theorem dJ13_bitCount_95d88_2 : decode cJ13_bitCount_95d88 2 = .ok (.iconst 1, 1) := by decide +kernel
theorem dJ13_bitCount_95d88_3 : decode cJ13_bitCount_95d88 3 = .ok (.lushr, 1) := by decide +kernel
theorem dJ13_bitCount_95d88_4 : decode cJ13_bitCount_95d88 4 = .ok (.ldc2_w 314, 3) := by decide +kernel
theorem dJ13_bitCount_95d88_7 : decode cJ13_bitCount_95d88 7 = .ok (.land, 1) := by decide +kernel
theorem dJ13_bitCount_95d88_8 : decode cJ13_bitCount_95d88 8 = .ok (.lsub, 1) := by decide +kernel
theorem dJ13_bitCount_95d88_9 : decode cJ13_bitCount_95d88 9 = .ok (.lstore_n 0, 1) := by decide +kernel
theorem dJ13_bitCount_95d88_10 : decode cJ13_bitCount_95d88 10 = .ok (.lload_n 0, 1) := by decide +kernel
theorem dJ13_bitCount_95d88_11 : decode cJ13_bitCount_95d88 11 = .ok (.ldc2_w 316, 3) := by decide +kernel
theorem dJ13_bitCount_95d88_14 : decode cJ13_bitCount_95d88 14 = .ok (.land, 1) := by decide +kernel
theorem dJ13_bitCount_95d88_15 : decode cJ13_bitCount_95d88 15 = .ok (.lload_n 0, 1) := by decide +kernel
theorem dJ13_bitCount_95d88_16 : decode cJ13_bitCount_95d88 16 = .ok (.iconst 2, 1) := by decide +kernel
theorem dJ13_bitCount_95d88_17 : decode cJ13_bitCount_95d88 17 = .ok (.lushr, 1) := by decide +kernel
theorem dJ13_bitCount_95d88_18 : decode cJ13_bitCount_95d88 18 = .ok (.ldc2_w 316, 3) := by decide +kernel
theorem dJ13_bitCount_95d88_21 : decode cJ13_bitCount_95d88 21 = .ok (.land, 1) := by decide +kernel
theorem dJ13_bitCount_95d88_22 : decode cJ13_bitCount_95d88 22 = .ok (.ladd, 1) := by decide +kernel
theorem dJ13_bitCount_95d88_23 : decode cJ13_bitCount_95d88 23 = .ok (.lstore_n 0, 1) := by decide +kernel
theorem dJ13_bitCount_95d88_24 : decode cJ13_bitCount_95d88 24 = .ok (.lload_n 0, 1) := by decide +kernel
theorem dJ13_bitCount_95d88_25 : decode cJ13_bitCount_95d88 25 = .ok (.lload_n 0, 1) := by decide +kernel
theorem dJ13_bitCount_95d88_26 : decode cJ13_bitCount_95d88 26 = .ok (.iconst 4, 1) := by decide +kernel
theorem dJ13_bitCount_95d88_27 : decode cJ13_bitCount_95d88 27 = .ok (.lushr, 1) := by decide +kernel
theorem dJ13_bitCount_95d88_28 : decode cJ13_bitCount_95d88 28 = .ok (.ladd, 1) := by decide +kernel
theorem dJ13_bitCount_95d88_29 : decode cJ13_bitCount_95d88 29 = .ok (.ldc2_w 318, 3) := by decide +kernel
theorem dJ13_bitCount_95d88_32 : decode cJ13_bitCount_95d88 32 = .ok (.land, 1) := by decide +kernel
theorem dJ13_bitCount_95d88_33 : decode cJ13_bitCount_95d88 33 = .ok (.lstore_n 0, 1) := by decide +kernel
theorem dJ13_bitCount_95d88_34 : decode cJ13_bitCount_95d88 34 = .ok (.lload_n 0, 1) := by decide +kernel
theorem dJ13_bitCount_95d88_35 : decode cJ13_bitCount_95d88 35 = .ok (.lload_n 0, 1) := by decide +kernel
theorem dJ13_bitCount_95d88_36 : decode cJ13_bitCount_95d88 36 = .ok (.bipush 8, 2) := by decide +kernel
theorem dJ13_bitCount_95d88_38 : decode cJ13_bitCount_95d88 38 = .ok (.lushr, 1) := by decide +kernel
theorem dJ13_bitCount_95d88_39 : decode cJ13_bitCount_95d88 39 = .ok (.ladd, 1) := by decide +kernel
theorem dJ13_bitCount_95d88_40 : decode cJ13_bitCount_95d88 40 = .ok (.lstore_n 0, 1) := by decide +kernel
theorem dJ13_bitCount_95d88_41 : decode cJ13_bitCount_95d88 41 = .ok (.lload_n 0, 1) := by decide +kernel
theorem dJ13_bitCount_95d88_42 : decode cJ13_bitCount_95d88 42 = .ok (.lload_n 0, 1) := by decide +kernel
theorem dJ13_bitCount_95d88_43 : decode cJ13_bitCount_95d88 43 = .ok (.bipush 16, 2) := by decide +kernel
theorem dJ13_bitCount_95d88_45 : decode cJ13_bitCount_95d88 45 = .ok (.lushr, 1) := by decide +kernel
theorem dJ13_bitCount_95d88_46 : decode cJ13_bitCount_95d88 46 = .ok (.ladd, 1) := by decide +kernel
theorem dJ13_bitCount_95d88_47 : decode cJ13_bitCount_95d88 47 = .ok (.lstore_n 0, 1) := by decide +kernel
theorem dJ13_bitCount_95d88_48 : decode cJ13_bitCount_95d88 48 = .ok (.lload_n 0, 1) := by decide +kernel
theorem dJ13_bitCount_95d88_49 : decode cJ13_bitCount_95d88 49 = .ok (.lload_n 0, 1) := by decide +kernel
theorem dJ13_bitCount_95d88_50 : decode cJ13_bitCount_95d88 50 = .ok (.bipush 32, 2) := by decide +kernel
theorem dJ13_bitCount_95d88_52 : decode cJ13_bitCount_95d88 52 = .ok (.lushr, 1) := by decide +kernel
theorem dJ13_bitCount_95d88_53 : decode cJ13_bitCount_95d88 53 = .ok (.ladd, 1) := by decide +kernel
theorem dJ13_bitCount_95d88_54 : decode cJ13_bitCount_95d88 54 = .ok (.lstore_n 0, 1) := by decide +kernel
theorem dJ13_bitCount_95d88_55 : decode cJ13_bitCount_95d88 55 = .ok (.lload_n 0, 1) := by decide +kernel
theorem dJ13_bitCount_95d88_56 : decode cJ13_bitCount_95d88 56 = .ok (.l2i, 1) := by decide +kernel
theorem dJ13_bitCount_95d88_57 : decode cJ13_bitCount_95d88 57 = .ok (.bipush 127, 2) := by decide +kernel
theorem dJ13_bitCount_95d88_59 : decode cJ13_bitCount_95d88 59 = .ok (.iand, 1) := by decide +kernel
theorem dJ13_bitCount_95d88_60 : decode cJ13_bitCount_95d88 60 = .ok (.ireturn, 1) := by decide +kernel
theorem dJ9_min_7cf53_0 : decode cJ9_min_7cf53 0 = .ok (.iload_n 0, 1) := by decide +kernel
theorem dJ9_min_7cf53_1 : decode cJ9_min_7cf53 1 = .ok (.iload_n 1, 1) := by decide +kernel
theorem dJ9_min_7cf53_2 : decode cJ9_min_7cf53 2 = .ok (.if_icmp .gt 7, 3) := by decide +kernel
theorem dJ9_min_7cf53_5 : decode cJ9_min_7cf53 5 = .ok (.iload_n 0, 1) := by decide +kernel
theorem dJ9_min_7cf53_6 : decode cJ9_min_7cf53 6 = .ok (.goto 4, 3) := by decide +kernel
theorem dJ9_min_7cf53_9 : decode cJ9_min_7cf53 9 = .ok (.iload_n 1, 1) := by decide +kernel
theorem dJ9_min_7cf53_10 : decode cJ9_min_7cf53 10 = .ok (.ireturn, 1) := by decide +kernel
