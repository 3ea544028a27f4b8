theorem d_V_init_0 : decode c_V_init 0 = .ok (.aload_n 0, 1) := by decide +kernel
theorem d_V_init_1 : decode c_V_init 1 = .ok (.invokespecial 3, 3) := by decide +kernel
theorem d_V_init_4 : decode c_V_init 4 = .ok (.aload_n 0, 1) := by decide +kernel
theorem d_V_init_5 : decode c_V_init 5 = .ok (.bipush 40, 2) := by decide +kernel
theorem d_V_init_7 : decode c_V_init 7 = .ok (.bipush 80, 2) := by decide +kernel
theorem d_V_init_9 : decode c_V_init 9 = .ok (.iload_n 1, 1) := by decide +kernel
theorem d_V_init_10 : decode c_V_init 10 = .ok (.invokestatic 9, 3) := by decide +kernel
theorem d_V_init_13 : decode c_V_init 13 = .ok (.invokestatic 15, 3) := by decide +kernel
theorem d_V_init_16 : decode c_V_init 16 = .ok (.putfield 18, 3) := by decide +kernel
theorem d_V_init_19 : decode c_V_init 19 = .ok (.aload_n 0, 1) := by decide +kernel
theorem d_V_init_20 : decode c_V_init 20 = .ok (.new 22, 3) := by decide +kernel
theorem d_V_init_23 : decode c_V_init 23 = .ok (.dup, 1) := by decide +kernel
theorem d_V_init_24 : decode c_V_init 24 = .ok (.invokespecial 24, 3) := by decide +kernel
theorem d_V_init_27 : decode c_V_init 27 = .ok (.putfield 25, 3) := by decide +kernel
theorem d_V_init_30 : decode c_V_init 30 = .ok (.aload_n 0, 1) := by decide +kernel
theorem d_V_init_31 : decode c_V_init 31 = .ok (.new 29, 3) := by decide +kernel
theorem d_V_init_34 : decode c_V_init 34 = .ok (.dup, 1) := by decide +kernel
theorem d_V_init_35 : decode c_V_init 35 = .ok (.invokespecial 31, 3) := by decide +kernel
theorem d_V_init_38 : decode c_V_init 38 = .ok (.putfield 32, 3) := by decide +kernel
theorem d_V_init_41 : decode c_V_init 41 = .ok (.aload_n 0, 1) := by decide +kernel
theorem d_V_init_42 : decode c_V_init 42 = .ok (.new 36, 3) := by decide +kernel
theorem d_V_init_45 : decode c_V_init 45 = .ok (.dup, 1) := by decide +kernel
theorem d_V_init_46 : decode c_V_init 46 = .ok (.invokespecial 38, 3) := by decide +kernel
theorem d_V_init_49 : decode c_V_init 49 = .ok (.putfield 39, 3) := by decide +kernel
theorem d_V_init_52 : decode c_V_init 52 = .ok (.aload_n 0, 1) := by decide +kernel
theorem d_V_init_53 : decode c_V_init 53 = .ok (.iconst 0, 1) := by decide +kernel
theorem d_V_init_54 : decode c_V_init 54 = .ok (.putfield 43, 3) := by decide +kernel
theorem d_V_init_57 : decode c_V_init 57 = .ok (.return_, 1) := by decide +kernel
theorem d_D_init_0 : decode c_D_init 0 = .ok (.aload_n 0, 1) := by decide +kernel
theorem d_D_init_1 : decode c_D_init 1 = .ok (.invokespecial 3, 3) := by decide +kernel
theorem d_D_init_4 : decode c_D_init 4 = .ok (.aload_n 0, 1) := by decide +kernel
theorem d_D_init_5 : decode c_D_init 5 = .ok (.bipush 80, 2) := by decide +kernel
theorem d_D_init_7 : decode c_D_init 7 = .ok (.anewarray 9, 3) := by decide +kernel
theorem d_D_init_10 : decode c_D_init 10 = .ok (.putfield 11, 3) := by decide +kernel
theorem d_D_init_13 : decode c_D_init 13 = .ok (.iconst 0, 1) := by decide +kernel
theorem d_D_init_14 : decode c_D_init 14 = .ok (.istore_n 1, 1) := by decide +kernel
theorem d_D_init_15 : decode c_D_init 15 = .ok (.iload_n 1, 1) := by decide +kernel
theorem d_D_init_16 : decode c_D_init 16 = .ok (.aload_n 0, 1) := by decide +kernel
theorem d_D_init_17 : decode c_D_init 17 = .ok (.getfield 11, 3) := by decide +kernel
theorem d_D_init_20 : decode c_D_init 20 = .ok (.arraylength, 1) := by decide +kernel
theorem d_D_init_21 : decode c_D_init 21 = .ok (.if_icmp .ge 22, 3) := by decide +kernel
theorem d_D_init_24 : decode c_D_init 24 = .ok (.aload_n 0, 1) := by decide +kernel
theorem d_D_init_25 : decode c_D_init 25 = .ok (.getfield 11, 3) := by decide +kernel
theorem d_D_init_28 : decode c_D_init 28 = .ok (.iload_n 1, 1) := by decide +kernel
theorem d_D_init_29 : decode c_D_init 29 = .ok (.new 9, 3) := by decide +kernel
theorem d_D_init_32 : decode c_D_init 32 = .ok (.dup, 1) := by decide +kernel
theorem d_D_init_33 : decode c_D_init 33 = .ok (.invokespecial 17, 3) := by decide +kernel
theorem d_D_init_36 : decode c_D_init 36 = .ok (.aastore, 1) := by decide +kernel
theorem d_D_init_37 : decode c_D_init 37 = .ok (.iinc 1 1, 3) := by decide +kernel
theorem d_D_init_40 : decode c_D_init 40 = .ok (.goto (-25), 3) := by decide +kernel
theorem d_D_init_43 : decode c_D_init 43 = .ok (.aload_n 0, 1) := by decide +kernel
theorem d_D_init_44 : decode c_D_init 44 = .ok (.iconst 1, 1) := by decide +kernel
theorem d_D_init_45 : decode c_D_init 45 = .ok (.putfield 18, 3) := by decide +kernel
theorem d_D_init_48 : decode c_D_init 48 = .ok (.aload_n 0, 1) := by decide +kernel
theorem d_D_init_49 : decode c_D_init 49 = .ok (.iconst (-1), 1) := by decide +kernel
theorem d_D_init_50 : decode c_D_init 50 = .ok (.putfield 22, 3) := by decide +kernel
theorem d_D_init_53 : decode c_D_init 53 = .ok (.aload_n 0, 1) := by decide +kernel
theorem d_D_init_54 : decode c_D_init 54 = .ok (.iconst 0, 1) := by decide +kernel
theorem d_D_init_55 : decode c_D_init 55 = .ok (.putfield 26, 3) := by decide +kernel
theorem d_D_init_58 : decode c_D_init 58 = .ok (.return_, 1) := by decide +kernel
theorem d_P_init_0 : decode c_P_init 0 = .ok (.aload_n 0, 1) := by decide +kernel
theorem d_P_init_1 : decode c_P_init 1 = .ok (.invokespecial 3, 3) := by decide +kernel
theorem d_P_init_4 : decode c_P_init 4 = .ok (.return_, 1) := by decide +kernel
theorem d_C_init_0 : decode c_C_init 0 = .ok (.aload_n 0, 1) := by decide +kernel
theorem d_C_init_1 : decode c_C_init 1 = .ok (.invokespecial 3, 3) := by decide +kernel
theorem d_C_init_4 : decode c_C_init 4 = .ok (.aload_n 0, 1) := by decide +kernel
theorem d_C_init_5 : decode c_C_init 5 = .ok (.bipush 34, 2) := by decide +kernel
theorem d_C_init_7 : decode c_C_init 7 = .ok (.anewarray 9, 3) := by decide +kernel
theorem d_C_init_10 : decode c_C_init 10 = .ok (.putfield 11, 3) := by decide +kernel
theorem d_C_init_13 : decode c_C_init 13 = .ok (.iconst 0, 1) := by decide +kernel
theorem d_C_init_14 : decode c_C_init 14 = .ok (.istore_n 1, 1) := by decide +kernel
theorem d_C_init_15 : decode c_C_init 15 = .ok (.iload_n 1, 1) := by decide +kernel
theorem d_C_init_16 : decode c_C_init 16 = .ok (.aload_n 0, 1) := by decide +kernel
theorem d_C_init_17 : decode c_C_init 17 = .ok (.getfield 11, 3) := by decide +kernel
theorem d_C_init_20 : decode c_C_init 20 = .ok (.arraylength, 1) := by decide +kernel
theorem d_C_init_21 : decode c_C_init 21 = .ok (.if_icmp .ge 22, 3) := by decide +kernel
theorem d_C_init_24 : decode c_C_init 24 = .ok (.aload_n 0, 1) := by decide +kernel
theorem d_C_init_25 : decode c_C_init 25 = .ok (.getfield 11, 3) := by decide +kernel
theorem d_C_init_28 : decode c_C_init 28 = .ok (.iload_n 1, 1) := by decide +kernel
theorem d_C_init_29 : decode c_C_init 29 = .ok (.new 9, 3) := by decide +kernel
theorem d_C_init_32 : decode c_C_init 32 = .ok (.dup, 1) := by decide +kernel
theorem d_C_init_33 : decode c_C_init 33 = .ok (.invokespecial 17, 3) := by decide +kernel
theorem d_C_init_36 : decode c_C_init 36 = .ok (.aastore, 1) := by decide +kernel
theorem d_C_init_37 : decode c_C_init 37 = .ok (.iinc 1 1, 3) := by decide +kernel
theorem d_C_init_40 : decode c_C_init 40 = .ok (.goto (-25), 3) := by decide +kernel
theorem d_C_init_43 : decode c_C_init 43 = .ok (.aload_n 0, 1) := by decide +kernel
theorem d_C_init_44 : decode c_C_init 44 = .ok (.iconst 0, 1) := by decide +kernel
theorem d_C_init_45 : decode c_C_init 45 = .ok (.putfield 18, 3) := by decide +kernel
theorem d_C_init_48 : decode c_C_init 48 = .ok (.aload_n 0, 1) := by decide +kernel
theorem d_C_init_49 : decode c_C_init 49 = .ok (.iconst 0, 1) := by decide +kernel
theorem d_C_init_50 : decode c_C_init 50 = .ok (.putfield 22, 3) := by decide +kernel
theorem d_C_init_53 : decode c_C_init 53 = .ok (.return_, 1) := by decide +kernel
theorem d_R_init_0 : decode c_R_init 0 = .ok (.aload_n 0, 1) := by decide +kernel
theorem d_R_init_1 : decode c_R_init 1 = .ok (.invokespecial 3, 3) := by decide +kernel
theorem d_R_init_4 : decode c_R_init 4 = .ok (.aload_n 0, 1) := by decide +kernel
theorem d_R_init_5 : decode c_R_init 5 = .ok (.new 9, 3) := by decide +kernel
theorem d_R_init_8 : decode c_R_init 8 = .ok (.dup, 1) := by decide +kernel
theorem d_R_init_9 : decode c_R_init 9 = .ok (.invokespecial 11, 3) := by decide +kernel
theorem d_R_init_12 : decode c_R_init 12 = .ok (.putfield 12, 3) := by decide +kernel
theorem d_R_init_15 : decode c_R_init 15 = .ok (.aload_n 0, 1) := by decide +kernel
theorem d_R_init_16 : decode c_R_init 16 = .ok (.iconst (-1), 1) := by decide +kernel
theorem d_R_init_17 : decode c_R_init 17 = .ok (.putfield 18, 3) := by decide +kernel
theorem d_R_init_20 : decode c_R_init 20 = .ok (.aload_n 0, 1) := by decide +kernel
theorem d_R_init_21 : decode c_R_init 21 = .ok (.iconst 0, 1) := by decide +kernel
theorem d_R_init_22 : decode c_R_init 22 = .ok (.putfield 22, 3) := by decide +kernel
theorem d_R_init_25 : decode c_R_init 25 = .ok (.aload_n 0, 1) := by decide +kernel
theorem d_R_init_26 : decode c_R_init 26 = .ok (.iconst 0, 1) := by decide +kernel
theorem d_R_init_27 : decode c_R_init 27 = .ok (.putfield 25, 3) := by decide +kernel
theorem d_R_init_30 : decode c_R_init 30 = .ok (.aload_n 0, 1) := by decide +kernel
theorem d_R_init_31 : decode c_R_init 31 = .ok (.iconst 0, 1) := by decide +kernel
theorem d_R_init_32 : decode c_R_init 32 = .ok (.putfield 29, 3) := by decide +kernel
theorem d_R_init_35 : decode c_R_init 35 = .ok (.return_, 1) := by decide +kernel
theorem d_L_init_0 : decode c_L_init 0 = .ok (.aload_n 0, 1) := by decide +kernel
theorem d_L_init_1 : decode c_L_init 1 = .ok (.invokespecial 3, 3) := by decide +kernel
theorem d_L_init_4 : decode c_L_init 4 = .ok (.aload_n 0, 1) := by decide +kernel
theorem d_L_init_5 : decode c_L_init 5 = .ok (.new 9, 3) := by decide +kernel
theorem d_L_init_8 : decode c_L_init 8 = .ok (.dup, 1) := by decide +kernel
theorem d_L_init_9 : decode c_L_init 9 = .ok (.invokespecial 11, 3) := by decide +kernel
theorem d_L_init_12 : decode c_L_init 12 = .ok (.putfield 12, 3) := by decide +kernel
theorem d_L_init_15 : decode c_L_init 15 = .ok (.aload_n 0, 1) := by decide +kernel
theorem d_L_init_16 : decode c_L_init 16 = .ok (.new 9, 3) := by decide +kernel
theorem d_L_init_19 : decode c_L_init 19 = .ok (.dup, 1) := by decide +kernel
theorem d_L_init_20 : decode c_L_init 20 = .ok (.invokespecial 11, 3) := by decide +kernel
theorem d_L_init_23 : decode c_L_init 23 = .ok (.putfield 18, 3) := by decide +kernel
theorem d_L_init_26 : decode c_L_init 26 = .ok (.aload_n 0, 1) := by decide +kernel
theorem d_L_init_27 : decode c_L_init 27 = .ok (.iconst 0, 1) := by decide +kernel
theorem d_L_init_28 : decode c_L_init 28 = .ok (.putfield 21, 3) := by decide +kernel
theorem d_L_init_31 : decode c_L_init 31 = .ok (.return_, 1) := by decide +kernel
theorem d_V_begin_0 : decode c_V_begin 0 = .ok (.aload_n 0, 1) := by decide +kernel
theorem d_V_begin_1 : decode c_V_begin 1 = .ok (.getfield 25, 3) := by decide +kernel
theorem d_V_begin_4 : decode c_V_begin 4 = .ok (.invokevirtual 47, 3) := by decide +kernel
theorem d_V_begin_7 : decode c_V_begin 7 = .ok (.ifCond .eq 10, 3) := by decide +kernel
theorem d_V_begin_10 : decode c_V_begin 10 = .ok (.aload_n 0, 1) := by decide +kernel
theorem d_V_begin_11 : decode c_V_begin 11 = .ok (.getfield 43, 3) := by decide +kernel
theorem d_V_begin_14 : decode c_V_begin 14 = .ok (.ifCond .eq 5, 3) := by decide +kernel
theorem d_V_begin_17 : decode c_V_begin 17 = .ok (.iconst 0, 1) := by decide +kernel
theorem d_V_begin_18 : decode c_V_begin 18 = .ok (.ireturn, 1) := by decide +kernel
theorem d_V_begin_19 : decode c_V_begin 19 = .ok (.aload_n 0, 1) := by decide +kernel
theorem d_V_begin_20 : decode c_V_begin 20 = .ok (.iconst 1, 1) := by decide +kernel
theorem d_V_begin_21 : decode c_V_begin 21 = .ok (.putfield 43, 3) := by decide +kernel
theorem d_V_begin_24 : decode c_V_begin 24 = .ok (.iconst 1, 1) := by decide +kernel
theorem d_V_begin_25 : decode c_V_begin 25 = .ok (.ireturn, 1) := by decide +kernel
theorem d_D_isOn_0 : decode c_D_isOn 0 = .ok (.aload_n 0, 1) := by decide +kernel
theorem d_D_isOn_1 : decode c_D_isOn 1 = .ok (.getfield 18, 3) := by decide +kernel
theorem d_D_isOn_4 : decode c_D_isOn 4 = .ok (.ireturn, 1) := by decide +kernel
theorem d_V_end_0 : decode c_V_end 0 = .ok (.aload_n 0, 1) := by decide +kernel
theorem d_V_end_1 : decode c_V_end 1 = .ok (.getfield 25, 3) := by decide +kernel
theorem d_V_end_4 : decode c_V_end 4 = .ok (.invokevirtual 47, 3) := by decide +kernel
theorem d_V_end_7 : decode c_V_end 7 = .ok (.ifCond .eq 10, 3) := by decide +kernel
theorem d_V_end_10 : decode c_V_end 10 = .ok (.aload_n 0, 1) := by decide +kernel
theorem d_V_end_11 : decode c_V_end 11 = .ok (.getfield 43, 3) := by decide +kernel
theorem d_V_end_14 : decode c_V_end 14 = .ok (.ifCond .ne 5, 3) := by decide +kernel
theorem d_V_end_17 : decode c_V_end 17 = .ok (.iconst (-1), 1) := by decide +kernel
theorem d_V_end_18 : decode c_V_end 18 = .ok (.ireturn, 1) := by decide +kernel
theorem d_V_end_19 : decode c_V_end 19 = .ok (.aload_n 0, 1) := by decide +kernel
theorem d_V_end_20 : decode c_V_end 20 = .ok (.iconst 0, 1) := by decide +kernel
theorem d_V_end_21 : decode c_V_end 21 = .ok (.putfield 43, 3) := by decide +kernel
theorem d_V_end_24 : decode c_V_end 24 = .ok (.aload_n 0, 1) := by decide +kernel
theorem d_V_end_25 : decode c_V_end 25 = .ok (.getfield 32, 3) := by decide +kernel
theorem d_V_end_28 : decode c_V_end 28 = .ok (.invokevirtual 51, 3) := by decide +kernel
theorem d_V_end_31 : decode c_V_end 31 = .ok (.aload_n 0, 1) := by decide +kernel
theorem d_V_end_32 : decode c_V_end 32 = .ok (.getfield 32, 3) := by decide +kernel
theorem d_V_end_35 : decode c_V_end 35 = .ok (.invokevirtual 54, 3) := by decide +kernel
theorem d_V_end_38 : decode c_V_end 38 = .ok (.istore_n 1, 1) := by decide +kernel
theorem d_V_end_39 : decode c_V_end 39 = .ok (.iload_n 1, 1) := by decide +kernel
theorem d_V_end_40 : decode c_V_end 40 = .ok (.bipush 20, 2) := by decide +kernel
theorem d_V_end_42 : decode c_V_end 42 = .ok (.if_icmp .gt 5, 3) := by decide +kernel
theorem d_V_end_45 : decode c_V_end 45 = .ok (.iload_n 1, 1) := by decide +kernel
theorem d_V_end_46 : decode c_V_end 46 = .ok (.ireturn, 1) := by decide +kernel
theorem d_V_end_47 : decode c_V_end 47 = .ok (.aload_n 0, 1) := by decide +kernel
theorem d_V_end_48 : decode c_V_end 48 = .ok (.invokevirtual 58, 3) := by decide +kernel
theorem d_V_end_51 : decode c_V_end 51 = .ok (.ifCond .eq 7, 3) := by decide +kernel
theorem d_V_end_54 : decode c_V_end 54 = .ok (.iconst 0, 1) := by decide +kernel
theorem d_V_end_55 : decode c_V_end 55 = .ok (.goto 4, 3) := by decide +kernel
theorem d_V_end_58 : decode c_V_end 58 = .ok (.iconst (-1), 1) := by decide +kernel
theorem d_V_end_59 : decode c_V_end 59 = .ok (.ireturn, 1) := by decide +kernel
theorem d_C_closeStep_0 : decode c_C_closeStep 0 = .ok (.aload_n 0, 1) := by decide +kernel
theorem d_C_closeStep_1 : decode c_C_closeStep 1 = .ok (.getfield 11, 3) := by decide +kernel
theorem d_C_closeStep_4 : decode c_C_closeStep 4 = .ok (.astore_n 1, 1) := by decide +kernel
theorem d_C_closeStep_5 : decode c_C_closeStep 5 = .ok (.aload_n 1, 1) := by decide +kernel
theorem d_C_closeStep_6 : decode c_C_closeStep 6 = .ok (.arraylength, 1) := by decide +kernel
theorem d_C_closeStep_7 : decode c_C_closeStep 7 = .ok (.istore_n 2, 1) := by decide +kernel
theorem d_C_closeStep_8 : decode c_C_closeStep 8 = .ok (.iconst 0, 1) := by decide +kernel
theorem d_C_closeStep_9 : decode c_C_closeStep 9 = .ok (.istore_n 3, 1) := by decide +kernel
theorem d_C_closeStep_10 : decode c_C_closeStep 10 = .ok (.iload_n 3, 1) := by decide +kernel
theorem d_C_closeStep_11 : decode c_C_closeStep 11 = .ok (.iload_n 2, 1) := by decide +kernel
theorem d_C_closeStep_12 : decode c_C_closeStep 12 = .ok (.if_icmp .ge 20, 3) := by decide +kernel
theorem d_C_closeStep_15 : decode c_C_closeStep 15 = .ok (.aload_n 1, 1) := by decide +kernel
theorem d_C_closeStep_16 : decode c_C_closeStep 16 = .ok (.iload_n 3, 1) := by decide +kernel
theorem d_C_closeStep_17 : decode c_C_closeStep 17 = .ok (.aaload, 1) := by decide +kernel
theorem d_C_closeStep_18 : decode c_C_closeStep 18 = .ok (.astore 4, 2) := by decide +kernel
theorem d_C_closeStep_20 : decode c_C_closeStep 20 = .ok (.aload 4, 2) := by decide +kernel
theorem d_C_closeStep_22 : decode c_C_closeStep 22 = .ok (.iconst 0, 1) := by decide +kernel
theorem d_C_closeStep_23 : decode c_C_closeStep 23 = .ok (.putfield 57, 3) := by decide +kernel
theorem d_C_closeStep_26 : decode c_C_closeStep 26 = .ok (.iinc 3 1, 3) := by decide +kernel
theorem d_C_closeStep_29 : decode c_C_closeStep 29 = .ok (.goto (-19), 3) := by decide +kernel
theorem d_C_closeStep_32 : decode c_C_closeStep 32 = .ok (.return_, 1) := by decide +kernel
theorem d_C_heldRows_0 : decode c_C_heldRows 0 = .ok (.iconst 0, 1) := by decide +kernel
theorem d_C_heldRows_1 : decode c_C_heldRows 1 = .ok (.istore_n 1, 1) := by decide +kernel
theorem d_C_heldRows_2 : decode c_C_heldRows 2 = .ok (.aload_n 0, 1) := by decide +kernel
theorem d_C_heldRows_3 : decode c_C_heldRows 3 = .ok (.getfield 11, 3) := by decide +kernel
theorem d_C_heldRows_6 : decode c_C_heldRows 6 = .ok (.astore_n 2, 1) := by decide +kernel
theorem d_C_heldRows_7 : decode c_C_heldRows 7 = .ok (.aload_n 2, 1) := by decide +kernel
theorem d_C_heldRows_8 : decode c_C_heldRows 8 = .ok (.arraylength, 1) := by decide +kernel
theorem d_C_heldRows_9 : decode c_C_heldRows 9 = .ok (.istore_n 3, 1) := by decide +kernel
theorem d_C_heldRows_10 : decode c_C_heldRows 10 = .ok (.iconst 0, 1) := by decide +kernel
theorem d_C_heldRows_11 : decode c_C_heldRows 11 = .ok (.istore 4, 2) := by decide +kernel
theorem d_C_heldRows_13 : decode c_C_heldRows 13 = .ok (.iload 4, 2) := by decide +kernel
theorem d_C_heldRows_15 : decode c_C_heldRows 15 = .ok (.iload_n 3, 1) := by decide +kernel
theorem d_C_heldRows_16 : decode c_C_heldRows 16 = .ok (.if_icmp .ge 26, 3) := by decide +kernel
theorem d_C_heldRows_19 : decode c_C_heldRows 19 = .ok (.aload_n 2, 1) := by decide +kernel
theorem d_C_heldRows_20 : decode c_C_heldRows 20 = .ok (.iload 4, 2) := by decide +kernel
theorem d_C_heldRows_22 : decode c_C_heldRows 22 = .ok (.aaload, 1) := by decide +kernel
theorem d_C_heldRows_23 : decode c_C_heldRows 23 = .ok (.astore 5, 2) := by decide +kernel
theorem d_C_heldRows_25 : decode c_C_heldRows 25 = .ok (.aload 5, 2) := by decide +kernel
theorem d_C_heldRows_27 : decode c_C_heldRows 27 = .ok (.getfield 53, 3) := by decide +kernel
theorem d_C_heldRows_30 : decode c_C_heldRows 30 = .ok (.ifCond .eq 6, 3) := by decide +kernel
theorem d_C_heldRows_33 : decode c_C_heldRows 33 = .ok (.iinc 1 1, 3) := by decide +kernel
theorem d_C_heldRows_36 : decode c_C_heldRows 36 = .ok (.iinc 4 1, 3) := by decide +kernel
theorem d_C_heldRows_39 : decode c_C_heldRows 39 = .ok (.goto (-26), 3) := by decide +kernel
theorem d_C_heldRows_42 : decode c_C_heldRows 42 = .ok (.iload_n 1, 1) := by decide +kernel
theorem d_C_heldRows_43 : decode c_C_heldRows 43 = .ok (.ireturn, 1) := by decide +kernel
theorem d_V_commit_0 : decode c_V_commit 0 = .ok (.aload_n 0, 1) := by decide +kernel
theorem d_V_commit_1 : decode c_V_commit 1 = .ok (.getfield 39, 3) := by decide +kernel
theorem d_V_commit_4 : decode c_V_commit 4 = .ok (.aload_n 0, 1) := by decide +kernel
theorem d_V_commit_5 : decode c_V_commit 5 = .ok (.getfield 32, 3) := by decide +kernel
theorem d_V_commit_8 : decode c_V_commit 8 = .ok (.aload_n 0, 1) := by decide +kernel
theorem d_V_commit_9 : decode c_V_commit 9 = .ok (.getfield 25, 3) := by decide +kernel
theorem d_V_commit_12 : decode c_V_commit 12 = .ok (.invokevirtual 125, 3) := by decide +kernel
theorem d_V_commit_15 : decode c_V_commit 15 = .ok (.ifCond .eq 12, 3) := by decide +kernel
theorem d_V_commit_18 : decode c_V_commit 18 = .ok (.aload_n 0, 1) := by decide +kernel
theorem d_V_commit_19 : decode c_V_commit 19 = .ok (.getfield 32, 3) := by decide +kernel
theorem d_V_commit_22 : decode c_V_commit 22 = .ok (.invokevirtual 129, 3) := by decide +kernel
theorem d_V_commit_25 : decode c_V_commit 25 = .ok (.iconst 1, 1) := by decide +kernel
theorem d_V_commit_26 : decode c_V_commit 26 = .ok (.ireturn, 1) := by decide +kernel
theorem d_V_commit_27 : decode c_V_commit 27 = .ok (.aload_n 0, 1) := by decide +kernel
theorem d_V_commit_28 : decode c_V_commit 28 = .ok (.getfield 32, 3) := by decide +kernel
theorem d_V_commit_31 : decode c_V_commit 31 = .ok (.invokevirtual 132, 3) := by decide +kernel
theorem d_V_commit_34 : decode c_V_commit 34 = .ok (.iconst 0, 1) := by decide +kernel
theorem d_V_commit_35 : decode c_V_commit 35 = .ok (.ireturn, 1) := by decide +kernel
theorem d_L_bringOut_0 : decode c_L_bringOut 0 = .ok (.aload_n 0, 1) := by decide +kernel
theorem d_L_bringOut_1 : decode c_L_bringOut 1 = .ok (.aload_n 1, 1) := by decide +kernel
theorem d_L_bringOut_2 : decode c_L_bringOut 2 = .ok (.aload_n 2, 1) := by decide +kernel
theorem d_L_bringOut_3 : decode c_L_bringOut 3 = .ok (.invokevirtual 25, 3) := by decide +kernel
theorem d_L_bringOut_6 : decode c_L_bringOut 6 = .ok (.ifCond .eq 15, 3) := by decide +kernel
theorem d_L_bringOut_9 : decode c_L_bringOut 9 = .ok (.aload_n 2, 1) := by decide +kernel
theorem d_L_bringOut_10 : decode c_L_bringOut 10 = .ok (.iconst 2, 1) := by decide +kernel
theorem d_L_bringOut_11 : decode c_L_bringOut 11 = .ok (.aload_n 0, 1) := by decide +kernel
theorem d_L_bringOut_12 : decode c_L_bringOut 12 = .ok (.getfield 12, 3) := by decide +kernel
theorem d_L_bringOut_15 : decode c_L_bringOut 15 = .ok (.invokevirtual 29, 3) := by decide +kernel
theorem d_L_bringOut_18 : decode c_L_bringOut 18 = .ok (.ifCond .ne 5, 3) := by decide +kernel
theorem d_L_bringOut_21 : decode c_L_bringOut 21 = .ok (.iconst 0, 1) := by decide +kernel
theorem d_L_bringOut_22 : decode c_L_bringOut 22 = .ok (.ireturn, 1) := by decide +kernel
theorem d_L_bringOut_23 : decode c_L_bringOut 23 = .ok (.aload_n 0, 1) := by decide +kernel
theorem d_L_bringOut_24 : decode c_L_bringOut 24 = .ok (.dup, 1) := by decide +kernel
theorem d_L_bringOut_25 : decode c_L_bringOut 25 = .ok (.getfield 21, 3) := by decide +kernel
theorem d_L_bringOut_28 : decode c_L_bringOut 28 = .ok (.iconst 1, 1) := by decide +kernel
theorem d_L_bringOut_29 : decode c_L_bringOut 29 = .ok (.iadd, 1) := by decide +kernel
theorem d_L_bringOut_30 : decode c_L_bringOut 30 = .ok (.putfield 21, 3) := by decide +kernel
theorem d_L_bringOut_33 : decode c_L_bringOut 33 = .ok (.aload_n 0, 1) := by decide +kernel
theorem d_L_bringOut_34 : decode c_L_bringOut 34 = .ok (.aload_n 2, 1) := by decide +kernel
theorem d_L_bringOut_35 : decode c_L_bringOut 35 = .ok (.invokevirtual 35, 3) := by decide +kernel
theorem d_L_bringOut_38 : decode c_L_bringOut 38 = .ok (.iconst (-1), 1) := by decide +kernel
theorem d_L_bringOut_39 : decode c_L_bringOut 39 = .ok (.if_icmp .eq 7, 3) := by decide +kernel
theorem d_L_bringOut_42 : decode c_L_bringOut 42 = .ok (.iconst 1, 1) := by decide +kernel
theorem d_L_bringOut_43 : decode c_L_bringOut 43 = .ok (.goto 4, 3) := by decide +kernel
theorem d_L_bringOut_46 : decode c_L_bringOut 46 = .ok (.iconst 0, 1) := by decide +kernel
theorem d_L_bringOut_47 : decode c_L_bringOut 47 = .ok (.ireturn, 1) := by decide +kernel
theorem d_L_copyHeld_0 : decode c_L_copyHeld 0 = .ok (.iconst 0, 1) := by decide +kernel
theorem d_L_copyHeld_1 : decode c_L_copyHeld 1 = .ok (.istore_n 3, 1) := by decide +kernel
theorem d_L_copyHeld_2 : decode c_L_copyHeld 2 = .ok (.aload_n 1, 1) := by decide +kernel
theorem d_L_copyHeld_3 : decode c_L_copyHeld 3 = .ok (.getfield 39, 3) := by decide +kernel
theorem d_L_copyHeld_6 : decode c_L_copyHeld 6 = .ok (.astore 4, 2) := by decide +kernel
theorem d_L_copyHeld_8 : decode c_L_copyHeld 8 = .ok (.aload 4, 2) := by decide +kernel
theorem d_L_copyHeld_10 : decode c_L_copyHeld 10 = .ok (.arraylength, 1) := by decide +kernel
theorem d_L_copyHeld_11 : decode c_L_copyHeld 11 = .ok (.istore 5, 2) := by decide +kernel
theorem d_L_copyHeld_13 : decode c_L_copyHeld 13 = .ok (.iconst 0, 1) := by decide +kernel
theorem d_L_copyHeld_14 : decode c_L_copyHeld 14 = .ok (.istore 6, 2) := by decide +kernel
theorem d_L_copyHeld_16 : decode c_L_copyHeld 16 = .ok (.iload 6, 2) := by decide +kernel
theorem d_L_copyHeld_18 : decode c_L_copyHeld 18 = .ok (.iload 5, 2) := by decide +kernel
theorem d_L_copyHeld_20 : decode c_L_copyHeld 20 = .ok (.if_icmp .ge 64, 3) := by decide +kernel
theorem d_L_copyHeld_23 : decode c_L_copyHeld 23 = .ok (.aload 4, 2) := by decide +kernel
theorem d_L_copyHeld_25 : decode c_L_copyHeld 25 = .ok (.iload 6, 2) := by decide +kernel
theorem d_L_copyHeld_27 : decode c_L_copyHeld 27 = .ok (.aaload, 1) := by decide +kernel
theorem d_L_copyHeld_28 : decode c_L_copyHeld 28 = .ok (.astore 7, 2) := by decide +kernel
theorem d_L_copyHeld_30 : decode c_L_copyHeld 30 = .ok (.aload 7, 2) := by decide +kernel
theorem d_L_copyHeld_32 : decode c_L_copyHeld 32 = .ok (.getfield 45, 3) := by decide +kernel
theorem d_L_copyHeld_35 : decode c_L_copyHeld 35 = .ok (.ifCond .eq 43, 3) := by decide +kernel
theorem d_L_copyHeld_38 : decode c_L_copyHeld 38 = .ok (.iload_n 3, 1) := by decide +kernel
theorem d_L_copyHeld_39 : decode c_L_copyHeld 39 = .ok (.bipush 30, 2) := by decide +kernel
theorem d_L_copyHeld_41 : decode c_L_copyHeld 41 = .ok (.if_icmp .ge 37, 3) := by decide +kernel
theorem d_L_copyHeld_44 : decode c_L_copyHeld 44 = .ok (.iinc 3 1, 3) := by decide +kernel
theorem d_L_copyHeld_47 : decode c_L_copyHeld 47 = .ok (.aload_n 0, 1) := by decide +kernel
theorem d_L_copyHeld_48 : decode c_L_copyHeld 48 = .ok (.getfield 12, 3) := by decide +kernel
theorem d_L_copyHeld_51 : decode c_L_copyHeld 51 = .ok (.iload_n 3, 1) := by decide +kernel
theorem d_L_copyHeld_52 : decode c_L_copyHeld 52 = .ok (.iconst 1, 1) := by decide +kernel
theorem d_L_copyHeld_53 : decode c_L_copyHeld 53 = .ok (.aload 7, 2) := by decide +kernel
theorem d_L_copyHeld_55 : decode c_L_copyHeld 55 = .ok (.getfield 51, 3) := by decide +kernel
theorem d_L_copyHeld_58 : decode c_L_copyHeld 58 = .ok (.invokevirtual 54, 3) := by decide +kernel
theorem d_L_copyHeld_61 : decode c_L_copyHeld 61 = .ok (.aload_n 2, 1) := by decide +kernel
theorem d_L_copyHeld_62 : decode c_L_copyHeld 62 = .ok (.iconst 2, 1) := by decide +kernel
theorem d_L_copyHeld_63 : decode c_L_copyHeld 63 = .ok (.iload_n 3, 1) := by decide +kernel
theorem d_L_copyHeld_64 : decode c_L_copyHeld 64 = .ok (.iadd, 1) := by decide +kernel
theorem d_L_copyHeld_65 : decode c_L_copyHeld 65 = .ok (.aload 7, 2) := by decide +kernel
theorem d_L_copyHeld_67 : decode c_L_copyHeld 67 = .ok (.getfield 58, 3) := by decide +kernel
theorem d_L_copyHeld_70 : decode c_L_copyHeld 70 = .ok (.invokevirtual 29, 3) := by decide +kernel
theorem d_L_copyHeld_73 : decode c_L_copyHeld 73 = .ok (.ifCond .ne 5, 3) := by decide +kernel
theorem d_L_copyHeld_76 : decode c_L_copyHeld 76 = .ok (.iconst 0, 1) := by decide +kernel
theorem d_L_copyHeld_77 : decode c_L_copyHeld 77 = .ok (.ireturn, 1) := by decide +kernel
theorem d_L_copyHeld_78 : decode c_L_copyHeld 78 = .ok (.iinc 6 1, 3) := by decide +kernel
theorem d_L_copyHeld_81 : decode c_L_copyHeld 81 = .ok (.goto (-65), 3) := by decide +kernel
theorem d_L_copyHeld_84 : decode c_L_copyHeld 84 = .ok (.aload_n 0, 1) := by decide +kernel
theorem d_L_copyHeld_85 : decode c_L_copyHeld 85 = .ok (.getfield 12, 3) := by decide +kernel
theorem d_L_copyHeld_88 : decode c_L_copyHeld 88 = .ok (.iconst 0, 1) := by decide +kernel
theorem d_L_copyHeld_89 : decode c_L_copyHeld 89 = .ok (.iconst 1, 1) := by decide +kernel
theorem d_L_copyHeld_90 : decode c_L_copyHeld 90 = .ok (.iload_n 3, 1) := by decide +kernel
theorem d_L_copyHeld_91 : decode c_L_copyHeld 91 = .ok (.invokevirtual 54, 3) := by decide +kernel
theorem d_L_copyHeld_94 : decode c_L_copyHeld 94 = .ok (.iconst 1, 1) := by decide +kernel
theorem d_L_copyHeld_95 : decode c_L_copyHeld 95 = .ok (.ireturn, 1) := by decide +kernel
theorem d_P_putRun_0 : decode c_P_putRun 0 = .ok (.iload_n 1, 1) := by decide +kernel
theorem d_P_putRun_1 : decode c_P_putRun 1 = .ok (.iload_n 2, 1) := by decide +kernel
theorem d_P_putRun_2 : decode c_P_putRun 2 = .ok (.invokestatic 15, 3) := by decide +kernel
theorem d_P_putRun_5 : decode c_P_putRun 5 = .ok (.ifCond .ne 4, 3) := by decide +kernel
theorem d_P_putRun_8 : decode c_P_putRun 8 = .ok (.return_, 1) := by decide +kernel
theorem d_P_putRun_9 : decode c_P_putRun 9 = .ok (.aload_n 0, 1) := by decide +kernel
theorem d_P_putRun_10 : decode c_P_putRun 10 = .ok (.getfield 9, 3) := by decide +kernel
theorem d_P_putRun_13 : decode c_P_putRun 13 = .ok (.ifnonnull 12, 3) := by decide +kernel
theorem d_P_putRun_16 : decode c_P_putRun 16 = .ok (.aload_n 0, 1) := by decide +kernel
theorem d_P_putRun_17 : decode c_P_putRun 17 = .ok (.sipush 1024, 3) := by decide +kernel
theorem d_P_putRun_20 : decode c_P_putRun 20 = .ok (.newarray .byte, 2) := by decide +kernel
theorem d_P_putRun_22 : decode c_P_putRun 22 = .ok (.putfield 9, 3) := by decide +kernel
theorem d_P_putRun_25 : decode c_P_putRun 25 = .ok (.iconst 0, 1) := by decide +kernel
theorem d_P_putRun_26 : decode c_P_putRun 26 = .ok (.istore 4, 2) := by decide +kernel
theorem d_P_putRun_28 : decode c_P_putRun 28 = .ok (.iload 4, 2) := by decide +kernel
theorem d_P_putRun_30 : decode c_P_putRun 30 = .ok (.iload_n 2, 1) := by decide +kernel
theorem d_P_putRun_31 : decode c_P_putRun 31 = .ok (.if_icmp .ge 23, 3) := by decide +kernel
theorem d_P_putRun_34 : decode c_P_putRun 34 = .ok (.aload_n 0, 1) := by decide +kernel
theorem d_P_putRun_35 : decode c_P_putRun 35 = .ok (.getfield 9, 3) := by decide +kernel
theorem d_P_putRun_38 : decode c_P_putRun 38 = .ok (.iload_n 1, 1) := by decide +kernel
theorem d_P_putRun_39 : decode c_P_putRun 39 = .ok (.iload 4, 2) := by decide +kernel
theorem d_P_putRun_41 : decode c_P_putRun 41 = .ok (.iadd, 1) := by decide +kernel
theorem d_P_putRun_42 : decode c_P_putRun 42 = .ok (.iload_n 3, 1) := by decide +kernel
theorem d_P_putRun_43 : decode c_P_putRun 43 = .ok (.iload 4, 2) := by decide +kernel
theorem d_P_putRun_45 : decode c_P_putRun 45 = .ok (.iadd, 1) := by decide +kernel
theorem d_P_putRun_46 : decode c_P_putRun 46 = .ok (.i2b, 1) := by decide +kernel
theorem d_P_putRun_47 : decode c_P_putRun 47 = .ok (.bastore, 1) := by decide +kernel
theorem d_P_putRun_48 : decode c_P_putRun 48 = .ok (.iinc 4 1, 3) := by decide +kernel
theorem d_P_putRun_51 : decode c_P_putRun 51 = .ok (.goto (-23), 3) := by decide +kernel
theorem d_P_putRun_54 : decode c_P_putRun 54 = .ok (.return_, 1) := by decide +kernel
theorem d_V_isRun_0 : decode c_V_isRun 0 = .ok (.iload_n 1, 1) := by decide +kernel
theorem d_V_isRun_1 : decode c_V_isRun 1 = .ok (.iconst 1, 1) := by decide +kernel
theorem d_V_isRun_2 : decode c_V_isRun 2 = .ok (.if_icmp .lt 27, 3) := by decide +kernel
theorem d_V_isRun_5 : decode c_V_isRun 5 = .ok (.iload_n 1, 1) := by decide +kernel
theorem d_V_isRun_6 : decode c_V_isRun 6 = .ok (.sipush 1024, 3) := by decide +kernel
theorem d_V_isRun_9 : decode c_V_isRun 9 = .ok (.if_icmp .gt 20, 3) := by decide +kernel
theorem d_V_isRun_12 : decode c_V_isRun 12 = .ok (.iload_n 0, 1) := by decide +kernel
theorem d_V_isRun_13 : decode c_V_isRun 13 = .ok (.ifCond .lt 16, 3) := by decide +kernel
theorem d_V_isRun_16 : decode c_V_isRun 16 = .ok (.iload_n 0, 1) := by decide +kernel
theorem d_V_isRun_17 : decode c_V_isRun 17 = .ok (.sipush 1024, 3) := by decide +kernel
theorem d_V_isRun_20 : decode c_V_isRun 20 = .ok (.iload_n 1, 1) := by decide +kernel
theorem d_V_isRun_21 : decode c_V_isRun 21 = .ok (.isub, 1) := by decide +kernel
theorem d_V_isRun_22 : decode c_V_isRun 22 = .ok (.if_icmp .gt 7, 3) := by decide +kernel
theorem d_V_isRun_25 : decode c_V_isRun 25 = .ok (.iconst 1, 1) := by decide +kernel
theorem d_V_isRun_26 : decode c_V_isRun 26 = .ok (.goto 4, 3) := by decide +kernel
theorem d_V_isRun_29 : decode c_V_isRun 29 = .ok (.iconst 0, 1) := by decide +kernel
theorem d_V_isRun_30 : decode c_V_isRun 30 = .ok (.ireturn, 1) := by decide +kernel
theorem d_D_write_0 : decode c_D_write 0 = .ok (.aload_n 0, 1) := by decide +kernel
theorem d_D_write_1 : decode c_D_write 1 = .ok (.getfield 18, 3) := by decide +kernel
theorem d_D_write_4 : decode c_D_write 4 = .ok (.ifCond .eq 16, 3) := by decide +kernel
theorem d_D_write_7 : decode c_D_write 7 = .ok (.iload_n 1, 1) := by decide +kernel
theorem d_D_write_8 : decode c_D_write 8 = .ok (.ifCond .lt 12, 3) := by decide +kernel
theorem d_D_write_11 : decode c_D_write 11 = .ok (.iload_n 1, 1) := by decide +kernel
theorem d_D_write_12 : decode c_D_write 12 = .ok (.aload_n 0, 1) := by decide +kernel
theorem d_D_write_13 : decode c_D_write 13 = .ok (.getfield 11, 3) := by decide +kernel
theorem d_D_write_16 : decode c_D_write 16 = .ok (.arraylength, 1) := by decide +kernel
theorem d_D_write_17 : decode c_D_write 17 = .ok (.if_icmp .lt 5, 3) := by decide +kernel
theorem d_D_write_20 : decode c_D_write 20 = .ok (.iconst 0, 1) := by decide +kernel
theorem d_D_write_21 : decode c_D_write 21 = .ok (.ireturn, 1) := by decide +kernel
theorem d_D_write_22 : decode c_D_write 22 = .ok (.aload_n 0, 1) := by decide +kernel
theorem d_D_write_23 : decode c_D_write 23 = .ok (.getfield 22, 3) := by decide +kernel
theorem d_D_write_26 : decode c_D_write 26 = .ok (.ifCond .ne 10, 3) := by decide +kernel
theorem d_D_write_29 : decode c_D_write 29 = .ok (.aload_n 0, 1) := by decide +kernel
theorem d_D_write_30 : decode c_D_write 30 = .ok (.iconst 0, 1) := by decide +kernel
theorem d_D_write_31 : decode c_D_write 31 = .ok (.putfield 18, 3) := by decide +kernel
theorem d_D_write_34 : decode c_D_write 34 = .ok (.iconst 0, 1) := by decide +kernel
theorem d_D_write_35 : decode c_D_write 35 = .ok (.ireturn, 1) := by decide +kernel
theorem d_D_write_36 : decode c_D_write 36 = .ok (.aload_n 0, 1) := by decide +kernel
theorem d_D_write_37 : decode c_D_write 37 = .ok (.getfield 22, 3) := by decide +kernel
theorem d_D_write_40 : decode c_D_write 40 = .ok (.ifCond .le 13, 3) := by decide +kernel
theorem d_D_write_43 : decode c_D_write 43 = .ok (.aload_n 0, 1) := by decide +kernel
theorem d_D_write_44 : decode c_D_write 44 = .ok (.dup, 1) := by decide +kernel
theorem d_D_write_45 : decode c_D_write 45 = .ok (.getfield 22, 3) := by decide +kernel
theorem d_D_write_48 : decode c_D_write 48 = .ok (.iconst 1, 1) := by decide +kernel
theorem d_D_write_49 : decode c_D_write 49 = .ok (.isub, 1) := by decide +kernel
theorem d_D_write_50 : decode c_D_write 50 = .ok (.putfield 22, 3) := by decide +kernel
theorem d_D_write_53 : decode c_D_write 53 = .ok (.aload_n 0, 1) := by decide +kernel
theorem d_D_write_54 : decode c_D_write 54 = .ok (.dup, 1) := by decide +kernel
theorem d_D_write_55 : decode c_D_write 55 = .ok (.getfield 26, 3) := by decide +kernel
theorem d_D_write_58 : decode c_D_write 58 = .ok (.iconst 1, 1) := by decide +kernel
theorem d_D_write_59 : decode c_D_write 59 = .ok (.iadd, 1) := by decide +kernel
theorem d_D_write_60 : decode c_D_write 60 = .ok (.putfield 26, 3) := by decide +kernel
theorem d_D_write_63 : decode c_D_write 63 = .ok (.aload_n 0, 1) := by decide +kernel
theorem d_D_write_64 : decode c_D_write 64 = .ok (.getfield 11, 3) := by decide +kernel
theorem d_D_write_67 : decode c_D_write 67 = .ok (.iload_n 1, 1) := by decide +kernel
theorem d_D_write_68 : decode c_D_write 68 = .ok (.aaload, 1) := by decide +kernel
theorem d_D_write_69 : decode c_D_write 69 = .ok (.aload_n 2, 1) := by decide +kernel
theorem d_D_write_70 : decode c_D_write 70 = .ok (.invokevirtual 29, 3) := by decide +kernel
theorem d_D_write_73 : decode c_D_write 73 = .ok (.iconst 1, 1) := by decide +kernel
theorem d_D_write_74 : decode c_D_write 74 = .ok (.ireturn, 1) := by decide +kernel
theorem d_P_copyFrom_0 : decode c_P_copyFrom 0 = .ok (.aload_n 1, 1) := by decide +kernel
theorem d_P_copyFrom_1 : decode c_P_copyFrom 1 = .ok (.getfield 9, 3) := by decide +kernel
theorem d_P_copyFrom_4 : decode c_P_copyFrom 4 = .ok (.ifnonnull 8, 3) := by decide +kernel
theorem d_P_copyFrom_7 : decode c_P_copyFrom 7 = .ok (.aload_n 0, 1) := by decide +kernel
theorem d_P_copyFrom_8 : decode c_P_copyFrom 8 = .ok (.invokevirtual 19, 3) := by decide +kernel
theorem d_P_copyFrom_11 : decode c_P_copyFrom 11 = .ok (.return_, 1) := by decide +kernel
theorem d_P_copyFrom_12 : decode c_P_copyFrom 12 = .ok (.aload_n 0, 1) := by decide +kernel
theorem d_P_copyFrom_13 : decode c_P_copyFrom 13 = .ok (.getfield 9, 3) := by decide +kernel
theorem d_P_copyFrom_16 : decode c_P_copyFrom 16 = .ok (.ifnonnull 12, 3) := by decide +kernel
theorem d_P_copyFrom_19 : decode c_P_copyFrom 19 = .ok (.aload_n 0, 1) := by decide +kernel
theorem d_P_copyFrom_20 : decode c_P_copyFrom 20 = .ok (.sipush 1024, 3) := by decide +kernel
theorem d_P_copyFrom_23 : decode c_P_copyFrom 23 = .ok (.newarray .byte, 2) := by decide +kernel
theorem d_P_copyFrom_25 : decode c_P_copyFrom 25 = .ok (.putfield 9, 3) := by decide +kernel
theorem d_P_copyFrom_28 : decode c_P_copyFrom 28 = .ok (.aload_n 1, 1) := by decide +kernel
theorem d_P_copyFrom_29 : decode c_P_copyFrom 29 = .ok (.getfield 9, 3) := by decide +kernel
theorem d_P_copyFrom_32 : decode c_P_copyFrom 32 = .ok (.iconst 0, 1) := by decide +kernel
theorem d_P_copyFrom_33 : decode c_P_copyFrom 33 = .ok (.aload_n 0, 1) := by decide +kernel
theorem d_P_copyFrom_34 : decode c_P_copyFrom 34 = .ok (.getfield 9, 3) := by decide +kernel
theorem d_P_copyFrom_37 : decode c_P_copyFrom 37 = .ok (.iconst 0, 1) := by decide +kernel
theorem d_P_copyFrom_38 : decode c_P_copyFrom 38 = .ok (.sipush 1024, 3) := by decide +kernel
theorem d_P_copyFrom_41 : decode c_P_copyFrom 41 = .ok (.invokestatic 22, 3) := by decide +kernel
theorem d_P_copyFrom_44 : decode c_P_copyFrom 44 = .ok (.return_, 1) := by decide +kernel
theorem d_P_makeZero_0 : decode c_P_makeZero 0 = .ok (.aload_n 0, 1) := by decide +kernel
theorem d_P_makeZero_1 : decode c_P_makeZero 1 = .ok (.getfield 9, 3) := by decide +kernel
theorem d_P_makeZero_4 : decode c_P_makeZero 4 = .ok (.ifnull 11, 3) := by decide +kernel
theorem d_P_makeZero_7 : decode c_P_makeZero 7 = .ok (.aload_n 0, 1) := by decide +kernel
theorem d_P_makeZero_8 : decode c_P_makeZero 8 = .ok (.getfield 9, 3) := by decide +kernel
theorem d_P_makeZero_11 : decode c_P_makeZero 11 = .ok (.iconst 0, 1) := by decide +kernel
theorem d_P_makeZero_12 : decode c_P_makeZero 12 = .ok (.invokestatic 28, 3) := by decide +kernel
theorem d_P_makeZero_15 : decode c_P_makeZero 15 = .ok (.return_, 1) := by decide +kernel
theorem d_A_fill_0 : decode c_A_fill 0 = .ok (.iconst 0, 1) := by decide +kernel
theorem d_A_fill_1 : decode c_A_fill 1 = .ok (.istore_n 2, 1) := by decide +kernel
theorem d_A_fill_2 : decode c_A_fill 2 = .ok (.aload_n 0, 1) := by decide +kernel
theorem d_A_fill_3 : decode c_A_fill 3 = .ok (.arraylength, 1) := by decide +kernel
theorem d_A_fill_4 : decode c_A_fill 4 = .ok (.istore_n 3, 1) := by decide +kernel
theorem d_A_fill_5 : decode c_A_fill 5 = .ok (.iload_n 2, 1) := by decide +kernel
theorem d_A_fill_6 : decode c_A_fill 6 = .ok (.iload_n 3, 1) := by decide +kernel
theorem d_A_fill_7 : decode c_A_fill 7 = .ok (.if_icmp .ge 13, 3) := by decide +kernel
theorem d_A_fill_10 : decode c_A_fill 10 = .ok (.aload_n 0, 1) := by decide +kernel
theorem d_A_fill_11 : decode c_A_fill 11 = .ok (.iload_n 2, 1) := by decide +kernel
theorem d_A_fill_12 : decode c_A_fill 12 = .ok (.iload_n 1, 1) := by decide +kernel
theorem d_A_fill_13 : decode c_A_fill 13 = .ok (.bastore, 1) := by decide +kernel
theorem d_A_fill_14 : decode c_A_fill 14 = .ok (.iinc 2 1, 3) := by decide +kernel
theorem d_A_fill_17 : decode c_A_fill 17 = .ok (.goto (-12), 3) := by decide +kernel
theorem d_A_fill_20 : decode c_A_fill 20 = .ok (.return_, 1) := by decide +kernel
theorem d_L_bringHome_0 : decode c_L_bringHome 0 = .ok (.aload_n 1, 1) := by decide +kernel
theorem d_L_bringHome_1 : decode c_L_bringHome 1 = .ok (.iconst 2, 1) := by decide +kernel
theorem d_L_bringHome_2 : decode c_L_bringHome 2 = .ok (.aload_n 0, 1) := by decide +kernel
theorem d_L_bringHome_3 : decode c_L_bringHome 3 = .ok (.getfield 12, 3) := by decide +kernel
theorem d_L_bringHome_6 : decode c_L_bringHome 6 = .ok (.invokevirtual 61, 3) := by decide +kernel
theorem d_L_bringHome_9 : decode c_L_bringHome 9 = .ok (.aload_n 0, 1) := by decide +kernel
theorem d_L_bringHome_10 : decode c_L_bringHome 10 = .ok (.getfield 12, 3) := by decide +kernel
theorem d_L_bringHome_13 : decode c_L_bringHome 13 = .ok (.iconst 0, 1) := by decide +kernel
theorem d_L_bringHome_14 : decode c_L_bringHome 14 = .ok (.invokevirtual 65, 3) := by decide +kernel
theorem d_L_bringHome_17 : decode c_L_bringHome 17 = .ok (.bipush 30, 2) := by decide +kernel
theorem d_L_bringHome_19 : decode c_L_bringHome 19 = .ok (.invokestatic 69, 3) := by decide +kernel
theorem d_L_bringHome_22 : decode c_L_bringHome 22 = .ok (.istore_n 2, 1) := by decide +kernel
theorem d_L_bringHome_23 : decode c_L_bringHome 23 = .ok (.iload_n 2, 1) := by decide +kernel
theorem d_L_bringHome_24 : decode c_L_bringHome 24 = .ok (.ifCond .ne 5, 3) := by decide +kernel
theorem d_L_bringHome_27 : decode c_L_bringHome 27 = .ok (.iconst 0, 1) := by decide +kernel
theorem d_L_bringHome_28 : decode c_L_bringHome 28 = .ok (.ireturn, 1) := by decide +kernel
theorem d_L_bringHome_29 : decode c_L_bringHome 29 = .ok (.iconst 1, 1) := by decide +kernel
theorem d_L_bringHome_30 : decode c_L_bringHome 30 = .ok (.istore_n 3, 1) := by decide +kernel
theorem d_L_bringHome_31 : decode c_L_bringHome 31 = .ok (.iload_n 3, 1) := by decide +kernel
theorem d_L_bringHome_32 : decode c_L_bringHome 32 = .ok (.iload_n 2, 1) := by decide +kernel
theorem d_L_bringHome_33 : decode c_L_bringHome 33 = .ok (.if_icmp .gt 41, 3) := by decide +kernel
theorem d_L_bringHome_36 : decode c_L_bringHome 36 = .ok (.aload_n 1, 1) := by decide +kernel
theorem d_L_bringHome_37 : decode c_L_bringHome 37 = .ok (.iconst 2, 1) := by decide +kernel
theorem d_L_bringHome_38 : decode c_L_bringHome 38 = .ok (.iload_n 3, 1) := by decide +kernel
theorem d_L_bringHome_39 : decode c_L_bringHome 39 = .ok (.iadd, 1) := by decide +kernel
theorem d_L_bringHome_40 : decode c_L_bringHome 40 = .ok (.aload_n 0, 1) := by decide +kernel
theorem d_L_bringHome_41 : decode c_L_bringHome 41 = .ok (.getfield 18, 3) := by decide +kernel
theorem d_L_bringHome_44 : decode c_L_bringHome 44 = .ok (.invokevirtual 61, 3) := by decide +kernel
theorem d_L_bringHome_47 : decode c_L_bringHome 47 = .ok (.aload_n 1, 1) := by decide +kernel
theorem d_L_bringHome_48 : decode c_L_bringHome 48 = .ok (.aload_n 0, 1) := by decide +kernel
theorem d_L_bringHome_49 : decode c_L_bringHome 49 = .ok (.getfield 12, 3) := by decide +kernel
theorem d_L_bringHome_52 : decode c_L_bringHome 52 = .ok (.iload_n 3, 1) := by decide +kernel
theorem d_L_bringHome_53 : decode c_L_bringHome 53 = .ok (.invokevirtual 65, 3) := by decide +kernel
theorem d_L_bringHome_56 : decode c_L_bringHome 56 = .ok (.aload_n 0, 1) := by decide +kernel
theorem d_L_bringHome_57 : decode c_L_bringHome 57 = .ok (.getfield 18, 3) := by decide +kernel
theorem d_L_bringHome_60 : decode c_L_bringHome 60 = .ok (.invokevirtual 29, 3) := by decide +kernel
theorem d_L_bringHome_63 : decode c_L_bringHome 63 = .ok (.ifCond .ne 5, 3) := by decide +kernel
theorem d_L_bringHome_66 : decode c_L_bringHome 66 = .ok (.iconst (-1), 1) := by decide +kernel
theorem d_L_bringHome_67 : decode c_L_bringHome 67 = .ok (.ireturn, 1) := by decide +kernel
theorem d_L_bringHome_68 : decode c_L_bringHome 68 = .ok (.iinc 3 1, 3) := by decide +kernel
theorem d_L_bringHome_71 : decode c_L_bringHome 71 = .ok (.goto (-40), 3) := by decide +kernel
theorem d_L_bringHome_74 : decode c_L_bringHome 74 = .ok (.aload_n 0, 1) := by decide +kernel
theorem d_L_bringHome_75 : decode c_L_bringHome 75 = .ok (.getfield 12, 3) := by decide +kernel
theorem d_L_bringHome_78 : decode c_L_bringHome 78 = .ok (.iconst 0, 1) := by decide +kernel
theorem d_L_bringHome_79 : decode c_L_bringHome 79 = .ok (.iconst 1, 1) := by decide +kernel
theorem d_L_bringHome_80 : decode c_L_bringHome 80 = .ok (.iconst 0, 1) := by decide +kernel
theorem d_L_bringHome_81 : decode c_L_bringHome 81 = .ok (.invokevirtual 54, 3) := by decide +kernel
theorem d_L_bringHome_84 : decode c_L_bringHome 84 = .ok (.aload_n 1, 1) := by decide +kernel
theorem d_L_bringHome_85 : decode c_L_bringHome 85 = .ok (.iconst 2, 1) := by decide +kernel
theorem d_L_bringHome_86 : decode c_L_bringHome 86 = .ok (.aload_n 0, 1) := by decide +kernel
theorem d_L_bringHome_87 : decode c_L_bringHome 87 = .ok (.getfield 12, 3) := by decide +kernel
theorem d_L_bringHome_90 : decode c_L_bringHome 90 = .ok (.invokevirtual 29, 3) := by decide +kernel
theorem d_L_bringHome_93 : decode c_L_bringHome 93 = .ok (.ifCond .eq 7, 3) := by decide +kernel
theorem d_L_bringHome_96 : decode c_L_bringHome 96 = .ok (.iload_n 2, 1) := by decide +kernel
theorem d_L_bringHome_97 : decode c_L_bringHome 97 = .ok (.goto 4, 3) := by decide +kernel
theorem d_L_bringHome_100 : decode c_L_bringHome 100 = .ok (.iconst (-1), 1) := by decide +kernel
theorem d_L_bringHome_101 : decode c_L_bringHome 101 = .ok (.ireturn, 1) := by decide +kernel
theorem d_D_read_0 : decode c_D_read 0 = .ok (.iload_n 1, 1) := by decide +kernel
theorem d_D_read_1 : decode c_D_read 1 = .ok (.ifCond .lt 22, 3) := by decide +kernel
theorem d_D_read_4 : decode c_D_read 4 = .ok (.iload_n 1, 1) := by decide +kernel
theorem d_D_read_5 : decode c_D_read 5 = .ok (.aload_n 0, 1) := by decide +kernel
theorem d_D_read_6 : decode c_D_read 6 = .ok (.getfield 11, 3) := by decide +kernel
theorem d_D_read_9 : decode c_D_read 9 = .ok (.arraylength, 1) := by decide +kernel
theorem d_D_read_10 : decode c_D_read 10 = .ok (.if_icmp .ge 13, 3) := by decide +kernel
theorem d_D_read_13 : decode c_D_read 13 = .ok (.aload_n 2, 1) := by decide +kernel
theorem d_D_read_14 : decode c_D_read 14 = .ok (.aload_n 0, 1) := by decide +kernel
theorem d_D_read_15 : decode c_D_read 15 = .ok (.getfield 11, 3) := by decide +kernel
theorem d_D_read_18 : decode c_D_read 18 = .ok (.iload_n 1, 1) := by decide +kernel
theorem d_D_read_19 : decode c_D_read 19 = .ok (.aaload, 1) := by decide +kernel
theorem d_D_read_20 : decode c_D_read 20 = .ok (.invokevirtual 29, 3) := by decide +kernel
theorem d_D_read_23 : decode c_D_read 23 = .ok (.return_, 1) := by decide +kernel
theorem d_P_byteAt_0 : decode c_P_byteAt 0 = .ok (.aload_n 0, 1) := by decide +kernel
theorem d_P_byteAt_1 : decode c_P_byteAt 1 = .ok (.getfield 9, 3) := by decide +kernel
theorem d_P_byteAt_4 : decode c_P_byteAt 4 = .ok (.ifnull 16, 3) := by decide +kernel
theorem d_P_byteAt_7 : decode c_P_byteAt 7 = .ok (.iload_n 1, 1) := by decide +kernel
theorem d_P_byteAt_8 : decode c_P_byteAt 8 = .ok (.ifCond .lt 12, 3) := by decide +kernel
theorem d_P_byteAt_11 : decode c_P_byteAt 11 = .ok (.iload_n 1, 1) := by decide +kernel
theorem d_P_byteAt_12 : decode c_P_byteAt 12 = .ok (.aload_n 0, 1) := by decide +kernel
theorem d_P_byteAt_13 : decode c_P_byteAt 13 = .ok (.getfield 9, 3) := by decide +kernel
theorem d_P_byteAt_16 : decode c_P_byteAt 16 = .ok (.arraylength, 1) := by decide +kernel
theorem d_P_byteAt_17 : decode c_P_byteAt 17 = .ok (.if_icmp .lt 5, 3) := by decide +kernel
theorem d_P_byteAt_20 : decode c_P_byteAt 20 = .ok (.iconst 0, 1) := by decide +kernel
theorem d_P_byteAt_21 : decode c_P_byteAt 21 = .ok (.ireturn, 1) := by decide +kernel
theorem d_P_byteAt_22 : decode c_P_byteAt 22 = .ok (.aload_n 0, 1) := by decide +kernel
theorem d_P_byteAt_23 : decode c_P_byteAt 23 = .ok (.getfield 9, 3) := by decide +kernel
theorem d_P_byteAt_26 : decode c_P_byteAt 26 = .ok (.iload_n 1, 1) := by decide +kernel
theorem d_P_byteAt_27 : decode c_P_byteAt 27 = .ok (.baload, 1) := by decide +kernel
theorem d_P_byteAt_28 : decode c_P_byteAt 28 = .ok (.sipush 255, 3) := by decide +kernel
theorem d_P_byteAt_31 : decode c_P_byteAt 31 = .ok (.iand, 1) := by decide +kernel
theorem d_P_byteAt_32 : decode c_P_byteAt 32 = .ok (.ireturn, 1) := by decide +kernel
theorem d_C_releaseHeld_0 : decode c_C_releaseHeld 0 = .ok (.aload_n 0, 1) := by decide +kernel
theorem d_C_releaseHeld_1 : decode c_C_releaseHeld 1 = .ok (.getfield 11, 3) := by decide +kernel
theorem d_C_releaseHeld_4 : decode c_C_releaseHeld 4 = .ok (.astore_n 1, 1) := by decide +kernel
theorem d_C_releaseHeld_5 : decode c_C_releaseHeld 5 = .ok (.aload_n 1, 1) := by decide +kernel
theorem d_C_releaseHeld_6 : decode c_C_releaseHeld 6 = .ok (.arraylength, 1) := by decide +kernel
theorem d_C_releaseHeld_7 : decode c_C_releaseHeld 7 = .ok (.istore_n 2, 1) := by decide +kernel
theorem d_C_releaseHeld_8 : decode c_C_releaseHeld 8 = .ok (.iconst 0, 1) := by decide +kernel
theorem d_C_releaseHeld_9 : decode c_C_releaseHeld 9 = .ok (.istore_n 3, 1) := by decide +kernel
theorem d_C_releaseHeld_10 : decode c_C_releaseHeld 10 = .ok (.iload_n 3, 1) := by decide +kernel
theorem d_C_releaseHeld_11 : decode c_C_releaseHeld 11 = .ok (.iload_n 2, 1) := by decide +kernel
theorem d_C_releaseHeld_12 : decode c_C_releaseHeld 12 = .ok (.if_icmp .ge 20, 3) := by decide +kernel
theorem d_C_releaseHeld_15 : decode c_C_releaseHeld 15 = .ok (.aload_n 1, 1) := by decide +kernel
theorem d_C_releaseHeld_16 : decode c_C_releaseHeld 16 = .ok (.iload_n 3, 1) := by decide +kernel
theorem d_C_releaseHeld_17 : decode c_C_releaseHeld 17 = .ok (.aaload, 1) := by decide +kernel
theorem d_C_releaseHeld_18 : decode c_C_releaseHeld 18 = .ok (.astore 4, 2) := by decide +kernel
theorem d_C_releaseHeld_20 : decode c_C_releaseHeld 20 = .ok (.aload 4, 2) := by decide +kernel
theorem d_C_releaseHeld_22 : decode c_C_releaseHeld 22 = .ok (.iconst 0, 1) := by decide +kernel
theorem d_C_releaseHeld_23 : decode c_C_releaseHeld 23 = .ok (.putfield 53, 3) := by decide +kernel
theorem d_C_releaseHeld_26 : decode c_C_releaseHeld 26 = .ok (.iinc 3 1, 3) := by decide +kernel
theorem d_C_releaseHeld_29 : decode c_C_releaseHeld 29 = .ok (.goto (-19), 3) := by decide +kernel
theorem d_C_releaseHeld_32 : decode c_C_releaseHeld 32 = .ok (.return_, 1) := by decide +kernel
theorem d_C_makeEmpty_0 : decode c_C_makeEmpty 0 = .ok (.aload_n 0, 1) := by decide +kernel
theorem d_C_makeEmpty_1 : decode c_C_makeEmpty 1 = .ok (.getfield 11, 3) := by decide +kernel
theorem d_C_makeEmpty_4 : decode c_C_makeEmpty 4 = .ok (.astore_n 1, 1) := by decide +kernel
theorem d_C_makeEmpty_5 : decode c_C_makeEmpty 5 = .ok (.aload_n 1, 1) := by decide +kernel
theorem d_C_makeEmpty_6 : decode c_C_makeEmpty 6 = .ok (.arraylength, 1) := by decide +kernel
theorem d_C_makeEmpty_7 : decode c_C_makeEmpty 7 = .ok (.istore_n 2, 1) := by decide +kernel
theorem d_C_makeEmpty_8 : decode c_C_makeEmpty 8 = .ok (.iconst 0, 1) := by decide +kernel
theorem d_C_makeEmpty_9 : decode c_C_makeEmpty 9 = .ok (.istore_n 3, 1) := by decide +kernel
theorem d_C_makeEmpty_10 : decode c_C_makeEmpty 10 = .ok (.iload_n 3, 1) := by decide +kernel
theorem d_C_makeEmpty_11 : decode c_C_makeEmpty 11 = .ok (.iload_n 2, 1) := by decide +kernel
theorem d_C_makeEmpty_12 : decode c_C_makeEmpty 12 = .ok (.if_icmp .ge 19, 3) := by decide +kernel
theorem d_C_makeEmpty_15 : decode c_C_makeEmpty 15 = .ok (.aload_n 1, 1) := by decide +kernel
theorem d_C_makeEmpty_16 : decode c_C_makeEmpty 16 = .ok (.iload_n 3, 1) := by decide +kernel
theorem d_C_makeEmpty_17 : decode c_C_makeEmpty 17 = .ok (.aaload, 1) := by decide +kernel
theorem d_C_makeEmpty_18 : decode c_C_makeEmpty 18 = .ok (.astore 4, 2) := by decide +kernel
theorem d_C_makeEmpty_20 : decode c_C_makeEmpty 20 = .ok (.aload 4, 2) := by decide +kernel
theorem d_C_makeEmpty_22 : decode c_C_makeEmpty 22 = .ok (.invokevirtual 60, 3) := by decide +kernel
theorem d_C_makeEmpty_25 : decode c_C_makeEmpty 25 = .ok (.iinc 3 1, 3) := by decide +kernel
theorem d_C_makeEmpty_28 : decode c_C_makeEmpty 28 = .ok (.goto (-18), 3) := by decide +kernel
theorem d_C_makeEmpty_31 : decode c_C_makeEmpty 31 = .ok (.return_, 1) := by decide +kernel
theorem d_R_makeEmpty_0 : decode c_R_makeEmpty 0 = .ok (.aload_n 0, 1) := by decide +kernel
theorem d_R_makeEmpty_1 : decode c_R_makeEmpty 1 = .ok (.iconst (-1), 1) := by decide +kernel
theorem d_R_makeEmpty_2 : decode c_R_makeEmpty 2 = .ok (.putfield 18, 3) := by decide +kernel
theorem d_R_makeEmpty_5 : decode c_R_makeEmpty 5 = .ok (.aload_n 0, 1) := by decide +kernel
theorem d_R_makeEmpty_6 : decode c_R_makeEmpty 6 = .ok (.iconst 0, 1) := by decide +kernel
theorem d_R_makeEmpty_7 : decode c_R_makeEmpty 7 = .ok (.putfield 22, 3) := by decide +kernel
theorem d_R_makeEmpty_10 : decode c_R_makeEmpty 10 = .ok (.aload_n 0, 1) := by decide +kernel
theorem d_R_makeEmpty_11 : decode c_R_makeEmpty 11 = .ok (.iconst 0, 1) := by decide +kernel
theorem d_R_makeEmpty_12 : decode c_R_makeEmpty 12 = .ok (.putfield 25, 3) := by decide +kernel
theorem d_R_makeEmpty_15 : decode c_R_makeEmpty 15 = .ok (.aload_n 0, 1) := by decide +kernel
theorem d_R_makeEmpty_16 : decode c_R_makeEmpty 16 = .ok (.iconst 0, 1) := by decide +kernel
theorem d_R_makeEmpty_17 : decode c_R_makeEmpty 17 = .ok (.putfield 29, 3) := by decide +kernel
theorem d_R_makeEmpty_20 : decode c_R_makeEmpty 20 = .ok (.return_, 1) := by decide +kernel
theorem d_V_flush_0 : decode c_V_flush 0 = .ok (.aload_n 0, 1) := by decide +kernel
theorem d_V_flush_1 : decode c_V_flush 1 = .ok (.getfield 25, 3) := by decide +kernel
theorem d_V_flush_4 : decode c_V_flush 4 = .ok (.invokevirtual 47, 3) := by decide +kernel
theorem d_V_flush_7 : decode c_V_flush 7 = .ok (.ifCond .eq 10, 3) := by decide +kernel
theorem d_V_flush_10 : decode c_V_flush 10 = .ok (.aload_n 0, 1) := by decide +kernel
theorem d_V_flush_11 : decode c_V_flush 11 = .ok (.getfield 43, 3) := by decide +kernel
theorem d_V_flush_14 : decode c_V_flush 14 = .ok (.ifCond .eq 5, 3) := by decide +kernel
theorem d_V_flush_17 : decode c_V_flush 17 = .ok (.iconst (-1), 1) := by decide +kernel
theorem d_V_flush_18 : decode c_V_flush 18 = .ok (.ireturn, 1) := by decide +kernel
theorem d_V_flush_19 : decode c_V_flush 19 = .ok (.aload_n 0, 1) := by decide +kernel
theorem d_V_flush_20 : decode c_V_flush 20 = .ok (.getfield 32, 3) := by decide +kernel
theorem d_V_flush_23 : decode c_V_flush 23 = .ok (.invokevirtual 54, 3) := by decide +kernel
theorem d_V_flush_26 : decode c_V_flush 26 = .ok (.istore_n 1, 1) := by decide +kernel
theorem d_V_flush_27 : decode c_V_flush 27 = .ok (.iload_n 1, 1) := by decide +kernel
theorem d_V_flush_28 : decode c_V_flush 28 = .ok (.ifCond .ne 5, 3) := by decide +kernel
theorem d_V_flush_31 : decode c_V_flush 31 = .ok (.iconst 0, 1) := by decide +kernel
theorem d_V_flush_32 : decode c_V_flush 32 = .ok (.ireturn, 1) := by decide +kernel
theorem d_V_flush_33 : decode c_V_flush 33 = .ok (.aload_n 0, 1) := by decide +kernel
theorem d_V_flush_34 : decode c_V_flush 34 = .ok (.invokevirtual 58, 3) := by decide +kernel
theorem d_V_flush_37 : decode c_V_flush 37 = .ok (.ifCond .eq 7, 3) := by decide +kernel
theorem d_V_flush_40 : decode c_V_flush 40 = .ok (.iload_n 1, 1) := by decide +kernel
theorem d_V_flush_41 : decode c_V_flush 41 = .ok (.goto 4, 3) := by decide +kernel
theorem d_V_flush_44 : decode c_V_flush 44 = .ok (.iconst (-1), 1) := by decide +kernel
theorem d_V_flush_45 : decode c_V_flush 45 = .ok (.ireturn, 1) := by decide +kernel
theorem d_V_get_0 : decode c_V_get 0 = .ok (.aload_n 0, 1) := by decide +kernel
theorem d_V_get_1 : decode c_V_get 1 = .ok (.getfield 25, 3) := by decide +kernel
theorem d_V_get_4 : decode c_V_get 4 = .ok (.invokevirtual 47, 3) := by decide +kernel
theorem d_V_get_7 : decode c_V_get 7 = .ok (.ifCond .eq 22, 3) := by decide +kernel
theorem d_V_get_10 : decode c_V_get 10 = .ok (.aload_n 0, 1) := by decide +kernel
theorem d_V_get_11 : decode c_V_get 11 = .ok (.iload_n 1, 1) := by decide +kernel
theorem d_V_get_12 : decode c_V_get 12 = .ok (.invokevirtual 61, 3) := by decide +kernel
theorem d_V_get_15 : decode c_V_get 15 = .ok (.ifCond .eq 14, 3) := by decide +kernel
theorem d_V_get_18 : decode c_V_get 18 = .ok (.iload_n 2, 1) := by decide +kernel
theorem d_V_get_19 : decode c_V_get 19 = .ok (.ifCond .lt 10, 3) := by decide +kernel
theorem d_V_get_22 : decode c_V_get 22 = .ok (.iload_n 2, 1) := by decide +kernel
theorem d_V_get_23 : decode c_V_get 23 = .ok (.sipush 1024, 3) := by decide +kernel
theorem d_V_get_26 : decode c_V_get 26 = .ok (.if_icmp .lt 5, 3) := by decide +kernel
theorem d_V_get_29 : decode c_V_get 29 = .ok (.iconst (-1), 1) := by decide +kernel
theorem d_V_get_30 : decode c_V_get 30 = .ok (.ireturn, 1) := by decide +kernel
theorem d_V_get_31 : decode c_V_get 31 = .ok (.aload_n 0, 1) := by decide +kernel
theorem d_V_get_32 : decode c_V_get 32 = .ok (.getfield 32, 3) := by decide +kernel
theorem d_V_get_35 : decode c_V_get 35 = .ok (.iload_n 1, 1) := by decide +kernel
theorem d_V_get_36 : decode c_V_get 36 = .ok (.aload_n 0, 1) := by decide +kernel
theorem d_V_get_37 : decode c_V_get 37 = .ok (.getfield 25, 3) := by decide +kernel
theorem d_V_get_40 : decode c_V_get 40 = .ok (.invokevirtual 65, 3) := by decide +kernel
theorem d_V_get_43 : decode c_V_get 43 = .ok (.getfield 69, 3) := by decide +kernel
theorem d_V_get_46 : decode c_V_get 46 = .ok (.iload_n 2, 1) := by decide +kernel
theorem d_V_get_47 : decode c_V_get 47 = .ok (.invokevirtual 75, 3) := by decide +kernel
theorem d_V_get_50 : decode c_V_get 50 = .ok (.ireturn, 1) := by decide +kernel
theorem d_V_isBlock_0 : decode c_V_isBlock 0 = .ok (.iload_n 1, 1) := by decide +kernel
theorem d_V_isBlock_1 : decode c_V_isBlock 1 = .ok (.iconst 2, 1) := by decide +kernel
theorem d_V_isBlock_2 : decode c_V_isBlock 2 = .ok (.if_icmp .lt 13, 3) := by decide +kernel
theorem d_V_isBlock_5 : decode c_V_isBlock 5 = .ok (.iload_n 1, 1) := by decide +kernel
theorem d_V_isBlock_6 : decode c_V_isBlock 6 = .ok (.bipush 32, 2) := by decide +kernel
theorem d_V_isBlock_8 : decode c_V_isBlock 8 = .ok (.if_icmp .gt 7, 3) := by decide +kernel
theorem d_V_isBlock_11 : decode c_V_isBlock 11 = .ok (.iconst 1, 1) := by decide +kernel
theorem d_V_isBlock_12 : decode c_V_isBlock 12 = .ok (.goto 4, 3) := by decide +kernel
theorem d_V_isBlock_15 : decode c_V_isBlock 15 = .ok (.iconst 0, 1) := by decide +kernel
theorem d_V_isBlock_16 : decode c_V_isBlock 16 = .ok (.istore_n 2, 1) := by decide +kernel
theorem d_V_isBlock_17 : decode c_V_isBlock 17 = .ok (.iload_n 1, 1) := by decide +kernel
theorem d_V_isBlock_18 : decode c_V_isBlock 18 = .ok (.ifCond .lt 19, 3) := by decide +kernel
theorem d_V_isBlock_21 : decode c_V_isBlock 21 = .ok (.iload_n 1, 1) := by decide +kernel
theorem d_V_isBlock_22 : decode c_V_isBlock 22 = .ok (.aload_n 0, 1) := by decide +kernel
theorem d_V_isBlock_23 : decode c_V_isBlock 23 = .ok (.getfield 18, 3) := by decide +kernel
theorem d_V_isBlock_26 : decode c_V_isBlock 26 = .ok (.if_icmp .ge 11, 3) := by decide +kernel
theorem d_V_isBlock_29 : decode c_V_isBlock 29 = .ok (.iload_n 2, 1) := by decide +kernel
theorem d_V_isBlock_30 : decode c_V_isBlock 30 = .ok (.ifCond .ne 7, 3) := by decide +kernel
theorem d_V_isBlock_33 : decode c_V_isBlock 33 = .ok (.iconst 1, 1) := by decide +kernel
theorem d_V_isBlock_34 : decode c_V_isBlock 34 = .ok (.goto 4, 3) := by decide +kernel
theorem d_V_isBlock_37 : decode c_V_isBlock 37 = .ok (.iconst 0, 1) := by decide +kernel
theorem d_V_isBlock_38 : decode c_V_isBlock 38 = .ok (.ireturn, 1) := by decide +kernel
theorem d_C_lookAt_0 : decode c_C_lookAt 0 = .ok (.aload_n 0, 1) := by decide +kernel
theorem d_C_lookAt_1 : decode c_C_lookAt 1 = .ok (.iload_n 1, 1) := by decide +kernel
theorem d_C_lookAt_2 : decode c_C_lookAt 2 = .ok (.invokevirtual 28, 3) := by decide +kernel
theorem d_C_lookAt_5 : decode c_C_lookAt 5 = .ok (.astore_n 3, 1) := by decide +kernel
theorem d_C_lookAt_6 : decode c_C_lookAt 6 = .ok (.aload_n 3, 1) := by decide +kernel
theorem d_C_lookAt_7 : decode c_C_lookAt 7 = .ok (.ifnonnull 32, 3) := by decide +kernel
theorem d_C_lookAt_10 : decode c_C_lookAt 10 = .ok (.aload_n 0, 1) := by decide +kernel
theorem d_C_lookAt_11 : decode c_C_lookAt 11 = .ok (.invokevirtual 32, 3) := by decide +kernel
theorem d_C_lookAt_14 : decode c_C_lookAt 14 = .ok (.astore_n 3, 1) := by decide +kernel
theorem d_C_lookAt_15 : decode c_C_lookAt 15 = .ok (.aload_n 3, 1) := by decide +kernel
theorem d_C_lookAt_16 : decode c_C_lookAt 16 = .ok (.iload_n 1, 1) := by decide +kernel
theorem d_C_lookAt_17 : decode c_C_lookAt 17 = .ok (.putfield 25, 3) := by decide +kernel
theorem d_C_lookAt_20 : decode c_C_lookAt 20 = .ok (.aload_n 2, 1) := by decide +kernel
theorem d_C_lookAt_21 : decode c_C_lookAt 21 = .ok (.iload_n 1, 1) := by decide +kernel
theorem d_C_lookAt_22 : decode c_C_lookAt 22 = .ok (.aload_n 3, 1) := by decide +kernel
theorem d_C_lookAt_23 : decode c_C_lookAt 23 = .ok (.getfield 36, 3) := by decide +kernel
theorem d_C_lookAt_26 : decode c_C_lookAt 26 = .ok (.invokevirtual 40, 3) := by decide +kernel
theorem d_C_lookAt_29 : decode c_C_lookAt 29 = .ok (.aload_n 0, 1) := by decide +kernel
theorem d_C_lookAt_30 : decode c_C_lookAt 30 = .ok (.dup, 1) := by decide +kernel
theorem d_C_lookAt_31 : decode c_C_lookAt 31 = .ok (.getfield 22, 3) := by decide +kernel
theorem d_C_lookAt_34 : decode c_C_lookAt 34 = .ok (.iconst 1, 1) := by decide +kernel
theorem d_C_lookAt_35 : decode c_C_lookAt 35 = .ok (.iadd, 1) := by decide +kernel
theorem d_C_lookAt_36 : decode c_C_lookAt 36 = .ok (.putfield 22, 3) := by decide +kernel
theorem d_C_lookAt_39 : decode c_C_lookAt 39 = .ok (.aload_n 0, 1) := by decide +kernel
theorem d_C_lookAt_40 : decode c_C_lookAt 40 = .ok (.dup, 1) := by decide +kernel
theorem d_C_lookAt_41 : decode c_C_lookAt 41 = .ok (.getfield 18, 3) := by decide +kernel
theorem d_C_lookAt_44 : decode c_C_lookAt 44 = .ok (.iconst 1, 1) := by decide +kernel
theorem d_C_lookAt_45 : decode c_C_lookAt 45 = .ok (.iadd, 1) := by decide +kernel
theorem d_C_lookAt_46 : decode c_C_lookAt 46 = .ok (.putfield 18, 3) := by decide +kernel
theorem d_C_lookAt_49 : decode c_C_lookAt 49 = .ok (.aload_n 3, 1) := by decide +kernel
theorem d_C_lookAt_50 : decode c_C_lookAt 50 = .ok (.aload_n 0, 1) := by decide +kernel
theorem d_C_lookAt_51 : decode c_C_lookAt 51 = .ok (.getfield 18, 3) := by decide +kernel
theorem d_C_lookAt_54 : decode c_C_lookAt 54 = .ok (.putfield 46, 3) := by decide +kernel
theorem d_C_lookAt_57 : decode c_C_lookAt 57 = .ok (.aload_n 3, 1) := by decide +kernel
theorem d_C_lookAt_58 : decode c_C_lookAt 58 = .ok (.areturn, 1) := by decide +kernel
theorem d_C_rowOf_0 : decode c_C_rowOf 0 = .ok (.aload_n 0, 1) := by decide +kernel
theorem d_C_rowOf_1 : decode c_C_rowOf 1 = .ok (.getfield 11, 3) := by decide +kernel
theorem d_C_rowOf_4 : decode c_C_rowOf 4 = .ok (.astore_n 2, 1) := by decide +kernel
theorem d_C_rowOf_5 : decode c_C_rowOf 5 = .ok (.aload_n 2, 1) := by decide +kernel
theorem d_C_rowOf_6 : decode c_C_rowOf 6 = .ok (.arraylength, 1) := by decide +kernel
theorem d_C_rowOf_7 : decode c_C_rowOf 7 = .ok (.istore_n 3, 1) := by decide +kernel
theorem d_C_rowOf_8 : decode c_C_rowOf 8 = .ok (.iconst 0, 1) := by decide +kernel
theorem d_C_rowOf_9 : decode c_C_rowOf 9 = .ok (.istore 4, 2) := by decide +kernel
theorem d_C_rowOf_11 : decode c_C_rowOf 11 = .ok (.iload 4, 2) := by decide +kernel
theorem d_C_rowOf_13 : decode c_C_rowOf 13 = .ok (.iload_n 3, 1) := by decide +kernel
theorem d_C_rowOf_14 : decode c_C_rowOf 14 = .ok (.if_icmp .ge 27, 3) := by decide +kernel
theorem d_C_rowOf_17 : decode c_C_rowOf 17 = .ok (.aload_n 2, 1) := by decide +kernel
theorem d_C_rowOf_18 : decode c_C_rowOf 18 = .ok (.iload 4, 2) := by decide +kernel
theorem d_C_rowOf_20 : decode c_C_rowOf 20 = .ok (.aaload, 1) := by decide +kernel
theorem d_C_rowOf_21 : decode c_C_rowOf 21 = .ok (.astore 5, 2) := by decide +kernel
theorem d_C_rowOf_23 : decode c_C_rowOf 23 = .ok (.aload 5, 2) := by decide +kernel
theorem d_C_rowOf_25 : decode c_C_rowOf 25 = .ok (.getfield 25, 3) := by decide +kernel
theorem d_C_rowOf_28 : decode c_C_rowOf 28 = .ok (.iload_n 1, 1) := by decide +kernel
theorem d_C_rowOf_29 : decode c_C_rowOf 29 = .ok (.if_icmp .ne 6, 3) := by decide +kernel
theorem d_C_rowOf_32 : decode c_C_rowOf 32 = .ok (.aload 5, 2) := by decide +kernel
theorem d_C_rowOf_34 : decode c_C_rowOf 34 = .ok (.areturn, 1) := by decide +kernel
theorem d_C_rowOf_35 : decode c_C_rowOf 35 = .ok (.iinc 4 1, 3) := by decide +kernel
theorem d_C_rowOf_38 : decode c_C_rowOf 38 = .ok (.goto (-27), 3) := by decide +kernel
theorem d_C_rowOf_41 : decode c_C_rowOf 41 = .ok (.aconst_null, 1) := by decide +kernel
theorem d_C_rowOf_42 : decode c_C_rowOf 42 = .ok (.areturn, 1) := by decide +kernel
theorem d_C_rowToGive_0 : decode c_C_rowToGive 0 = .ok (.aload_n 0, 1) := by decide +kernel
theorem d_C_rowToGive_1 : decode c_C_rowToGive 1 = .ok (.getfield 11, 3) := by decide +kernel
theorem d_C_rowToGive_4 : decode c_C_rowToGive 4 = .ok (.iconst 0, 1) := by decide +kernel
theorem d_C_rowToGive_5 : decode c_C_rowToGive 5 = .ok (.aaload, 1) := by decide +kernel
theorem d_C_rowToGive_6 : decode c_C_rowToGive 6 = .ok (.astore_n 1, 1) := by decide +kernel
theorem d_C_rowToGive_7 : decode c_C_rowToGive 7 = .ok (.aload_n 0, 1) := by decide +kernel
theorem d_C_rowToGive_8 : decode c_C_rowToGive 8 = .ok (.getfield 11, 3) := by decide +kernel
theorem d_C_rowToGive_11 : decode c_C_rowToGive 11 = .ok (.astore_n 2, 1) := by decide +kernel
theorem d_C_rowToGive_12 : decode c_C_rowToGive 12 = .ok (.aload_n 2, 1) := by decide +kernel
theorem d_C_rowToGive_13 : decode c_C_rowToGive 13 = .ok (.arraylength, 1) := by decide +kernel
theorem d_C_rowToGive_14 : decode c_C_rowToGive 14 = .ok (.istore_n 3, 1) := by decide +kernel
theorem d_C_rowToGive_15 : decode c_C_rowToGive 15 = .ok (.iconst 0, 1) := by decide +kernel
theorem d_C_rowToGive_16 : decode c_C_rowToGive 16 = .ok (.istore 4, 2) := by decide +kernel
theorem d_C_rowToGive_18 : decode c_C_rowToGive 18 = .ok (.iload 4, 2) := by decide +kernel
theorem d_C_rowToGive_20 : decode c_C_rowToGive 20 = .ok (.iload_n 3, 1) := by decide +kernel
theorem d_C_rowToGive_21 : decode c_C_rowToGive 21 = .ok (.if_icmp .ge 27, 3) := by decide +kernel
theorem d_C_rowToGive_24 : decode c_C_rowToGive 24 = .ok (.aload_n 2, 1) := by decide +kernel
theorem d_C_rowToGive_25 : decode c_C_rowToGive 25 = .ok (.iload 4, 2) := by decide +kernel
theorem d_C_rowToGive_27 : decode c_C_rowToGive 27 = .ok (.aaload, 1) := by decide +kernel
theorem d_C_rowToGive_28 : decode c_C_rowToGive 28 = .ok (.astore 5, 2) := by decide +kernel
theorem d_C_rowToGive_30 : decode c_C_rowToGive 30 = .ok (.aload 5, 2) := by decide +kernel
theorem d_C_rowToGive_32 : decode c_C_rowToGive 32 = .ok (.aload_n 1, 1) := by decide +kernel
theorem d_C_rowToGive_33 : decode c_C_rowToGive 33 = .ok (.invokevirtual 49, 3) := by decide +kernel
theorem d_C_rowToGive_36 : decode c_C_rowToGive 36 = .ok (.ifCond .eq 6, 3) := by decide +kernel
theorem d_C_rowToGive_39 : decode c_C_rowToGive 39 = .ok (.aload 5, 2) := by decide +kernel
theorem d_C_rowToGive_41 : decode c_C_rowToGive 41 = .ok (.astore_n 1, 1) := by decide +kernel
theorem d_C_rowToGive_42 : decode c_C_rowToGive 42 = .ok (.iinc 4 1, 3) := by decide +kernel
theorem d_C_rowToGive_45 : decode c_C_rowToGive 45 = .ok (.goto (-27), 3) := by decide +kernel
theorem d_C_rowToGive_48 : decode c_C_rowToGive 48 = .ok (.aload_n 1, 1) := by decide +kernel
theorem d_C_rowToGive_49 : decode c_C_rowToGive 49 = .ok (.areturn, 1) := by decide +kernel
theorem d_R_givesWayBefore_0 : decode c_R_givesWayBefore 0 = .ok (.aload_n 0, 1) := by decide +kernel
theorem d_R_givesWayBefore_1 : decode c_R_givesWayBefore 1 = .ok (.getfield 25, 3) := by decide +kernel
theorem d_R_givesWayBefore_4 : decode c_R_givesWayBefore 4 = .ok (.aload_n 1, 1) := by decide +kernel
theorem d_R_givesWayBefore_5 : decode c_R_givesWayBefore 5 = .ok (.getfield 25, 3) := by decide +kernel
theorem d_R_givesWayBefore_8 : decode c_R_givesWayBefore 8 = .ok (.if_icmp .eq 8, 3) := by decide +kernel
theorem d_R_givesWayBefore_11 : decode c_R_givesWayBefore 11 = .ok (.aload_n 1, 1) := by decide +kernel
theorem d_R_givesWayBefore_12 : decode c_R_givesWayBefore 12 = .ok (.getfield 25, 3) := by decide +kernel
theorem d_R_givesWayBefore_15 : decode c_R_givesWayBefore 15 = .ok (.ireturn, 1) := by decide +kernel
theorem d_R_givesWayBefore_16 : decode c_R_givesWayBefore 16 = .ok (.aload_n 0, 1) := by decide +kernel
theorem d_R_givesWayBefore_17 : decode c_R_givesWayBefore 17 = .ok (.getfield 22, 3) := by decide +kernel
theorem d_R_givesWayBefore_20 : decode c_R_givesWayBefore 20 = .ok (.aload_n 1, 1) := by decide +kernel
theorem d_R_givesWayBefore_21 : decode c_R_givesWayBefore 21 = .ok (.getfield 22, 3) := by decide +kernel
theorem d_R_givesWayBefore_24 : decode c_R_givesWayBefore 24 = .ok (.if_icmp .ge 7, 3) := by decide +kernel
theorem d_R_givesWayBefore_27 : decode c_R_givesWayBefore 27 = .ok (.iconst 1, 1) := by decide +kernel
theorem d_R_givesWayBefore_28 : decode c_R_givesWayBefore 28 = .ok (.goto 4, 3) := by decide +kernel
theorem d_R_givesWayBefore_31 : decode c_R_givesWayBefore 31 = .ok (.iconst 0, 1) := by decide +kernel
theorem d_R_givesWayBefore_32 : decode c_R_givesWayBefore 32 = .ok (.ireturn, 1) := by decide +kernel
theorem d_V_fill_0 : decode c_V_fill 0 = .ok (.aload_n 0, 1) := by decide +kernel
theorem d_V_fill_1 : decode c_V_fill 1 = .ok (.getfield 25, 3) := by decide +kernel
theorem d_V_fill_4 : decode c_V_fill 4 = .ok (.invokevirtual 47, 3) := by decide +kernel
theorem d_V_fill_7 : decode c_V_fill 7 = .ok (.ifCond .eq 34, 3) := by decide +kernel
theorem d_V_fill_10 : decode c_V_fill 10 = .ok (.aload_n 0, 1) := by decide +kernel
theorem d_V_fill_11 : decode c_V_fill 11 = .ok (.getfield 43, 3) := by decide +kernel
theorem d_V_fill_14 : decode c_V_fill 14 = .ok (.ifCond .eq 27, 3) := by decide +kernel
theorem d_V_fill_17 : decode c_V_fill 17 = .ok (.aload_n 0, 1) := by decide +kernel
theorem d_V_fill_18 : decode c_V_fill 18 = .ok (.iload_n 1, 1) := by decide +kernel
theorem d_V_fill_19 : decode c_V_fill 19 = .ok (.invokevirtual 61, 3) := by decide +kernel
theorem d_V_fill_22 : decode c_V_fill 22 = .ok (.ifCond .eq 19, 3) := by decide +kernel
theorem d_V_fill_25 : decode c_V_fill 25 = .ok (.iload_n 2, 1) := by decide +kernel
theorem d_V_fill_26 : decode c_V_fill 26 = .ok (.iload_n 3, 1) := by decide +kernel
theorem d_V_fill_27 : decode c_V_fill 27 = .ok (.invokestatic 81, 3) := by decide +kernel
theorem d_V_fill_30 : decode c_V_fill 30 = .ok (.ifCond .eq 11, 3) := by decide +kernel
theorem d_V_fill_33 : decode c_V_fill 33 = .ok (.aload_n 0, 1) := by decide +kernel
theorem d_V_fill_34 : decode c_V_fill 34 = .ok (.iload_n 1, 1) := by decide +kernel
theorem d_V_fill_35 : decode c_V_fill 35 = .ok (.invokevirtual 85, 3) := by decide +kernel
theorem d_V_fill_38 : decode c_V_fill 38 = .ok (.ifCond .ne 5, 3) := by decide +kernel
theorem d_V_fill_41 : decode c_V_fill 41 = .ok (.iconst 0, 1) := by decide +kernel
theorem d_V_fill_42 : decode c_V_fill 42 = .ok (.ireturn, 1) := by decide +kernel
theorem d_V_fill_43 : decode c_V_fill 43 = .ok (.aload_n 0, 1) := by decide +kernel
theorem d_V_fill_44 : decode c_V_fill 44 = .ok (.getfield 32, 3) := by decide +kernel
theorem d_V_fill_47 : decode c_V_fill 47 = .ok (.iload_n 1, 1) := by decide +kernel
theorem d_V_fill_48 : decode c_V_fill 48 = .ok (.aload_n 0, 1) := by decide +kernel
theorem d_V_fill_49 : decode c_V_fill 49 = .ok (.getfield 25, 3) := by decide +kernel
theorem d_V_fill_52 : decode c_V_fill 52 = .ok (.invokevirtual 65, 3) := by decide +kernel
theorem d_V_fill_55 : decode c_V_fill 55 = .ok (.astore 5, 2) := by decide +kernel
theorem d_V_fill_57 : decode c_V_fill 57 = .ok (.aload 5, 2) := by decide +kernel
theorem d_V_fill_59 : decode c_V_fill 59 = .ok (.iconst 1, 1) := by decide +kernel
theorem d_V_fill_60 : decode c_V_fill 60 = .ok (.putfield 88, 3) := by decide +kernel
theorem d_V_fill_63 : decode c_V_fill 63 = .ok (.aload 5, 2) := by decide +kernel
theorem d_V_fill_65 : decode c_V_fill 65 = .ok (.iconst 1, 1) := by decide +kernel
theorem d_V_fill_66 : decode c_V_fill 66 = .ok (.putfield 91, 3) := by decide +kernel
theorem d_V_fill_69 : decode c_V_fill 69 = .ok (.aload 5, 2) := by decide +kernel
theorem d_V_fill_71 : decode c_V_fill 71 = .ok (.getfield 69, 3) := by decide +kernel
theorem d_V_fill_74 : decode c_V_fill 74 = .ok (.iload_n 2, 1) := by decide +kernel
theorem d_V_fill_75 : decode c_V_fill 75 = .ok (.iload_n 3, 1) := by decide +kernel
theorem d_V_fill_76 : decode c_V_fill 76 = .ok (.iload 4, 2) := by decide +kernel
theorem d_V_fill_78 : decode c_V_fill 78 = .ok (.invokevirtual 94, 3) := by decide +kernel
theorem d_V_fill_81 : decode c_V_fill 81 = .ok (.iconst 1, 1) := by decide +kernel
theorem d_V_fill_82 : decode c_V_fill 82 = .ok (.ireturn, 1) := by decide +kernel
theorem d_V_stepTakes_0 : decode c_V_stepTakes 0 = .ok (.aload_n 0, 1) := by decide +kernel
theorem d_V_stepTakes_1 : decode c_V_stepTakes 1 = .ok (.getfield 32, 3) := by decide +kernel
theorem d_V_stepTakes_4 : decode c_V_stepTakes 4 = .ok (.iload_n 1, 1) := by decide +kernel
theorem d_V_stepTakes_5 : decode c_V_stepTakes 5 = .ok (.invokevirtual 121, 3) := by decide +kernel
theorem d_V_stepTakes_8 : decode c_V_stepTakes 8 = .ok (.astore_n 2, 1) := by decide +kernel
theorem d_V_stepTakes_9 : decode c_V_stepTakes 9 = .ok (.aload_n 2, 1) := by decide +kernel
theorem d_V_stepTakes_10 : decode c_V_stepTakes 10 = .ok (.ifnull 14, 3) := by decide +kernel
theorem d_V_stepTakes_13 : decode c_V_stepTakes 13 = .ok (.aload_n 2, 1) := by decide +kernel
theorem d_V_stepTakes_14 : decode c_V_stepTakes 14 = .ok (.getfield 91, 3) := by decide +kernel
theorem d_V_stepTakes_17 : decode c_V_stepTakes 17 = .ok (.ifCond .eq 7, 3) := by decide +kernel
theorem d_V_stepTakes_20 : decode c_V_stepTakes 20 = .ok (.iconst 1, 1) := by decide +kernel
theorem d_V_stepTakes_21 : decode c_V_stepTakes 21 = .ok (.goto 4, 3) := by decide +kernel
theorem d_V_stepTakes_24 : decode c_V_stepTakes 24 = .ok (.iconst 0, 1) := by decide +kernel
theorem d_V_stepTakes_25 : decode c_V_stepTakes 25 = .ok (.istore_n 3, 1) := by decide +kernel
theorem d_V_stepTakes_26 : decode c_V_stepTakes 26 = .ok (.iload_n 3, 1) := by decide +kernel
theorem d_V_stepTakes_27 : decode c_V_stepTakes 27 = .ok (.ifCond .ne 15, 3) := by decide +kernel
theorem d_V_stepTakes_30 : decode c_V_stepTakes 30 = .ok (.aload_n 0, 1) := by decide +kernel
theorem d_V_stepTakes_31 : decode c_V_stepTakes 31 = .ok (.getfield 32, 3) := by decide +kernel
theorem d_V_stepTakes_34 : decode c_V_stepTakes 34 = .ok (.invokevirtual 109, 3) := by decide +kernel
theorem d_V_stepTakes_37 : decode c_V_stepTakes 37 = .ok (.bipush 10, 2) := by decide +kernel
theorem d_V_stepTakes_39 : decode c_V_stepTakes 39 = .ok (.if_icmp .ge 7, 3) := by decide +kernel
theorem d_V_stepTakes_42 : decode c_V_stepTakes 42 = .ok (.iconst 1, 1) := by decide +kernel
theorem d_V_stepTakes_43 : decode c_V_stepTakes 43 = .ok (.goto 4, 3) := by decide +kernel
theorem d_V_stepTakes_46 : decode c_V_stepTakes 46 = .ok (.iconst 0, 1) := by decide +kernel
theorem d_V_stepTakes_47 : decode c_V_stepTakes 47 = .ok (.ireturn, 1) := by decide +kernel
theorem d_C_stepRows_0 : decode c_C_stepRows 0 = .ok (.iconst 0, 1) := by decide +kernel
theorem d_C_stepRows_1 : decode c_C_stepRows 1 = .ok (.istore_n 1, 1) := by decide +kernel
theorem d_C_stepRows_2 : decode c_C_stepRows 2 = .ok (.aload_n 0, 1) := by decide +kernel
theorem d_C_stepRows_3 : decode c_C_stepRows 3 = .ok (.getfield 11, 3) := by decide +kernel
theorem d_C_stepRows_6 : decode c_C_stepRows 6 = .ok (.astore_n 2, 1) := by decide +kernel
theorem d_C_stepRows_7 : decode c_C_stepRows 7 = .ok (.aload_n 2, 1) := by decide +kernel
theorem d_C_stepRows_8 : decode c_C_stepRows 8 = .ok (.arraylength, 1) := by decide +kernel
theorem d_C_stepRows_9 : decode c_C_stepRows 9 = .ok (.istore_n 3, 1) := by decide +kernel
theorem d_C_stepRows_10 : decode c_C_stepRows 10 = .ok (.iconst 0, 1) := by decide +kernel
theorem d_C_stepRows_11 : decode c_C_stepRows 11 = .ok (.istore 4, 2) := by decide +kernel
theorem d_C_stepRows_13 : decode c_C_stepRows 13 = .ok (.iload 4, 2) := by decide +kernel
theorem d_C_stepRows_15 : decode c_C_stepRows 15 = .ok (.iload_n 3, 1) := by decide +kernel
theorem d_C_stepRows_16 : decode c_C_stepRows 16 = .ok (.if_icmp .ge 26, 3) := by decide +kernel
theorem d_C_stepRows_19 : decode c_C_stepRows 19 = .ok (.aload_n 2, 1) := by decide +kernel
theorem d_C_stepRows_20 : decode c_C_stepRows 20 = .ok (.iload 4, 2) := by decide +kernel
theorem d_C_stepRows_22 : decode c_C_stepRows 22 = .ok (.aaload, 1) := by decide +kernel
theorem d_C_stepRows_23 : decode c_C_stepRows 23 = .ok (.astore 5, 2) := by decide +kernel
theorem d_C_stepRows_25 : decode c_C_stepRows 25 = .ok (.aload 5, 2) := by decide +kernel
theorem d_C_stepRows_27 : decode c_C_stepRows 27 = .ok (.getfield 57, 3) := by decide +kernel
theorem d_C_stepRows_30 : decode c_C_stepRows 30 = .ok (.ifCond .eq 6, 3) := by decide +kernel
theorem d_C_stepRows_33 : decode c_C_stepRows 33 = .ok (.iinc 1 1, 3) := by decide +kernel
theorem d_C_stepRows_36 : decode c_C_stepRows 36 = .ok (.iinc 4 1, 3) := by decide +kernel
theorem d_C_stepRows_39 : decode c_C_stepRows 39 = .ok (.goto (-26), 3) := by decide +kernel
theorem d_C_stepRows_42 : decode c_C_stepRows 42 = .ok (.iload_n 1, 1) := by decide +kernel
theorem d_C_stepRows_43 : decode c_C_stepRows 43 = .ok (.ireturn, 1) := by decide +kernel
theorem d_V_cut_0 : decode c_V_cut 0 = .ok (.aload_n 0, 1) := by decide +kernel
theorem d_V_cut_1 : decode c_V_cut 1 = .ok (.getfield 25, 3) := by decide +kernel
theorem d_V_cut_4 : decode c_V_cut 4 = .ok (.invokevirtual 47, 3) := by decide +kernel
theorem d_V_cut_7 : decode c_V_cut 7 = .ok (.ifCond .ne 5, 3) := by decide +kernel
theorem d_V_cut_10 : decode c_V_cut 10 = .ok (.iconst 0, 1) := by decide +kernel
theorem d_V_cut_11 : decode c_V_cut 11 = .ok (.ireturn, 1) := by decide +kernel
theorem d_V_cut_12 : decode c_V_cut 12 = .ok (.aload_n 0, 1) := by decide +kernel
theorem d_V_cut_13 : decode c_V_cut 13 = .ok (.getfield 25, 3) := by decide +kernel
theorem d_V_cut_16 : decode c_V_cut 16 = .ok (.iload_n 1, 1) := by decide +kernel
theorem d_V_cut_17 : decode c_V_cut 17 = .ok (.invokevirtual 98, 3) := by decide +kernel
theorem d_V_cut_20 : decode c_V_cut 20 = .ok (.iconst 1, 1) := by decide +kernel
theorem d_V_cut_21 : decode c_V_cut 21 = .ok (.ireturn, 1) := by decide +kernel
theorem d_D_goAfter_0 : decode c_D_goAfter 0 = .ok (.aload_n 0, 1) := by decide +kernel
theorem d_D_goAfter_1 : decode c_D_goAfter 1 = .ok (.iload_n 1, 1) := by decide +kernel
theorem d_D_goAfter_2 : decode c_D_goAfter 2 = .ok (.putfield 22, 3) := by decide +kernel
theorem d_D_goAfter_5 : decode c_D_goAfter 5 = .ok (.return_, 1) := by decide +kernel
theorem d_V_power_0 : decode c_V_power 0 = .ok (.aload_n 0, 1) := by decide +kernel
theorem d_V_power_1 : decode c_V_power 1 = .ok (.getfield 25, 3) := by decide +kernel
theorem d_V_power_4 : decode c_V_power 4 = .ok (.invokevirtual 47, 3) := by decide +kernel
theorem d_V_power_7 : decode c_V_power 7 = .ok (.ifCond .eq 5, 3) := by decide +kernel
theorem d_V_power_10 : decode c_V_power 10 = .ok (.iconst (-1), 1) := by decide +kernel
theorem d_V_power_11 : decode c_V_power 11 = .ok (.ireturn, 1) := by decide +kernel
theorem d_V_power_12 : decode c_V_power 12 = .ok (.aload_n 0, 1) := by decide +kernel
theorem d_V_power_13 : decode c_V_power 13 = .ok (.getfield 25, 3) := by decide +kernel
theorem d_V_power_16 : decode c_V_power 16 = .ok (.invokevirtual 102, 3) := by decide +kernel
theorem d_V_power_19 : decode c_V_power 19 = .ok (.aload_n 0, 1) := by decide +kernel
theorem d_V_power_20 : decode c_V_power 20 = .ok (.getfield 25, 3) := by decide +kernel
theorem d_V_power_23 : decode c_V_power 23 = .ok (.iload_n 1, 1) := by decide +kernel
theorem d_V_power_24 : decode c_V_power 24 = .ok (.invokevirtual 98, 3) := by decide +kernel
theorem d_V_power_27 : decode c_V_power 27 = .ok (.aload_n 0, 1) := by decide +kernel
theorem d_V_power_28 : decode c_V_power 28 = .ok (.getfield 39, 3) := by decide +kernel
theorem d_V_power_31 : decode c_V_power 31 = .ok (.aload_n 0, 1) := by decide +kernel
theorem d_V_power_32 : decode c_V_power 32 = .ok (.getfield 25, 3) := by decide +kernel
theorem d_V_power_35 : decode c_V_power 35 = .ok (.invokevirtual 105, 3) := by decide +kernel
theorem d_V_power_38 : decode c_V_power 38 = .ok (.ireturn, 1) := by decide +kernel
theorem d_D_comeBack_0 : decode c_D_comeBack 0 = .ok (.aload_n 0, 1) := by decide +kernel
theorem d_D_comeBack_1 : decode c_D_comeBack 1 = .ok (.iconst 1, 1) := by decide +kernel
theorem d_D_comeBack_2 : decode c_D_comeBack 2 = .ok (.putfield 18, 3) := by decide +kernel
theorem d_D_comeBack_5 : decode c_D_comeBack 5 = .ok (.return_, 1) := by decide +kernel
theorem d_V_count_0 : decode c_V_count 0 = .ok (.iload_n 1, 1) := by decide +kernel
theorem d_V_count_1 : decode c_V_count 1 = .ok (.tableswitch 115 0 6 #[43, 59, 64, 72, 91, 99, 107], 43) := by decide +kernel
theorem d_V_count_44 : decode c_V_count 44 = .ok (.aload_n 0, 1) := by decide +kernel
theorem d_V_count_45 : decode c_V_count 45 = .ok (.getfield 25, 3) := by decide +kernel
theorem d_V_count_48 : decode c_V_count 48 = .ok (.invokevirtual 47, 3) := by decide +kernel
theorem d_V_count_51 : decode c_V_count 51 = .ok (.ifCond .eq 7, 3) := by decide +kernel
theorem d_V_count_54 : decode c_V_count 54 = .ok (.iconst 1, 1) := by decide +kernel
theorem d_V_count_55 : decode c_V_count 55 = .ok (.goto 4, 3) := by decide +kernel
theorem d_V_count_58 : decode c_V_count 58 = .ok (.iconst 0, 1) := by decide +kernel
theorem d_V_count_59 : decode c_V_count 59 = .ok (.ireturn, 1) := by decide +kernel
theorem d_V_count_60 : decode c_V_count 60 = .ok (.aload_n 0, 1) := by decide +kernel
theorem d_V_count_61 : decode c_V_count 61 = .ok (.getfield 18, 3) := by decide +kernel
theorem d_V_count_64 : decode c_V_count 64 = .ok (.ireturn, 1) := by decide +kernel
theorem d_V_count_65 : decode c_V_count 65 = .ok (.aload_n 0, 1) := by decide +kernel
theorem d_V_count_66 : decode c_V_count 66 = .ok (.getfield 32, 3) := by decide +kernel
theorem d_V_count_69 : decode c_V_count 69 = .ok (.invokevirtual 54, 3) := by decide +kernel
theorem d_V_count_72 : decode c_V_count 72 = .ok (.ireturn, 1) := by decide +kernel
theorem d_V_count_73 : decode c_V_count 73 = .ok (.aload_n 0, 1) := by decide +kernel
theorem d_V_count_74 : decode c_V_count 74 = .ok (.getfield 43, 3) := by decide +kernel
theorem d_V_count_77 : decode c_V_count 77 = .ok (.ifCond .eq 13, 3) := by decide +kernel
theorem d_V_count_80 : decode c_V_count 80 = .ok (.aload_n 0, 1) := by decide +kernel
theorem d_V_count_81 : decode c_V_count 81 = .ok (.getfield 32, 3) := by decide +kernel
theorem d_V_count_84 : decode c_V_count 84 = .ok (.invokevirtual 109, 3) := by decide +kernel
theorem d_V_count_87 : decode c_V_count 87 = .ok (.goto 4, 3) := by decide +kernel
theorem d_V_count_90 : decode c_V_count 90 = .ok (.iconst (-1), 1) := by decide +kernel
theorem d_V_count_91 : decode c_V_count 91 = .ok (.ireturn, 1) := by decide +kernel
theorem d_V_count_92 : decode c_V_count 92 = .ok (.aload_n 0, 1) := by decide +kernel
theorem d_V_count_93 : decode c_V_count 93 = .ok (.getfield 25, 3) := by decide +kernel
theorem d_V_count_96 : decode c_V_count 96 = .ok (.invokevirtual 112, 3) := by decide +kernel
theorem d_V_count_99 : decode c_V_count 99 = .ok (.ireturn, 1) := by decide +kernel
theorem d_V_count_100 : decode c_V_count 100 = .ok (.aload_n 0, 1) := by decide +kernel
theorem d_V_count_101 : decode c_V_count 101 = .ok (.getfield 32, 3) := by decide +kernel
theorem d_V_count_104 : decode c_V_count 104 = .ok (.invokevirtual 115, 3) := by decide +kernel
theorem d_V_count_107 : decode c_V_count 107 = .ok (.ireturn, 1) := by decide +kernel
theorem d_V_count_108 : decode c_V_count 108 = .ok (.aload_n 0, 1) := by decide +kernel
theorem d_V_count_109 : decode c_V_count 109 = .ok (.getfield 39, 3) := by decide +kernel
theorem d_V_count_112 : decode c_V_count 112 = .ok (.invokevirtual 118, 3) := by decide +kernel
theorem d_V_count_115 : decode c_V_count 115 = .ok (.ireturn, 1) := by decide +kernel
theorem d_V_count_116 : decode c_V_count 116 = .ok (.iconst (-1), 1) := by decide +kernel
theorem d_V_count_117 : decode c_V_count 117 = .ok (.ireturn, 1) := by decide +kernel
theorem d_D_writesMade_0 : decode c_D_writesMade 0 = .ok (.aload_n 0, 1) := by decide +kernel
theorem d_D_writesMade_1 : decode c_D_writesMade 1 = .ok (.getfield 26, 3) := by decide +kernel
theorem d_D_writesMade_4 : decode c_D_writesMade 4 = .ok (.ireturn, 1) := by decide +kernel
theorem d_C_readsMade_0 : decode c_C_readsMade 0 = .ok (.aload_n 0, 1) := by decide +kernel
theorem d_C_readsMade_1 : decode c_C_readsMade 1 = .ok (.getfield 22, 3) := by decide +kernel
theorem d_C_readsMade_4 : decode c_C_readsMade 4 = .ok (.ireturn, 1) := by decide +kernel
theorem d_L_commitsCounted_0 : decode c_L_commitsCounted 0 = .ok (.aload_n 0, 1) := by decide +kernel
theorem d_L_commitsCounted_1 : decode c_L_commitsCounted 1 = .ok (.getfield 21, 3) := by decide +kernel
theorem d_L_commitsCounted_4 : decode c_L_commitsCounted 4 = .ok (.ireturn, 1) := by decide +kernel
theorem d_V_held_0 : decode c_V_held 0 = .ok (.aload_n 0, 1) := by decide +kernel
theorem d_V_held_1 : decode c_V_held 1 = .ok (.getfield 25, 3) := by decide +kernel
theorem d_V_held_4 : decode c_V_held 4 = .ok (.invokevirtual 47, 3) := by decide +kernel
theorem d_V_held_7 : decode c_V_held 7 = .ok (.ifCond .eq 11, 3) := by decide +kernel
theorem d_V_held_10 : decode c_V_held 10 = .ok (.aload_n 0, 1) := by decide +kernel
theorem d_V_held_11 : decode c_V_held 11 = .ok (.iload_n 1, 1) := by decide +kernel
theorem d_V_held_12 : decode c_V_held 12 = .ok (.invokevirtual 61, 3) := by decide +kernel
theorem d_V_held_15 : decode c_V_held 15 = .ok (.ifCond .ne 5, 3) := by decide +kernel
theorem d_V_held_18 : decode c_V_held 18 = .ok (.iconst 0, 1) := by decide +kernel
theorem d_V_held_19 : decode c_V_held 19 = .ok (.ireturn, 1) := by decide +kernel
theorem d_V_held_20 : decode c_V_held 20 = .ok (.aload_n 0, 1) := by decide +kernel
theorem d_V_held_21 : decode c_V_held 21 = .ok (.getfield 32, 3) := by decide +kernel
theorem d_V_held_24 : decode c_V_held 24 = .ok (.iload_n 1, 1) := by decide +kernel
theorem d_V_held_25 : decode c_V_held 25 = .ok (.invokevirtual 121, 3) := by decide +kernel
theorem d_V_held_28 : decode c_V_held 28 = .ok (.astore_n 2, 1) := by decide +kernel
theorem d_V_held_29 : decode c_V_held 29 = .ok (.aload_n 2, 1) := by decide +kernel
theorem d_V_held_30 : decode c_V_held 30 = .ok (.ifnull 14, 3) := by decide +kernel
theorem d_V_held_33 : decode c_V_held 33 = .ok (.aload_n 2, 1) := by decide +kernel
theorem d_V_held_34 : decode c_V_held 34 = .ok (.getfield 88, 3) := by decide +kernel
theorem d_V_held_37 : decode c_V_held 37 = .ok (.ifCond .eq 7, 3) := by decide +kernel
theorem d_V_held_40 : decode c_V_held 40 = .ok (.iconst 1, 1) := by decide +kernel
theorem d_V_held_41 : decode c_V_held 41 = .ok (.goto 4, 3) := by decide +kernel
theorem d_V_held_44 : decode c_V_held 44 = .ok (.iconst 0, 1) := by decide +kernel
theorem d_V_held_45 : decode c_V_held 45 = .ok (.ireturn, 1) := by decide +kernel
theorem d_V_cached_0 : decode c_V_cached 0 = .ok (.aload_n 0, 1) := by decide +kernel
theorem d_V_cached_1 : decode c_V_cached 1 = .ok (.getfield 25, 3) := by decide +kernel
theorem d_V_cached_4 : decode c_V_cached 4 = .ok (.invokevirtual 47, 3) := by decide +kernel
theorem d_V_cached_7 : decode c_V_cached 7 = .ok (.ifCond .eq 26, 3) := by decide +kernel
theorem d_V_cached_10 : decode c_V_cached 10 = .ok (.aload_n 0, 1) := by decide +kernel
theorem d_V_cached_11 : decode c_V_cached 11 = .ok (.iload_n 1, 1) := by decide +kernel
theorem d_V_cached_12 : decode c_V_cached 12 = .ok (.invokevirtual 61, 3) := by decide +kernel
theorem d_V_cached_15 : decode c_V_cached 15 = .ok (.ifCond .eq 18, 3) := by decide +kernel
theorem d_V_cached_18 : decode c_V_cached 18 = .ok (.aload_n 0, 1) := by decide +kernel
theorem d_V_cached_19 : decode c_V_cached 19 = .ok (.getfield 32, 3) := by decide +kernel
theorem d_V_cached_22 : decode c_V_cached 22 = .ok (.iload_n 1, 1) := by decide +kernel
theorem d_V_cached_23 : decode c_V_cached 23 = .ok (.invokevirtual 121, 3) := by decide +kernel
theorem d_V_cached_26 : decode c_V_cached 26 = .ok (.ifnull 7, 3) := by decide +kernel
theorem d_V_cached_29 : decode c_V_cached 29 = .ok (.iconst 1, 1) := by decide +kernel
theorem d_V_cached_30 : decode c_V_cached 30 = .ok (.goto 4, 3) := by decide +kernel
theorem d_V_cached_33 : decode c_V_cached 33 = .ok (.iconst 0, 1) := by decide +kernel
theorem d_V_cached_34 : decode c_V_cached 34 = .ok (.ireturn, 1) := by decide +kernel
theorem d_W_cell_0 : decode c_W_cell 0 = .ok (.iload_n 1, 1) := by decide +kernel
theorem d_W_cell_1 : decode c_W_cell 1 = .ok (.aload_n 0, 1) := by decide +kernel
theorem d_W_cell_2 : decode c_W_cell 2 = .ok (.arraylength, 1) := by decide +kernel
theorem d_W_cell_3 : decode c_W_cell 3 = .ok (.if_icmp .ge 9, 3) := by decide +kernel
theorem d_W_cell_6 : decode c_W_cell 6 = .ok (.aload_n 0, 1) := by decide +kernel
theorem d_W_cell_7 : decode c_W_cell 7 = .ok (.iload_n 1, 1) := by decide +kernel
theorem d_W_cell_8 : decode c_W_cell 8 = .ok (.iaload, 1) := by decide +kernel
theorem d_W_cell_9 : decode c_W_cell 9 = .ok (.goto 4, 3) := by decide +kernel
theorem d_W_cell_12 : decode c_W_cell 12 = .ok (.iconst 0, 1) := by decide +kernel
theorem d_W_cell_13 : decode c_W_cell 13 = .ok (.ireturn, 1) := by decide +kernel
theorem d_M_init_0 : decode c_M_init 0 = .ok (.aload_n 0, 1) := by decide +kernel
theorem d_M_init_1 : decode c_M_init 1 = .ok (.invokespecial 1, 3) := by decide +kernel
theorem d_M_init_4 : decode c_M_init 4 = .ok (.aload_n 0, 1) := by decide +kernel
theorem d_M_init_5 : decode c_M_init 5 = .ok (.ldc 7, 2) := by decide +kernel
theorem d_M_init_7 : decode c_M_init 7 = .ok (.newarray .byte, 2) := by decide +kernel
theorem d_M_init_9 : decode c_M_init 9 = .ok (.putfield 8, 3) := by decide +kernel
theorem d_M_init_12 : decode c_M_init 12 = .ok (.aload_n 0, 1) := by decide +kernel
theorem d_M_init_13 : decode c_M_init 13 = .ok (.ldc 7, 2) := by decide +kernel
theorem d_M_init_15 : decode c_M_init 15 = .ok (.newarray .byte, 2) := by decide +kernel
theorem d_M_init_17 : decode c_M_init 17 = .ok (.putfield 14, 3) := by decide +kernel
theorem d_M_init_20 : decode c_M_init 20 = .ok (.aload_n 0, 1) := by decide +kernel
theorem d_M_init_21 : decode c_M_init 21 = .ok (.bipush 80, 2) := by decide +kernel
theorem d_M_init_23 : decode c_M_init 23 = .ok (.newarray .boolean, 2) := by decide +kernel
theorem d_M_init_25 : decode c_M_init 25 = .ok (.putfield 17, 3) := by decide +kernel
theorem d_M_init_28 : decode c_M_init 28 = .ok (.aload_n 0, 1) := by decide +kernel
theorem d_M_init_29 : decode c_M_init 29 = .ok (.bipush 80, 2) := by decide +kernel
theorem d_M_init_31 : decode c_M_init 31 = .ok (.newarray .boolean, 2) := by decide +kernel
theorem d_M_init_33 : decode c_M_init 33 = .ok (.putfield 21, 3) := by decide +kernel
theorem d_M_init_36 : decode c_M_init 36 = .ok (.aload_n 0, 1) := by decide +kernel
theorem d_M_init_37 : decode c_M_init 37 = .ok (.bipush 80, 2) := by decide +kernel
theorem d_M_init_39 : decode c_M_init 39 = .ok (.newarray .int, 2) := by decide +kernel
theorem d_M_init_41 : decode c_M_init 41 = .ok (.putfield 24, 3) := by decide +kernel
theorem d_M_init_44 : decode c_M_init 44 = .ok (.aload_n 0, 1) := by decide +kernel
theorem d_M_init_45 : decode c_M_init 45 = .ok (.iconst 1, 1) := by decide +kernel
theorem d_M_init_46 : decode c_M_init 46 = .ok (.putfield 28, 3) := by decide +kernel
theorem d_M_init_49 : decode c_M_init 49 = .ok (.aload_n 0, 1) := by decide +kernel
theorem d_M_init_50 : decode c_M_init 50 = .ok (.iconst (-1), 1) := by decide +kernel
theorem d_M_init_51 : decode c_M_init 51 = .ok (.putfield 32, 3) := by decide +kernel
theorem d_M_init_54 : decode c_M_init 54 = .ok (.aload_n 0, 1) := by decide +kernel
theorem d_M_init_55 : decode c_M_init 55 = .ok (.iconst (-1), 1) := by decide +kernel
theorem d_M_init_56 : decode c_M_init 56 = .ok (.putfield 36, 3) := by decide +kernel
theorem d_M_init_59 : decode c_M_init 59 = .ok (.aload_n 0, 1) := by decide +kernel
theorem d_M_init_60 : decode c_M_init 60 = .ok (.iload_n 1, 1) := by decide +kernel
theorem d_M_init_61 : decode c_M_init 61 = .ok (.bipush 40, 2) := by decide +kernel
theorem d_M_init_63 : decode c_M_init 63 = .ok (.if_icmp .ge 8, 3) := by decide +kernel
theorem d_M_init_66 : decode c_M_init 66 = .ok (.bipush 40, 2) := by decide +kernel
theorem d_M_init_68 : decode c_M_init 68 = .ok (.goto 15, 3) := by decide +kernel
theorem d_M_init_71 : decode c_M_init 71 = .ok (.iload_n 1, 1) := by decide +kernel
theorem d_M_init_72 : decode c_M_init 72 = .ok (.bipush 80, 2) := by decide +kernel
theorem d_M_init_74 : decode c_M_init 74 = .ok (.if_icmp .le 8, 3) := by decide +kernel
theorem d_M_init_77 : decode c_M_init 77 = .ok (.bipush 80, 2) := by decide +kernel
theorem d_M_init_79 : decode c_M_init 79 = .ok (.goto 4, 3) := by decide +kernel
theorem d_M_init_82 : decode c_M_init 82 = .ok (.iload_n 1, 1) := by decide +kernel
theorem d_M_init_83 : decode c_M_init 83 = .ok (.putfield 39, 3) := by decide +kernel
theorem d_M_init_86 : decode c_M_init 86 = .ok (.return_, 1) := by decide +kernel
theorem d_M_begin_0 : decode c_M_begin 0 = .ok (.aload_n 0, 1) := by decide +kernel
theorem d_M_begin_1 : decode c_M_begin 1 = .ok (.iconst 0, 1) := by decide +kernel
theorem d_M_begin_2 : decode c_M_begin 2 = .ok (.putfield 42, 3) := by decide +kernel
theorem d_M_begin_5 : decode c_M_begin 5 = .ok (.aload_n 0, 1) := by decide +kernel
theorem d_M_begin_6 : decode c_M_begin 6 = .ok (.getfield 28, 3) := by decide +kernel
theorem d_M_begin_9 : decode c_M_begin 9 = .ok (.ifCond .eq 10, 3) := by decide +kernel
theorem d_M_begin_12 : decode c_M_begin 12 = .ok (.aload_n 0, 1) := by decide +kernel
theorem d_M_begin_13 : decode c_M_begin 13 = .ok (.getfield 45, 3) := by decide +kernel
theorem d_M_begin_16 : decode c_M_begin 16 = .ok (.ifCond .eq 5, 3) := by decide +kernel
theorem d_M_begin_19 : decode c_M_begin 19 = .ok (.iconst 0, 1) := by decide +kernel
theorem d_M_begin_20 : decode c_M_begin 20 = .ok (.ireturn, 1) := by decide +kernel
theorem d_M_begin_21 : decode c_M_begin 21 = .ok (.aload_n 0, 1) := by decide +kernel
theorem d_M_begin_22 : decode c_M_begin 22 = .ok (.iconst 1, 1) := by decide +kernel
theorem d_M_begin_23 : decode c_M_begin 23 = .ok (.putfield 45, 3) := by decide +kernel
theorem d_M_begin_26 : decode c_M_begin 26 = .ok (.iconst 0, 1) := by decide +kernel
theorem d_M_begin_27 : decode c_M_begin 27 = .ok (.istore_n 1, 1) := by decide +kernel
theorem d_M_begin_28 : decode c_M_begin 28 = .ok (.iload_n 1, 1) := by decide +kernel
theorem d_M_begin_29 : decode c_M_begin 29 = .ok (.bipush 80, 2) := by decide +kernel
theorem d_M_begin_31 : decode c_M_begin 31 = .ok (.if_icmp .ge 16, 3) := by decide +kernel
theorem d_M_begin_34 : decode c_M_begin 34 = .ok (.aload_n 0, 1) := by decide +kernel
theorem d_M_begin_35 : decode c_M_begin 35 = .ok (.getfield 21, 3) := by decide +kernel
theorem d_M_begin_38 : decode c_M_begin 38 = .ok (.iload_n 1, 1) := by decide +kernel
theorem d_M_begin_39 : decode c_M_begin 39 = .ok (.iconst 0, 1) := by decide +kernel
theorem d_M_begin_40 : decode c_M_begin 40 = .ok (.bastore, 1) := by decide +kernel
theorem d_M_begin_41 : decode c_M_begin 41 = .ok (.iinc 1 1, 3) := by decide +kernel
theorem d_M_begin_44 : decode c_M_begin 44 = .ok (.goto (-16), 3) := by decide +kernel
theorem d_M_begin_47 : decode c_M_begin 47 = .ok (.iconst 1, 1) := by decide +kernel
theorem d_M_begin_48 : decode c_M_begin 48 = .ok (.ireturn, 1) := by decide +kernel
theorem d_M_end_0 : decode c_M_end 0 = .ok (.aload_n 0, 1) := by decide +kernel
theorem d_M_end_1 : decode c_M_end 1 = .ok (.iconst 0, 1) := by decide +kernel
theorem d_M_end_2 : decode c_M_end 2 = .ok (.putfield 42, 3) := by decide +kernel
theorem d_M_end_5 : decode c_M_end 5 = .ok (.aload_n 0, 1) := by decide +kernel
theorem d_M_end_6 : decode c_M_end 6 = .ok (.getfield 28, 3) := by decide +kernel
theorem d_M_end_9 : decode c_M_end 9 = .ok (.ifCond .eq 10, 3) := by decide +kernel
theorem d_M_end_12 : decode c_M_end 12 = .ok (.aload_n 0, 1) := by decide +kernel
theorem d_M_end_13 : decode c_M_end 13 = .ok (.getfield 45, 3) := by decide +kernel
theorem d_M_end_16 : decode c_M_end 16 = .ok (.ifCond .ne 5, 3) := by decide +kernel
theorem d_M_end_19 : decode c_M_end 19 = .ok (.iconst (-1), 1) := by decide +kernel
theorem d_M_end_20 : decode c_M_end 20 = .ok (.ireturn, 1) := by decide +kernel
theorem d_M_end_21 : decode c_M_end 21 = .ok (.aload_n 0, 1) := by decide +kernel
theorem d_M_end_22 : decode c_M_end 22 = .ok (.iconst 0, 1) := by decide +kernel
theorem d_M_end_23 : decode c_M_end 23 = .ok (.putfield 45, 3) := by decide +kernel
theorem d_M_end_26 : decode c_M_end 26 = .ok (.aload_n 0, 1) := by decide +kernel
theorem d_M_end_27 : decode c_M_end 27 = .ok (.getfield 17, 3) := by decide +kernel
theorem d_M_end_30 : decode c_M_end 30 = .ok (.invokestatic 51, 3) := by decide +kernel
theorem d_M_end_33 : decode c_M_end 33 = .ok (.istore_n 1, 1) := by decide +kernel
theorem d_M_end_34 : decode c_M_end 34 = .ok (.iload_n 1, 1) := by decide +kernel
theorem d_M_end_35 : decode c_M_end 35 = .ok (.bipush 20, 2) := by decide +kernel
theorem d_M_end_37 : decode c_M_end 37 = .ok (.if_icmp .gt 5, 3) := by decide +kernel
theorem d_M_end_40 : decode c_M_end 40 = .ok (.iload_n 1, 1) := by decide +kernel
theorem d_M_end_41 : decode c_M_end 41 = .ok (.ireturn, 1) := by decide +kernel
theorem d_M_end_42 : decode c_M_end 42 = .ok (.aload_n 0, 1) := by decide +kernel
theorem d_M_end_43 : decode c_M_end 43 = .ok (.invokevirtual 66, 3) := by decide +kernel
theorem d_M_end_46 : decode c_M_end 46 = .ok (.ifCond .eq 7, 3) := by decide +kernel
theorem d_M_end_49 : decode c_M_end 49 = .ok (.iconst 0, 1) := by decide +kernel
theorem d_M_end_50 : decode c_M_end 50 = .ok (.goto 4, 3) := by decide +kernel
theorem d_M_end_53 : decode c_M_end 53 = .ok (.iconst (-1), 1) := by decide +kernel
theorem d_M_end_54 : decode c_M_end 54 = .ok (.ireturn, 1) := by decide +kernel
theorem d_M_many_0 : decode c_M_many 0 = .ok (.iconst 0, 1) := by decide +kernel
theorem d_M_many_1 : decode c_M_many 1 = .ok (.istore_n 1, 1) := by decide +kernel
theorem d_M_many_2 : decode c_M_many 2 = .ok (.iconst 0, 1) := by decide +kernel
theorem d_M_many_3 : decode c_M_many 3 = .ok (.istore_n 2, 1) := by decide +kernel
theorem d_M_many_4 : decode c_M_many 4 = .ok (.iload_n 2, 1) := by decide +kernel
theorem d_M_many_5 : decode c_M_many 5 = .ok (.bipush 80, 2) := by decide +kernel
theorem d_M_many_7 : decode c_M_many 7 = .ok (.if_icmp .ge 23, 3) := by decide +kernel
theorem d_M_many_10 : decode c_M_many 10 = .ok (.iload_n 1, 1) := by decide +kernel
theorem d_M_many_11 : decode c_M_many 11 = .ok (.aload_n 0, 1) := by decide +kernel
theorem d_M_many_12 : decode c_M_many 12 = .ok (.iload_n 2, 1) := by decide +kernel
theorem d_M_many_13 : decode c_M_many 13 = .ok (.baload, 1) := by decide +kernel
theorem d_M_many_14 : decode c_M_many 14 = .ok (.ifCond .eq 7, 3) := by decide +kernel
theorem d_M_many_17 : decode c_M_many 17 = .ok (.iconst 1, 1) := by decide +kernel
theorem d_M_many_18 : decode c_M_many 18 = .ok (.goto 4, 3) := by decide +kernel
theorem d_M_many_21 : decode c_M_many 21 = .ok (.iconst 0, 1) := by decide +kernel
theorem d_M_many_22 : decode c_M_many 22 = .ok (.iadd, 1) := by decide +kernel
theorem d_M_many_23 : decode c_M_many 23 = .ok (.istore_n 1, 1) := by decide +kernel
theorem d_M_many_24 : decode c_M_many 24 = .ok (.iinc 2 1, 3) := by decide +kernel
theorem d_M_many_27 : decode c_M_many 27 = .ok (.goto (-23), 3) := by decide +kernel
theorem d_M_many_30 : decode c_M_many 30 = .ok (.iload_n 1, 1) := by decide +kernel
theorem d_M_many_31 : decode c_M_many 31 = .ok (.ireturn, 1) := by decide +kernel
theorem d_M_commit_0 : decode c_M_commit 0 = .ok (.aload_n 0, 1) := by decide +kernel
theorem d_M_commit_1 : decode c_M_commit 1 = .ok (.getfield 17, 3) := by decide +kernel
theorem d_M_commit_4 : decode c_M_commit 4 = .ok (.invokestatic 51, 3) := by decide +kernel
theorem d_M_commit_7 : decode c_M_commit 7 = .ok (.istore_n 1, 1) := by decide +kernel
theorem d_M_commit_8 : decode c_M_commit 8 = .ok (.aload_n 0, 1) := by decide +kernel
theorem d_M_commit_9 : decode c_M_commit 9 = .ok (.iload_n 1, 1) := by decide +kernel
theorem d_M_commit_10 : decode c_M_commit 10 = .ok (.iconst 1, 1) := by decide +kernel
theorem d_M_commit_11 : decode c_M_commit 11 = .ok (.iadd, 1) := by decide +kernel
theorem d_M_commit_12 : decode c_M_commit 12 = .ok (.invokevirtual 55, 3) := by decide +kernel
theorem d_M_commit_15 : decode c_M_commit 15 = .ok (.ifCond .ne 5, 3) := by decide +kernel
theorem d_M_commit_18 : decode c_M_commit 18 = .ok (.iconst 0, 1) := by decide +kernel
theorem d_M_commit_19 : decode c_M_commit 19 = .ok (.ireturn, 1) := by decide +kernel
theorem d_M_commit_20 : decode c_M_commit 20 = .ok (.aload_n 0, 1) := by decide +kernel
theorem d_M_commit_21 : decode c_M_commit 21 = .ok (.dup, 1) := by decide +kernel
theorem d_M_commit_22 : decode c_M_commit 22 = .ok (.getfield 59, 3) := by decide +kernel
theorem d_M_commit_25 : decode c_M_commit 25 = .ok (.iconst 1, 1) := by decide +kernel
theorem d_M_commit_26 : decode c_M_commit 26 = .ok (.iadd, 1) := by decide +kernel
theorem d_M_commit_27 : decode c_M_commit 27 = .ok (.putfield 59, 3) := by decide +kernel
theorem d_M_commit_30 : decode c_M_commit 30 = .ok (.iconst 0, 1) := by decide +kernel
theorem d_M_commit_31 : decode c_M_commit 31 = .ok (.istore_n 2, 1) := by decide +kernel
theorem d_M_commit_32 : decode c_M_commit 32 = .ok (.iload_n 2, 1) := by decide +kernel
theorem d_M_commit_33 : decode c_M_commit 33 = .ok (.aload_n 0, 1) := by decide +kernel
theorem d_M_commit_34 : decode c_M_commit 34 = .ok (.getfield 39, 3) := by decide +kernel
theorem d_M_commit_37 : decode c_M_commit 37 = .ok (.if_icmp .ge 62, 3) := by decide +kernel
theorem d_M_commit_40 : decode c_M_commit 40 = .ok (.sipush 1024, 3) := by decide +kernel
theorem d_M_commit_43 : decode c_M_commit 43 = .ok (.iload_n 2, 1) := by decide +kernel
theorem d_M_commit_44 : decode c_M_commit 44 = .ok (.imul, 1) := by decide +kernel
theorem d_M_commit_45 : decode c_M_commit 45 = .ok (.istore_n 3, 1) := by decide +kernel
theorem d_M_commit_46 : decode c_M_commit 46 = .ok (.iload_n 3, 1) := by decide +kernel
theorem d_M_commit_47 : decode c_M_commit 47 = .ok (.sipush 1024, 3) := by decide +kernel
theorem d_M_commit_50 : decode c_M_commit 50 = .ok (.iload_n 2, 1) := by decide +kernel
theorem d_M_commit_51 : decode c_M_commit 51 = .ok (.imul, 1) := by decide +kernel
theorem d_M_commit_52 : decode c_M_commit 52 = .ok (.sipush 1024, 3) := by decide +kernel
theorem d_M_commit_55 : decode c_M_commit 55 = .ok (.iadd, 1) := by decide +kernel
theorem d_M_commit_56 : decode c_M_commit 56 = .ok (.if_icmp .ge 30, 3) := by decide +kernel
theorem d_M_commit_59 : decode c_M_commit 59 = .ok (.aload_n 0, 1) := by decide +kernel
theorem d_M_commit_60 : decode c_M_commit 60 = .ok (.getfield 17, 3) := by decide +kernel
theorem d_M_commit_63 : decode c_M_commit 63 = .ok (.iload_n 2, 1) := by decide +kernel
theorem d_M_commit_64 : decode c_M_commit 64 = .ok (.baload, 1) := by decide +kernel
theorem d_M_commit_65 : decode c_M_commit 65 = .ok (.ifCond .eq 21, 3) := by decide +kernel
theorem d_M_commit_68 : decode c_M_commit 68 = .ok (.aload_n 0, 1) := by decide +kernel
theorem d_M_commit_69 : decode c_M_commit 69 = .ok (.getfield 8, 3) := by decide +kernel
theorem d_M_commit_72 : decode c_M_commit 72 = .ok (.iload_n 3, 1) := by decide +kernel
theorem d_M_commit_73 : decode c_M_commit 73 = .ok (.aload_n 0, 1) := by decide +kernel
theorem d_M_commit_74 : decode c_M_commit 74 = .ok (.getfield 14, 3) := by decide +kernel
theorem d_M_commit_77 : decode c_M_commit 77 = .ok (.iload_n 3, 1) := by decide +kernel
theorem d_M_commit_78 : decode c_M_commit 78 = .ok (.baload, 1) := by decide +kernel
theorem d_M_commit_79 : decode c_M_commit 79 = .ok (.bastore, 1) := by decide +kernel
theorem d_M_commit_80 : decode c_M_commit 80 = .ok (.iinc 3 1, 3) := by decide +kernel
theorem d_M_commit_83 : decode c_M_commit 83 = .ok (.goto (-37), 3) := by decide +kernel
theorem d_M_commit_86 : decode c_M_commit 86 = .ok (.aload_n 0, 1) := by decide +kernel
theorem d_M_commit_87 : decode c_M_commit 87 = .ok (.getfield 17, 3) := by decide +kernel
theorem d_M_commit_90 : decode c_M_commit 90 = .ok (.iload_n 2, 1) := by decide +kernel
theorem d_M_commit_91 : decode c_M_commit 91 = .ok (.iconst 0, 1) := by decide +kernel
theorem d_M_commit_92 : decode c_M_commit 92 = .ok (.bastore, 1) := by decide +kernel
theorem d_M_commit_93 : decode c_M_commit 93 = .ok (.iinc 2 1, 3) := by decide +kernel
theorem d_M_commit_96 : decode c_M_commit 96 = .ok (.goto (-64), 3) := by decide +kernel
theorem d_M_commit_99 : decode c_M_commit 99 = .ok (.aload_n 0, 1) := by decide +kernel
theorem d_M_commit_100 : decode c_M_commit 100 = .ok (.iload_n 1, 1) := by decide +kernel
theorem d_M_commit_101 : decode c_M_commit 101 = .ok (.putfield 36, 3) := by decide +kernel
theorem d_M_commit_104 : decode c_M_commit 104 = .ok (.aload_n 0, 1) := by decide +kernel
theorem d_M_commit_105 : decode c_M_commit 105 = .ok (.invokevirtual 62, 3) := by decide +kernel
theorem d_M_commit_108 : decode c_M_commit 108 = .ok (.ireturn, 1) := by decide +kernel
theorem d_M_written_0 : decode c_M_written 0 = .ok (.aload_n 0, 1) := by decide +kernel
theorem d_M_written_1 : decode c_M_written 1 = .ok (.getfield 32, 3) := by decide +kernel
theorem d_M_written_4 : decode c_M_written 4 = .ok (.ifCond .lt 11, 3) := by decide +kernel
theorem d_M_written_7 : decode c_M_written 7 = .ok (.aload_n 0, 1) := by decide +kernel
theorem d_M_written_8 : decode c_M_written 8 = .ok (.getfield 32, 3) := by decide +kernel
theorem d_M_written_11 : decode c_M_written 11 = .ok (.iload_n 1, 1) := by decide +kernel
theorem d_M_written_12 : decode c_M_written 12 = .ok (.if_icmp .lt 39, 3) := by decide +kernel
theorem d_M_written_15 : decode c_M_written 15 = .ok (.aload_n 0, 1) := by decide +kernel
theorem d_M_written_16 : decode c_M_written 16 = .ok (.dup, 1) := by decide +kernel
theorem d_M_written_17 : decode c_M_written 17 = .ok (.getfield 48, 3) := by decide +kernel
theorem d_M_written_20 : decode c_M_written 20 = .ok (.iload_n 1, 1) := by decide +kernel
theorem d_M_written_21 : decode c_M_written 21 = .ok (.iadd, 1) := by decide +kernel
theorem d_M_written_22 : decode c_M_written 22 = .ok (.putfield 48, 3) := by decide +kernel
theorem d_M_written_25 : decode c_M_written 25 = .ok (.aload_n 0, 1) := by decide +kernel
theorem d_M_written_26 : decode c_M_written 26 = .ok (.aload_n 0, 1) := by decide +kernel
theorem d_M_written_27 : decode c_M_written 27 = .ok (.getfield 32, 3) := by decide +kernel
theorem d_M_written_30 : decode c_M_written 30 = .ok (.ifCond .ge 10, 3) := by decide +kernel
theorem d_M_written_33 : decode c_M_written 33 = .ok (.aload_n 0, 1) := by decide +kernel
theorem d_M_written_34 : decode c_M_written 34 = .ok (.getfield 32, 3) := by decide +kernel
theorem d_M_written_37 : decode c_M_written 37 = .ok (.goto 9, 3) := by decide +kernel
theorem d_M_written_40 : decode c_M_written 40 = .ok (.aload_n 0, 1) := by decide +kernel
theorem d_M_written_41 : decode c_M_written 41 = .ok (.getfield 32, 3) := by decide +kernel
theorem d_M_written_44 : decode c_M_written 44 = .ok (.iload_n 1, 1) := by decide +kernel
theorem d_M_written_45 : decode c_M_written 45 = .ok (.isub, 1) := by decide +kernel
theorem d_M_written_46 : decode c_M_written 46 = .ok (.putfield 32, 3) := by decide +kernel
theorem d_M_written_49 : decode c_M_written 49 = .ok (.iconst 1, 1) := by decide +kernel
theorem d_M_written_50 : decode c_M_written 50 = .ok (.ireturn, 1) := by decide +kernel
theorem d_M_written_51 : decode c_M_written 51 = .ok (.aload_n 0, 1) := by decide +kernel
theorem d_M_written_52 : decode c_M_written 52 = .ok (.dup, 1) := by decide +kernel
theorem d_M_written_53 : decode c_M_written 53 = .ok (.getfield 48, 3) := by decide +kernel
theorem d_M_written_56 : decode c_M_written 56 = .ok (.aload_n 0, 1) := by decide +kernel
theorem d_M_written_57 : decode c_M_written 57 = .ok (.getfield 32, 3) := by decide +kernel
theorem d_M_written_60 : decode c_M_written 60 = .ok (.iadd, 1) := by decide +kernel
theorem d_M_written_61 : decode c_M_written 61 = .ok (.putfield 48, 3) := by decide +kernel
theorem d_M_written_64 : decode c_M_written 64 = .ok (.aload_n 0, 1) := by decide +kernel
theorem d_M_written_65 : decode c_M_written 65 = .ok (.iconst (-1), 1) := by decide +kernel
theorem d_M_written_66 : decode c_M_written 66 = .ok (.putfield 32, 3) := by decide +kernel
theorem d_M_written_69 : decode c_M_written 69 = .ok (.aload_n 0, 1) := by decide +kernel
theorem d_M_written_70 : decode c_M_written 70 = .ok (.iconst 0, 1) := by decide +kernel
theorem d_M_written_71 : decode c_M_written 71 = .ok (.putfield 28, 3) := by decide +kernel
theorem d_M_written_74 : decode c_M_written 74 = .ok (.iconst 0, 1) := by decide +kernel
theorem d_M_written_75 : decode c_M_written 75 = .ok (.ireturn, 1) := by decide +kernel
theorem d_M_ended_0 : decode c_M_ended 0 = .ok (.aload_n 0, 1) := by decide +kernel
theorem d_M_ended_1 : decode c_M_ended 1 = .ok (.aload_n 0, 1) := by decide +kernel
theorem d_M_ended_2 : decode c_M_ended 2 = .ok (.getfield 36, 3) := by decide +kernel
theorem d_M_ended_5 : decode c_M_ended 5 = .ok (.iconst 1, 1) := by decide +kernel
theorem d_M_ended_6 : decode c_M_ended 6 = .ok (.iadd, 1) := by decide +kernel
theorem d_M_ended_7 : decode c_M_ended 7 = .ok (.invokevirtual 55, 3) := by decide +kernel
theorem d_M_ended_10 : decode c_M_ended 10 = .ok (.istore_n 1, 1) := by decide +kernel
theorem d_M_ended_11 : decode c_M_ended 11 = .ok (.aload_n 0, 1) := by decide +kernel
theorem d_M_ended_12 : decode c_M_ended 12 = .ok (.iload_n 1, 1) := by decide +kernel
theorem d_M_ended_13 : decode c_M_ended 13 = .ok (.ifCond .eq 7, 3) := by decide +kernel
theorem d_M_ended_16 : decode c_M_ended 16 = .ok (.iconst (-1), 1) := by decide +kernel
theorem d_M_ended_17 : decode c_M_ended 17 = .ok (.goto 7, 3) := by decide +kernel
theorem d_M_ended_20 : decode c_M_ended 20 = .ok (.aload_n 0, 1) := by decide +kernel
theorem d_M_ended_21 : decode c_M_ended 21 = .ok (.getfield 36, 3) := by decide +kernel
theorem d_M_ended_24 : decode c_M_ended 24 = .ok (.putfield 36, 3) := by decide +kernel
theorem d_M_ended_27 : decode c_M_ended 27 = .ok (.iload_n 1, 1) := by decide +kernel
theorem d_M_ended_28 : decode c_M_ended 28 = .ok (.ireturn, 1) := by decide +kernel
theorem d_M_flush_0 : decode c_M_flush 0 = .ok (.aload_n 0, 1) := by decide +kernel
theorem d_M_flush_1 : decode c_M_flush 1 = .ok (.iconst 0, 1) := by decide +kernel
theorem d_M_flush_2 : decode c_M_flush 2 = .ok (.putfield 42, 3) := by decide +kernel
theorem d_M_flush_5 : decode c_M_flush 5 = .ok (.aload_n 0, 1) := by decide +kernel
theorem d_M_flush_6 : decode c_M_flush 6 = .ok (.getfield 28, 3) := by decide +kernel
theorem d_M_flush_9 : decode c_M_flush 9 = .ok (.ifCond .eq 10, 3) := by decide +kernel
theorem d_M_flush_12 : decode c_M_flush 12 = .ok (.aload_n 0, 1) := by decide +kernel
theorem d_M_flush_13 : decode c_M_flush 13 = .ok (.getfield 45, 3) := by decide +kernel
theorem d_M_flush_16 : decode c_M_flush 16 = .ok (.ifCond .eq 5, 3) := by decide +kernel
theorem d_M_flush_19 : decode c_M_flush 19 = .ok (.iconst (-1), 1) := by decide +kernel
theorem d_M_flush_20 : decode c_M_flush 20 = .ok (.ireturn, 1) := by decide +kernel
theorem d_M_flush_21 : decode c_M_flush 21 = .ok (.aload_n 0, 1) := by decide +kernel
theorem d_M_flush_22 : decode c_M_flush 22 = .ok (.getfield 17, 3) := by decide +kernel
theorem d_M_flush_25 : decode c_M_flush 25 = .ok (.invokestatic 51, 3) := by decide +kernel
theorem d_M_flush_28 : decode c_M_flush 28 = .ok (.istore_n 1, 1) := by decide +kernel
theorem d_M_flush_29 : decode c_M_flush 29 = .ok (.iload_n 1, 1) := by decide +kernel
theorem d_M_flush_30 : decode c_M_flush 30 = .ok (.ifCond .eq 10, 3) := by decide +kernel
theorem d_M_flush_33 : decode c_M_flush 33 = .ok (.aload_n 0, 1) := by decide +kernel
theorem d_M_flush_34 : decode c_M_flush 34 = .ok (.invokevirtual 66, 3) := by decide +kernel
theorem d_M_flush_37 : decode c_M_flush 37 = .ok (.ifCond .eq 7, 3) := by decide +kernel
theorem d_M_flush_40 : decode c_M_flush 40 = .ok (.iload_n 1, 1) := by decide +kernel
theorem d_M_flush_41 : decode c_M_flush 41 = .ok (.goto 4, 3) := by decide +kernel
theorem d_M_flush_44 : decode c_M_flush 44 = .ok (.iconst (-1), 1) := by decide +kernel
theorem d_M_flush_45 : decode c_M_flush 45 = .ok (.ireturn, 1) := by decide +kernel
theorem d_M_get_0 : decode c_M_get 0 = .ok (.aload_n 0, 1) := by decide +kernel
theorem d_M_get_1 : decode c_M_get 1 = .ok (.iconst 0, 1) := by decide +kernel
theorem d_M_get_2 : decode c_M_get 2 = .ok (.putfield 42, 3) := by decide +kernel
theorem d_M_get_5 : decode c_M_get 5 = .ok (.aload_n 0, 1) := by decide +kernel
theorem d_M_get_6 : decode c_M_get 6 = .ok (.getfield 28, 3) := by decide +kernel
theorem d_M_get_9 : decode c_M_get 9 = .ok (.ifCond .eq 22, 3) := by decide +kernel
theorem d_M_get_12 : decode c_M_get 12 = .ok (.aload_n 0, 1) := by decide +kernel
theorem d_M_get_13 : decode c_M_get 13 = .ok (.iload_n 1, 1) := by decide +kernel
theorem d_M_get_14 : decode c_M_get 14 = .ok (.invokevirtual 75, 3) := by decide +kernel
theorem d_M_get_17 : decode c_M_get 17 = .ok (.ifCond .eq 14, 3) := by decide +kernel
theorem d_M_get_20 : decode c_M_get 20 = .ok (.iload_n 2, 1) := by decide +kernel
theorem d_M_get_21 : decode c_M_get 21 = .ok (.ifCond .lt 10, 3) := by decide +kernel
theorem d_M_get_24 : decode c_M_get 24 = .ok (.iload_n 2, 1) := by decide +kernel
theorem d_M_get_25 : decode c_M_get 25 = .ok (.sipush 1023, 3) := by decide +kernel
theorem d_M_get_28 : decode c_M_get 28 = .ok (.if_icmp .le 5, 3) := by decide +kernel
theorem d_M_get_31 : decode c_M_get 31 = .ok (.iconst (-1), 1) := by decide +kernel
theorem d_M_get_32 : decode c_M_get 32 = .ok (.ireturn, 1) := by decide +kernel
theorem d_M_get_33 : decode c_M_get 33 = .ok (.aload_n 0, 1) := by decide +kernel
theorem d_M_get_34 : decode c_M_get 34 = .ok (.iload_n 1, 1) := by decide +kernel
theorem d_M_get_35 : decode c_M_get 35 = .ok (.invokevirtual 78, 3) := by decide +kernel
theorem d_M_get_38 : decode c_M_get 38 = .ok (.aload_n 0, 1) := by decide +kernel
theorem d_M_get_39 : decode c_M_get 39 = .ok (.getfield 14, 3) := by decide +kernel
theorem d_M_get_42 : decode c_M_get 42 = .ok (.sipush 1024, 3) := by decide +kernel
theorem d_M_get_45 : decode c_M_get 45 = .ok (.iload_n 1, 1) := by decide +kernel
theorem d_M_get_46 : decode c_M_get 46 = .ok (.imul, 1) := by decide +kernel
theorem d_M_get_47 : decode c_M_get 47 = .ok (.iload_n 2, 1) := by decide +kernel
theorem d_M_get_48 : decode c_M_get 48 = .ok (.iadd, 1) := by decide +kernel
theorem d_M_get_49 : decode c_M_get 49 = .ok (.baload, 1) := by decide +kernel
theorem d_M_get_50 : decode c_M_get 50 = .ok (.sipush 255, 3) := by decide +kernel
theorem d_M_get_53 : decode c_M_get 53 = .ok (.iand, 1) := by decide +kernel
theorem d_M_get_54 : decode c_M_get 54 = .ok (.ireturn, 1) := by decide +kernel
theorem d_M_isBlock_0 : decode c_M_isBlock 0 = .ok (.iload_n 1, 1) := by decide +kernel
theorem d_M_isBlock_1 : decode c_M_isBlock 1 = .ok (.ifCond .lt 26, 3) := by decide +kernel
theorem d_M_isBlock_4 : decode c_M_isBlock 4 = .ok (.iload_n 1, 1) := by decide +kernel
theorem d_M_isBlock_5 : decode c_M_isBlock 5 = .ok (.aload_n 0, 1) := by decide +kernel
theorem d_M_isBlock_6 : decode c_M_isBlock 6 = .ok (.getfield 39, 3) := by decide +kernel
theorem d_M_isBlock_9 : decode c_M_isBlock 9 = .ok (.if_icmp .ge 18, 3) := by decide +kernel
theorem d_M_isBlock_12 : decode c_M_isBlock 12 = .ok (.iload_n 1, 1) := by decide +kernel
theorem d_M_isBlock_13 : decode c_M_isBlock 13 = .ok (.iconst 2, 1) := by decide +kernel
theorem d_M_isBlock_14 : decode c_M_isBlock 14 = .ok (.if_icmp .lt 9, 3) := by decide +kernel
theorem d_M_isBlock_17 : decode c_M_isBlock 17 = .ok (.iload_n 1, 1) := by decide +kernel
theorem d_M_isBlock_18 : decode c_M_isBlock 18 = .ok (.bipush 32, 2) := by decide +kernel
theorem d_M_isBlock_20 : decode c_M_isBlock 20 = .ok (.if_icmp .le 7, 3) := by decide +kernel
theorem d_M_isBlock_23 : decode c_M_isBlock 23 = .ok (.iconst 1, 1) := by decide +kernel
theorem d_M_isBlock_24 : decode c_M_isBlock 24 = .ok (.goto 4, 3) := by decide +kernel
theorem d_M_isBlock_27 : decode c_M_isBlock 27 = .ok (.iconst 0, 1) := by decide +kernel
theorem d_M_isBlock_28 : decode c_M_isBlock 28 = .ok (.ireturn, 1) := by decide +kernel
theorem d_M_look_0 : decode c_M_look 0 = .ok (.aload_n 0, 1) := by decide +kernel
theorem d_M_look_1 : decode c_M_look 1 = .ok (.getfield 24, 3) := by decide +kernel
theorem d_M_look_4 : decode c_M_look 4 = .ok (.iload_n 1, 1) := by decide +kernel
theorem d_M_look_5 : decode c_M_look 5 = .ok (.iaload, 1) := by decide +kernel
theorem d_M_look_6 : decode c_M_look 6 = .ok (.ifCond .ne 109, 3) := by decide +kernel
theorem d_M_look_9 : decode c_M_look 9 = .ok (.aload_n 0, 1) := by decide +kernel
theorem d_M_look_10 : decode c_M_look 10 = .ok (.dup, 1) := by decide +kernel
theorem d_M_look_11 : decode c_M_look 11 = .ok (.getfield 69, 3) := by decide +kernel
theorem d_M_look_14 : decode c_M_look 14 = .ok (.iconst 1, 1) := by decide +kernel
theorem d_M_look_15 : decode c_M_look 15 = .ok (.iadd, 1) := by decide +kernel
theorem d_M_look_16 : decode c_M_look 16 = .ok (.putfield 69, 3) := by decide +kernel
theorem d_M_look_19 : decode c_M_look 19 = .ok (.iconst 0, 1) := by decide +kernel
theorem d_M_look_20 : decode c_M_look 20 = .ok (.istore_n 2, 1) := by decide +kernel
theorem d_M_look_21 : decode c_M_look 21 = .ok (.iconst (-1), 1) := by decide +kernel
theorem d_M_look_22 : decode c_M_look 22 = .ok (.istore_n 3, 1) := by decide +kernel
theorem d_M_look_23 : decode c_M_look 23 = .ok (.iconst 0, 1) := by decide +kernel
theorem d_M_look_24 : decode c_M_look 24 = .ok (.istore 4, 2) := by decide +kernel
theorem d_M_look_26 : decode c_M_look 26 = .ok (.iload 4, 2) := by decide +kernel
theorem d_M_look_28 : decode c_M_look 28 = .ok (.aload_n 0, 1) := by decide +kernel
theorem d_M_look_29 : decode c_M_look 29 = .ok (.getfield 39, 3) := by decide +kernel
theorem d_M_look_32 : decode c_M_look 32 = .ok (.if_icmp .ge 70, 3) := by decide +kernel
theorem d_M_look_35 : decode c_M_look 35 = .ok (.iload_n 2, 1) := by decide +kernel
theorem d_M_look_36 : decode c_M_look 36 = .ok (.aload_n 0, 1) := by decide +kernel
theorem d_M_look_37 : decode c_M_look 37 = .ok (.getfield 24, 3) := by decide +kernel
theorem d_M_look_40 : decode c_M_look 40 = .ok (.iload 4, 2) := by decide +kernel
theorem d_M_look_42 : decode c_M_look 42 = .ok (.iaload, 1) := by decide +kernel
theorem d_M_look_43 : decode c_M_look 43 = .ok (.ifCond .le 7, 3) := by decide +kernel
theorem d_M_look_46 : decode c_M_look 46 = .ok (.iconst 1, 1) := by decide +kernel
theorem d_M_look_47 : decode c_M_look 47 = .ok (.goto 4, 3) := by decide +kernel
theorem d_M_look_50 : decode c_M_look 50 = .ok (.iconst 0, 1) := by decide +kernel
theorem d_M_look_51 : decode c_M_look 51 = .ok (.iadd, 1) := by decide +kernel
theorem d_M_look_52 : decode c_M_look 52 = .ok (.istore_n 2, 1) := by decide +kernel
theorem d_M_look_53 : decode c_M_look 53 = .ok (.aload_n 0, 1) := by decide +kernel
theorem d_M_look_54 : decode c_M_look 54 = .ok (.getfield 24, 3) := by decide +kernel
theorem d_M_look_57 : decode c_M_look 57 = .ok (.iload 4, 2) := by decide +kernel
theorem d_M_look_59 : decode c_M_look 59 = .ok (.iaload, 1) := by decide +kernel
theorem d_M_look_60 : decode c_M_look 60 = .ok (.ifCond .le 36, 3) := by decide +kernel
theorem d_M_look_63 : decode c_M_look 63 = .ok (.aload_n 0, 1) := by decide +kernel
theorem d_M_look_64 : decode c_M_look 64 = .ok (.getfield 17, 3) := by decide +kernel
theorem d_M_look_67 : decode c_M_look 67 = .ok (.iload 4, 2) := by decide +kernel
theorem d_M_look_69 : decode c_M_look 69 = .ok (.baload, 1) := by decide +kernel
theorem d_M_look_70 : decode c_M_look 70 = .ok (.ifCond .ne 26, 3) := by decide +kernel
theorem d_M_look_73 : decode c_M_look 73 = .ok (.iload_n 3, 1) := by decide +kernel
theorem d_M_look_74 : decode c_M_look 74 = .ok (.ifCond .lt 19, 3) := by decide +kernel
theorem d_M_look_77 : decode c_M_look 77 = .ok (.aload_n 0, 1) := by decide +kernel
theorem d_M_look_78 : decode c_M_look 78 = .ok (.getfield 24, 3) := by decide +kernel
theorem d_M_look_81 : decode c_M_look 81 = .ok (.iload 4, 2) := by decide +kernel
theorem d_M_look_83 : decode c_M_look 83 = .ok (.iaload, 1) := by decide +kernel
theorem d_M_look_84 : decode c_M_look 84 = .ok (.aload_n 0, 1) := by decide +kernel
theorem d_M_look_85 : decode c_M_look 85 = .ok (.getfield 24, 3) := by decide +kernel
theorem d_M_look_88 : decode c_M_look 88 = .ok (.iload_n 3, 1) := by decide +kernel
theorem d_M_look_89 : decode c_M_look 89 = .ok (.iaload, 1) := by decide +kernel
theorem d_M_look_90 : decode c_M_look 90 = .ok (.if_icmp .ge 6, 3) := by decide +kernel
theorem d_M_look_93 : decode c_M_look 93 = .ok (.iload 4, 2) := by decide +kernel
theorem d_M_look_95 : decode c_M_look 95 = .ok (.istore_n 3, 1) := by decide +kernel
theorem d_M_look_96 : decode c_M_look 96 = .ok (.iinc 4 1, 3) := by decide +kernel
theorem d_M_look_99 : decode c_M_look 99 = .ok (.goto (-73), 3) := by decide +kernel
theorem d_M_look_102 : decode c_M_look 102 = .ok (.iload_n 2, 1) := by decide +kernel
theorem d_M_look_103 : decode c_M_look 103 = .ok (.bipush 34, 2) := by decide +kernel
theorem d_M_look_105 : decode c_M_look 105 = .ok (.if_icmp .ne 10, 3) := by decide +kernel
theorem d_M_look_108 : decode c_M_look 108 = .ok (.aload_n 0, 1) := by decide +kernel
theorem d_M_look_109 : decode c_M_look 109 = .ok (.getfield 24, 3) := by decide +kernel
theorem d_M_look_112 : decode c_M_look 112 = .ok (.iload_n 3, 1) := by decide +kernel
theorem d_M_look_113 : decode c_M_look 113 = .ok (.iconst 0, 1) := by decide +kernel
theorem d_M_look_114 : decode c_M_look 114 = .ok (.iastore, 1) := by decide +kernel
theorem d_M_look_115 : decode c_M_look 115 = .ok (.aload_n 0, 1) := by decide +kernel
theorem d_M_look_116 : decode c_M_look 116 = .ok (.dup, 1) := by decide +kernel
theorem d_M_look_117 : decode c_M_look 117 = .ok (.getfield 72, 3) := by decide +kernel
theorem d_M_look_120 : decode c_M_look 120 = .ok (.iconst 1, 1) := by decide +kernel
theorem d_M_look_121 : decode c_M_look 121 = .ok (.iadd, 1) := by decide +kernel
theorem d_M_look_122 : decode c_M_look 122 = .ok (.putfield 72, 3) := by decide +kernel
theorem d_M_look_125 : decode c_M_look 125 = .ok (.aload_n 0, 1) := by decide +kernel
theorem d_M_look_126 : decode c_M_look 126 = .ok (.getfield 24, 3) := by decide +kernel
theorem d_M_look_129 : decode c_M_look 129 = .ok (.iload_n 1, 1) := by decide +kernel
theorem d_M_look_130 : decode c_M_look 130 = .ok (.aload_n 0, 1) := by decide +kernel
theorem d_M_look_131 : decode c_M_look 131 = .ok (.getfield 72, 3) := by decide +kernel
theorem d_M_look_134 : decode c_M_look 134 = .ok (.iastore, 1) := by decide +kernel
theorem d_M_look_135 : decode c_M_look 135 = .ok (.return_, 1) := by decide +kernel
theorem d_M_fill_0 : decode c_M_fill 0 = .ok (.aload_n 0, 1) := by decide +kernel
theorem d_M_fill_1 : decode c_M_fill 1 = .ok (.iconst 0, 1) := by decide +kernel
theorem d_M_fill_2 : decode c_M_fill 2 = .ok (.putfield 42, 3) := by decide +kernel
theorem d_M_fill_5 : decode c_M_fill 5 = .ok (.aload_n 0, 1) := by decide +kernel
theorem d_M_fill_6 : decode c_M_fill 6 = .ok (.getfield 28, 3) := by decide +kernel
theorem d_M_fill_9 : decode c_M_fill 9 = .ok (.ifCond .eq 64, 3) := by decide +kernel
theorem d_M_fill_12 : decode c_M_fill 12 = .ok (.aload_n 0, 1) := by decide +kernel
theorem d_M_fill_13 : decode c_M_fill 13 = .ok (.getfield 45, 3) := by decide +kernel
theorem d_M_fill_16 : decode c_M_fill 16 = .ok (.ifCond .eq 57, 3) := by decide +kernel
theorem d_M_fill_19 : decode c_M_fill 19 = .ok (.aload_n 0, 1) := by decide +kernel
theorem d_M_fill_20 : decode c_M_fill 20 = .ok (.iload_n 1, 1) := by decide +kernel
theorem d_M_fill_21 : decode c_M_fill 21 = .ok (.invokevirtual 75, 3) := by decide +kernel
theorem d_M_fill_24 : decode c_M_fill 24 = .ok (.ifCond .eq 49, 3) := by decide +kernel
theorem d_M_fill_27 : decode c_M_fill 27 = .ok (.iload_n 3, 1) := by decide +kernel
theorem d_M_fill_28 : decode c_M_fill 28 = .ok (.iconst 1, 1) := by decide +kernel
theorem d_M_fill_29 : decode c_M_fill 29 = .ok (.if_icmp .lt 44, 3) := by decide +kernel
theorem d_M_fill_32 : decode c_M_fill 32 = .ok (.iload_n 3, 1) := by decide +kernel
theorem d_M_fill_33 : decode c_M_fill 33 = .ok (.sipush 1024, 3) := by decide +kernel
theorem d_M_fill_36 : decode c_M_fill 36 = .ok (.if_icmp .gt 37, 3) := by decide +kernel
theorem d_M_fill_39 : decode c_M_fill 39 = .ok (.iload_n 2, 1) := by decide +kernel
theorem d_M_fill_40 : decode c_M_fill 40 = .ok (.ifCond .lt 33, 3) := by decide +kernel
theorem d_M_fill_43 : decode c_M_fill 43 = .ok (.iload_n 2, 1) := by decide +kernel
theorem d_M_fill_44 : decode c_M_fill 44 = .ok (.sipush 1024, 3) := by decide +kernel
theorem d_M_fill_47 : decode c_M_fill 47 = .ok (.iload_n 3, 1) := by decide +kernel
theorem d_M_fill_48 : decode c_M_fill 48 = .ok (.isub, 1) := by decide +kernel
theorem d_M_fill_49 : decode c_M_fill 49 = .ok (.if_icmp .gt 24, 3) := by decide +kernel
theorem d_M_fill_52 : decode c_M_fill 52 = .ok (.aload_n 0, 1) := by decide +kernel
theorem d_M_fill_53 : decode c_M_fill 53 = .ok (.getfield 21, 3) := by decide +kernel
theorem d_M_fill_56 : decode c_M_fill 56 = .ok (.iload_n 1, 1) := by decide +kernel
theorem d_M_fill_57 : decode c_M_fill 57 = .ok (.baload, 1) := by decide +kernel
theorem d_M_fill_58 : decode c_M_fill 58 = .ok (.ifCond .ne 17, 3) := by decide +kernel
theorem d_M_fill_61 : decode c_M_fill 61 = .ok (.aload_n 0, 1) := by decide +kernel
theorem d_M_fill_62 : decode c_M_fill 62 = .ok (.getfield 21, 3) := by decide +kernel
theorem d_M_fill_65 : decode c_M_fill 65 = .ok (.invokestatic 51, 3) := by decide +kernel
theorem d_M_fill_68 : decode c_M_fill 68 = .ok (.bipush 10, 2) := by decide +kernel
theorem d_M_fill_70 : decode c_M_fill 70 = .ok (.if_icmp .ne 5, 3) := by decide +kernel
theorem d_M_fill_73 : decode c_M_fill 73 = .ok (.iconst 0, 1) := by decide +kernel
theorem d_M_fill_74 : decode c_M_fill 74 = .ok (.ireturn, 1) := by decide +kernel
theorem d_M_fill_75 : decode c_M_fill 75 = .ok (.aload_n 0, 1) := by decide +kernel
theorem d_M_fill_76 : decode c_M_fill 76 = .ok (.iload_n 1, 1) := by decide +kernel
theorem d_M_fill_77 : decode c_M_fill 77 = .ok (.invokevirtual 78, 3) := by decide +kernel
theorem d_M_fill_80 : decode c_M_fill 80 = .ok (.aload_n 0, 1) := by decide +kernel
theorem d_M_fill_81 : decode c_M_fill 81 = .ok (.getfield 21, 3) := by decide +kernel
theorem d_M_fill_84 : decode c_M_fill 84 = .ok (.iload_n 1, 1) := by decide +kernel
theorem d_M_fill_85 : decode c_M_fill 85 = .ok (.iconst 1, 1) := by decide +kernel
theorem d_M_fill_86 : decode c_M_fill 86 = .ok (.bastore, 1) := by decide +kernel
theorem d_M_fill_87 : decode c_M_fill 87 = .ok (.aload_n 0, 1) := by decide +kernel
theorem d_M_fill_88 : decode c_M_fill 88 = .ok (.getfield 17, 3) := by decide +kernel
theorem d_M_fill_91 : decode c_M_fill 91 = .ok (.iload_n 1, 1) := by decide +kernel
theorem d_M_fill_92 : decode c_M_fill 92 = .ok (.iconst 1, 1) := by decide +kernel
theorem d_M_fill_93 : decode c_M_fill 93 = .ok (.bastore, 1) := by decide +kernel
theorem d_M_fill_94 : decode c_M_fill 94 = .ok (.iconst 0, 1) := by decide +kernel
theorem d_M_fill_95 : decode c_M_fill 95 = .ok (.istore 5, 2) := by decide +kernel
theorem d_M_fill_97 : decode c_M_fill 97 = .ok (.iload 5, 2) := by decide +kernel
theorem d_M_fill_99 : decode c_M_fill 99 = .ok (.iload_n 3, 1) := by decide +kernel
theorem d_M_fill_100 : decode c_M_fill 100 = .ok (.if_icmp .ge 30, 3) := by decide +kernel
theorem d_M_fill_103 : decode c_M_fill 103 = .ok (.aload_n 0, 1) := by decide +kernel
theorem d_M_fill_104 : decode c_M_fill 104 = .ok (.getfield 14, 3) := by decide +kernel
theorem d_M_fill_107 : decode c_M_fill 107 = .ok (.sipush 1024, 3) := by decide +kernel
theorem d_M_fill_110 : decode c_M_fill 110 = .ok (.iload_n 1, 1) := by decide +kernel
theorem d_M_fill_111 : decode c_M_fill 111 = .ok (.imul, 1) := by decide +kernel
theorem d_M_fill_112 : decode c_M_fill 112 = .ok (.iload_n 2, 1) := by decide +kernel
theorem d_M_fill_113 : decode c_M_fill 113 = .ok (.iadd, 1) := by decide +kernel
theorem d_M_fill_114 : decode c_M_fill 114 = .ok (.iload 5, 2) := by decide +kernel
theorem d_M_fill_116 : decode c_M_fill 116 = .ok (.iadd, 1) := by decide +kernel
theorem d_M_fill_117 : decode c_M_fill 117 = .ok (.iload 4, 2) := by decide +kernel
theorem d_M_fill_119 : decode c_M_fill 119 = .ok (.iload 5, 2) := by decide +kernel
theorem d_M_fill_121 : decode c_M_fill 121 = .ok (.iadd, 1) := by decide +kernel
theorem d_M_fill_122 : decode c_M_fill 122 = .ok (.i2b, 1) := by decide +kernel
theorem d_M_fill_123 : decode c_M_fill 123 = .ok (.bastore, 1) := by decide +kernel
theorem d_M_fill_124 : decode c_M_fill 124 = .ok (.iinc 5 1, 3) := by decide +kernel
theorem d_M_fill_127 : decode c_M_fill 127 = .ok (.goto (-30), 3) := by decide +kernel
theorem d_M_fill_130 : decode c_M_fill 130 = .ok (.iconst 1, 1) := by decide +kernel
theorem d_M_fill_131 : decode c_M_fill 131 = .ok (.ireturn, 1) := by decide +kernel
theorem d_M_cut_0 : decode c_M_cut 0 = .ok (.aload_n 0, 1) := by decide +kernel
theorem d_M_cut_1 : decode c_M_cut 1 = .ok (.iconst 0, 1) := by decide +kernel
theorem d_M_cut_2 : decode c_M_cut 2 = .ok (.putfield 42, 3) := by decide +kernel
theorem d_M_cut_5 : decode c_M_cut 5 = .ok (.aload_n 0, 1) := by decide +kernel
theorem d_M_cut_6 : decode c_M_cut 6 = .ok (.getfield 28, 3) := by decide +kernel
theorem d_M_cut_9 : decode c_M_cut 9 = .ok (.ifCond .ne 5, 3) := by decide +kernel
theorem d_M_cut_12 : decode c_M_cut 12 = .ok (.iconst 0, 1) := by decide +kernel
theorem d_M_cut_13 : decode c_M_cut 13 = .ok (.ireturn, 1) := by decide +kernel
theorem d_M_cut_14 : decode c_M_cut 14 = .ok (.aload_n 0, 1) := by decide +kernel
theorem d_M_cut_15 : decode c_M_cut 15 = .ok (.iload_n 1, 1) := by decide +kernel
theorem d_M_cut_16 : decode c_M_cut 16 = .ok (.ifCond .ge 7, 3) := by decide +kernel
theorem d_M_cut_19 : decode c_M_cut 19 = .ok (.iconst (-1), 1) := by decide +kernel
theorem d_M_cut_20 : decode c_M_cut 20 = .ok (.goto 4, 3) := by decide +kernel
theorem d_M_cut_23 : decode c_M_cut 23 = .ok (.iload_n 1, 1) := by decide +kernel
theorem d_M_cut_24 : decode c_M_cut 24 = .ok (.putfield 32, 3) := by decide +kernel
theorem d_M_cut_27 : decode c_M_cut 27 = .ok (.iconst 1, 1) := by decide +kernel
theorem d_M_cut_28 : decode c_M_cut 28 = .ok (.ireturn, 1) := by decide +kernel
theorem d_M_power_0 : decode c_M_power 0 = .ok (.aload_n 0, 1) := by decide +kernel
theorem d_M_power_1 : decode c_M_power 1 = .ok (.iconst 0, 1) := by decide +kernel
theorem d_M_power_2 : decode c_M_power 2 = .ok (.putfield 42, 3) := by decide +kernel
theorem d_M_power_5 : decode c_M_power 5 = .ok (.aload_n 0, 1) := by decide +kernel
theorem d_M_power_6 : decode c_M_power 6 = .ok (.getfield 28, 3) := by decide +kernel
theorem d_M_power_9 : decode c_M_power 9 = .ok (.ifCond .eq 5, 3) := by decide +kernel
theorem d_M_power_12 : decode c_M_power 12 = .ok (.iconst (-1), 1) := by decide +kernel
theorem d_M_power_13 : decode c_M_power 13 = .ok (.ireturn, 1) := by decide +kernel
theorem d_M_power_14 : decode c_M_power 14 = .ok (.aload_n 0, 1) := by decide +kernel
theorem d_M_power_15 : decode c_M_power 15 = .ok (.iconst 1, 1) := by decide +kernel
theorem d_M_power_16 : decode c_M_power 16 = .ok (.putfield 28, 3) := by decide +kernel
theorem d_M_power_19 : decode c_M_power 19 = .ok (.aload_n 0, 1) := by decide +kernel
theorem d_M_power_20 : decode c_M_power 20 = .ok (.iconst 0, 1) := by decide +kernel
theorem d_M_power_21 : decode c_M_power 21 = .ok (.putfield 45, 3) := by decide +kernel
theorem d_M_power_24 : decode c_M_power 24 = .ok (.aload_n 0, 1) := by decide +kernel
theorem d_M_power_25 : decode c_M_power 25 = .ok (.iload_n 1, 1) := by decide +kernel
theorem d_M_power_26 : decode c_M_power 26 = .ok (.ifCond .ge 7, 3) := by decide +kernel
theorem d_M_power_29 : decode c_M_power 29 = .ok (.iconst (-1), 1) := by decide +kernel
theorem d_M_power_30 : decode c_M_power 30 = .ok (.goto 4, 3) := by decide +kernel
theorem d_M_power_33 : decode c_M_power 33 = .ok (.iload_n 1, 1) := by decide +kernel
theorem d_M_power_34 : decode c_M_power 34 = .ok (.putfield 32, 3) := by decide +kernel
theorem d_M_power_37 : decode c_M_power 37 = .ok (.iconst 0, 1) := by decide +kernel
theorem d_M_power_38 : decode c_M_power 38 = .ok (.istore_n 2, 1) := by decide +kernel
theorem d_M_power_39 : decode c_M_power 39 = .ok (.iload_n 2, 1) := by decide +kernel
theorem d_M_power_40 : decode c_M_power 40 = .ok (.ldc 7, 2) := by decide +kernel
theorem d_M_power_42 : decode c_M_power 42 = .ok (.if_icmp .ge 21, 3) := by decide +kernel
theorem d_M_power_45 : decode c_M_power 45 = .ok (.aload_n 0, 1) := by decide +kernel
theorem d_M_power_46 : decode c_M_power 46 = .ok (.getfield 14, 3) := by decide +kernel
theorem d_M_power_49 : decode c_M_power 49 = .ok (.iload_n 2, 1) := by decide +kernel
theorem d_M_power_50 : decode c_M_power 50 = .ok (.aload_n 0, 1) := by decide +kernel
theorem d_M_power_51 : decode c_M_power 51 = .ok (.getfield 8, 3) := by decide +kernel
theorem d_M_power_54 : decode c_M_power 54 = .ok (.iload_n 2, 1) := by decide +kernel
theorem d_M_power_55 : decode c_M_power 55 = .ok (.baload, 1) := by decide +kernel
theorem d_M_power_56 : decode c_M_power 56 = .ok (.bastore, 1) := by decide +kernel
theorem d_M_power_57 : decode c_M_power 57 = .ok (.iinc 2 1, 3) := by decide +kernel
theorem d_M_power_60 : decode c_M_power 60 = .ok (.goto (-21), 3) := by decide +kernel
theorem d_M_power_63 : decode c_M_power 63 = .ok (.iconst 0, 1) := by decide +kernel
theorem d_M_power_64 : decode c_M_power 64 = .ok (.istore_n 2, 1) := by decide +kernel
theorem d_M_power_65 : decode c_M_power 65 = .ok (.iload_n 2, 1) := by decide +kernel
theorem d_M_power_66 : decode c_M_power 66 = .ok (.bipush 80, 2) := by decide +kernel
theorem d_M_power_68 : decode c_M_power 68 = .ok (.if_icmp .ge 23, 3) := by decide +kernel
theorem d_M_power_71 : decode c_M_power 71 = .ok (.aload_n 0, 1) := by decide +kernel
theorem d_M_power_72 : decode c_M_power 72 = .ok (.getfield 17, 3) := by decide +kernel
theorem d_M_power_75 : decode c_M_power 75 = .ok (.iload_n 2, 1) := by decide +kernel
theorem d_M_power_76 : decode c_M_power 76 = .ok (.iconst 0, 1) := by decide +kernel
theorem d_M_power_77 : decode c_M_power 77 = .ok (.bastore, 1) := by decide +kernel
theorem d_M_power_78 : decode c_M_power 78 = .ok (.aload_n 0, 1) := by decide +kernel
theorem d_M_power_79 : decode c_M_power 79 = .ok (.getfield 24, 3) := by decide +kernel
theorem d_M_power_82 : decode c_M_power 82 = .ok (.iload_n 2, 1) := by decide +kernel
theorem d_M_power_83 : decode c_M_power 83 = .ok (.iconst 0, 1) := by decide +kernel
theorem d_M_power_84 : decode c_M_power 84 = .ok (.iastore, 1) := by decide +kernel
theorem d_M_power_85 : decode c_M_power 85 = .ok (.iinc 2 1, 3) := by decide +kernel
theorem d_M_power_88 : decode c_M_power 88 = .ok (.goto (-23), 3) := by decide +kernel
theorem d_M_power_91 : decode c_M_power 91 = .ok (.aload_n 0, 1) := by decide +kernel
theorem d_M_power_92 : decode c_M_power 92 = .ok (.getfield 36, 3) := by decide +kernel
theorem d_M_power_95 : decode c_M_power 95 = .ok (.istore_n 2, 1) := by decide +kernel
theorem d_M_power_96 : decode c_M_power 96 = .ok (.iload_n 2, 1) := by decide +kernel
theorem d_M_power_97 : decode c_M_power 97 = .ok (.ifCond .ge 5, 3) := by decide +kernel
theorem d_M_power_100 : decode c_M_power 100 = .ok (.iconst 0, 1) := by decide +kernel
theorem d_M_power_101 : decode c_M_power 101 = .ok (.ireturn, 1) := by decide +kernel
theorem d_M_power_102 : decode c_M_power 102 = .ok (.aload_n 0, 1) := by decide +kernel
theorem d_M_power_103 : decode c_M_power 103 = .ok (.invokevirtual 62, 3) := by decide +kernel
theorem d_M_power_106 : decode c_M_power 106 = .ok (.ifCond .eq 7, 3) := by decide +kernel
theorem d_M_power_109 : decode c_M_power 109 = .ok (.iload_n 2, 1) := by decide +kernel
theorem d_M_power_110 : decode c_M_power 110 = .ok (.goto 4, 3) := by decide +kernel
theorem d_M_power_113 : decode c_M_power 113 = .ok (.iconst (-1), 1) := by decide +kernel
theorem d_M_power_114 : decode c_M_power 114 = .ok (.ireturn, 1) := by decide +kernel
theorem d_M_count_0 : decode c_M_count 0 = .ok (.aload_n 0, 1) := by decide +kernel
theorem d_M_count_1 : decode c_M_count 1 = .ok (.iconst 0, 1) := by decide +kernel
theorem d_M_count_2 : decode c_M_count 2 = .ok (.putfield 42, 3) := by decide +kernel
theorem d_M_count_5 : decode c_M_count 5 = .ok (.iload_n 1, 1) := by decide +kernel
theorem d_M_count_6 : decode c_M_count 6 = .ok (.tableswitch 120 0 6 #[42, 55, 60, 79, 105, 110, 115], 42) := by decide +kernel
theorem d_M_count_48 : decode c_M_count 48 = .ok (.aload_n 0, 1) := by decide +kernel
theorem d_M_count_49 : decode c_M_count 49 = .ok (.getfield 28, 3) := by decide +kernel
theorem d_M_count_52 : decode c_M_count 52 = .ok (.ifCond .eq 7, 3) := by decide +kernel
theorem d_M_count_55 : decode c_M_count 55 = .ok (.iconst 1, 1) := by decide +kernel
theorem d_M_count_56 : decode c_M_count 56 = .ok (.goto 4, 3) := by decide +kernel
theorem d_M_count_59 : decode c_M_count 59 = .ok (.iconst 0, 1) := by decide +kernel
theorem d_M_count_60 : decode c_M_count 60 = .ok (.ireturn, 1) := by decide +kernel
theorem d_M_count_61 : decode c_M_count 61 = .ok (.aload_n 0, 1) := by decide +kernel
theorem d_M_count_62 : decode c_M_count 62 = .ok (.getfield 39, 3) := by decide +kernel
theorem d_M_count_65 : decode c_M_count 65 = .ok (.ireturn, 1) := by decide +kernel
theorem d_M_count_66 : decode c_M_count 66 = .ok (.aload_n 0, 1) := by decide +kernel
theorem d_M_count_67 : decode c_M_count 67 = .ok (.getfield 28, 3) := by decide +kernel
theorem d_M_count_70 : decode c_M_count 70 = .ok (.ifCond .eq 13, 3) := by decide +kernel
theorem d_M_count_73 : decode c_M_count 73 = .ok (.aload_n 0, 1) := by decide +kernel
theorem d_M_count_74 : decode c_M_count 74 = .ok (.getfield 17, 3) := by decide +kernel
theorem d_M_count_77 : decode c_M_count 77 = .ok (.invokestatic 51, 3) := by decide +kernel
theorem d_M_count_80 : decode c_M_count 80 = .ok (.goto 4, 3) := by decide +kernel
theorem d_M_count_83 : decode c_M_count 83 = .ok (.iconst 0, 1) := by decide +kernel
theorem d_M_count_84 : decode c_M_count 84 = .ok (.ireturn, 1) := by decide +kernel
theorem d_M_count_85 : decode c_M_count 85 = .ok (.aload_n 0, 1) := by decide +kernel
theorem d_M_count_86 : decode c_M_count 86 = .ok (.getfield 28, 3) := by decide +kernel
theorem d_M_count_89 : decode c_M_count 89 = .ok (.ifCond .eq 20, 3) := by decide +kernel
theorem d_M_count_92 : decode c_M_count 92 = .ok (.aload_n 0, 1) := by decide +kernel
theorem d_M_count_93 : decode c_M_count 93 = .ok (.getfield 45, 3) := by decide +kernel
theorem d_M_count_96 : decode c_M_count 96 = .ok (.ifCond .eq 13, 3) := by decide +kernel
theorem d_M_count_99 : decode c_M_count 99 = .ok (.aload_n 0, 1) := by decide +kernel
theorem d_M_count_100 : decode c_M_count 100 = .ok (.getfield 21, 3) := by decide +kernel
theorem d_M_count_103 : decode c_M_count 103 = .ok (.invokestatic 51, 3) := by decide +kernel
theorem d_M_count_106 : decode c_M_count 106 = .ok (.goto 4, 3) := by decide +kernel
theorem d_M_count_109 : decode c_M_count 109 = .ok (.iconst (-1), 1) := by decide +kernel
theorem d_M_count_110 : decode c_M_count 110 = .ok (.ireturn, 1) := by decide +kernel
theorem d_M_count_111 : decode c_M_count 111 = .ok (.aload_n 0, 1) := by decide +kernel
theorem d_M_count_112 : decode c_M_count 112 = .ok (.getfield 48, 3) := by decide +kernel
theorem d_M_count_115 : decode c_M_count 115 = .ok (.ireturn, 1) := by decide +kernel
theorem d_M_count_116 : decode c_M_count 116 = .ok (.aload_n 0, 1) := by decide +kernel
theorem d_M_count_117 : decode c_M_count 117 = .ok (.getfield 69, 3) := by decide +kernel
theorem d_M_count_120 : decode c_M_count 120 = .ok (.ireturn, 1) := by decide +kernel
theorem d_M_count_121 : decode c_M_count 121 = .ok (.aload_n 0, 1) := by decide +kernel
theorem d_M_count_122 : decode c_M_count 122 = .ok (.getfield 59, 3) := by decide +kernel
theorem d_M_count_125 : decode c_M_count 125 = .ok (.ireturn, 1) := by decide +kernel
theorem d_M_count_126 : decode c_M_count 126 = .ok (.iconst (-1), 1) := by decide +kernel
theorem d_M_count_127 : decode c_M_count 127 = .ok (.ireturn, 1) := by decide +kernel
theorem d_M_held_0 : decode c_M_held 0 = .ok (.aload_n 0, 1) := by decide +kernel
theorem d_M_held_1 : decode c_M_held 1 = .ok (.iconst 0, 1) := by decide +kernel
theorem d_M_held_2 : decode c_M_held 2 = .ok (.putfield 42, 3) := by decide +kernel
theorem d_M_held_5 : decode c_M_held 5 = .ok (.aload_n 0, 1) := by decide +kernel
theorem d_M_held_6 : decode c_M_held 6 = .ok (.getfield 28, 3) := by decide +kernel
theorem d_M_held_9 : decode c_M_held 9 = .ok (.ifCond .eq 24, 3) := by decide +kernel
theorem d_M_held_12 : decode c_M_held 12 = .ok (.aload_n 0, 1) := by decide +kernel
theorem d_M_held_13 : decode c_M_held 13 = .ok (.iload_n 1, 1) := by decide +kernel
theorem d_M_held_14 : decode c_M_held 14 = .ok (.invokevirtual 75, 3) := by decide +kernel
theorem d_M_held_17 : decode c_M_held 17 = .ok (.ifCond .eq 16, 3) := by decide +kernel
theorem d_M_held_20 : decode c_M_held 20 = .ok (.aload_n 0, 1) := by decide +kernel
theorem d_M_held_21 : decode c_M_held 21 = .ok (.getfield 17, 3) := by decide +kernel
theorem d_M_held_24 : decode c_M_held 24 = .ok (.iload_n 1, 1) := by decide +kernel
theorem d_M_held_25 : decode c_M_held 25 = .ok (.baload, 1) := by decide +kernel
theorem d_M_held_26 : decode c_M_held 26 = .ok (.ifCond .eq 7, 3) := by decide +kernel
theorem d_M_held_29 : decode c_M_held 29 = .ok (.iconst 1, 1) := by decide +kernel
theorem d_M_held_30 : decode c_M_held 30 = .ok (.goto 4, 3) := by decide +kernel
theorem d_M_held_33 : decode c_M_held 33 = .ok (.iconst 0, 1) := by decide +kernel
theorem d_M_held_34 : decode c_M_held 34 = .ok (.ireturn, 1) := by decide +kernel
theorem d_M_cached_0 : decode c_M_cached 0 = .ok (.aload_n 0, 1) := by decide +kernel
theorem d_M_cached_1 : decode c_M_cached 1 = .ok (.iconst 0, 1) := by decide +kernel
theorem d_M_cached_2 : decode c_M_cached 2 = .ok (.putfield 42, 3) := by decide +kernel
theorem d_M_cached_5 : decode c_M_cached 5 = .ok (.aload_n 0, 1) := by decide +kernel
theorem d_M_cached_6 : decode c_M_cached 6 = .ok (.getfield 28, 3) := by decide +kernel
theorem d_M_cached_9 : decode c_M_cached 9 = .ok (.ifCond .eq 24, 3) := by decide +kernel
theorem d_M_cached_12 : decode c_M_cached 12 = .ok (.aload_n 0, 1) := by decide +kernel
theorem d_M_cached_13 : decode c_M_cached 13 = .ok (.iload_n 1, 1) := by decide +kernel
theorem d_M_cached_14 : decode c_M_cached 14 = .ok (.invokevirtual 75, 3) := by decide +kernel
theorem d_M_cached_17 : decode c_M_cached 17 = .ok (.ifCond .eq 16, 3) := by decide +kernel
theorem d_M_cached_20 : decode c_M_cached 20 = .ok (.aload_n 0, 1) := by decide +kernel
theorem d_M_cached_21 : decode c_M_cached 21 = .ok (.getfield 24, 3) := by decide +kernel
theorem d_M_cached_24 : decode c_M_cached 24 = .ok (.iload_n 1, 1) := by decide +kernel
theorem d_M_cached_25 : decode c_M_cached 25 = .ok (.iaload, 1) := by decide +kernel
theorem d_M_cached_26 : decode c_M_cached 26 = .ok (.ifCond .le 7, 3) := by decide +kernel
theorem d_M_cached_29 : decode c_M_cached 29 = .ok (.iconst 1, 1) := by decide +kernel
theorem d_M_cached_30 : decode c_M_cached 30 = .ok (.goto 4, 3) := by decide +kernel
theorem d_M_cached_33 : decode c_M_cached 33 = .ok (.iconst 0, 1) := by decide +kernel
theorem d_M_cached_34 : decode c_M_cached 34 = .ok (.ireturn, 1) := by decide +kernel
theorem d_W_law_0 : decode c_W_law 0 = .ok (.new 7, 3) := by decide +kernel
theorem d_W_law_3 : decode c_W_law 3 = .ok (.dup, 1) := by decide +kernel
theorem d_W_law_4 : decode c_W_law 4 = .ok (.aload_n 0, 1) := by decide +kernel
theorem d_W_law_5 : decode c_W_law 5 = .ok (.iconst 0, 1) := by decide +kernel
theorem d_W_law_6 : decode c_W_law 6 = .ok (.invokestatic 9, 3) := by decide +kernel
theorem d_W_law_9 : decode c_W_law 9 = .ok (.invokespecial 15, 3) := by decide +kernel
theorem d_W_law_12 : decode c_W_law 12 = .ok (.astore_n 1, 1) := by decide +kernel
theorem d_W_law_13 : decode c_W_law 13 = .ok (.new 18, 3) := by decide +kernel
theorem d_W_law_16 : decode c_W_law 16 = .ok (.dup, 1) := by decide +kernel
theorem d_W_law_17 : decode c_W_law 17 = .ok (.aload_n 0, 1) := by decide +kernel
theorem d_W_law_18 : decode c_W_law 18 = .ok (.iconst 0, 1) := by decide +kernel
theorem d_W_law_19 : decode c_W_law 19 = .ok (.invokestatic 9, 3) := by decide +kernel
theorem d_W_law_22 : decode c_W_law 22 = .ok (.invokespecial 20, 3) := by decide +kernel
theorem d_W_law_25 : decode c_W_law 25 = .ok (.astore_n 2, 1) := by decide +kernel
theorem d_W_law_26 : decode c_W_law 26 = .ok (.iconst 1, 1) := by decide +kernel
theorem d_W_law_27 : decode c_W_law 27 = .ok (.istore_n 3, 1) := by decide +kernel
theorem d_W_law_28 : decode c_W_law 28 = .ok (.iload_n 3, 1) := by decide +kernel
theorem d_W_law_29 : decode c_W_law 29 = .ok (.aload_n 0, 1) := by decide +kernel
theorem d_W_law_30 : decode c_W_law 30 = .ok (.arraylength, 1) := by decide +kernel
theorem d_W_law_31 : decode c_W_law 31 = .ok (.iconst 5, 1) := by decide +kernel
theorem d_W_law_32 : decode c_W_law 32 = .ok (.isub, 1) := by decide +kernel
theorem d_W_law_33 : decode c_W_law 33 = .ok (.if_icmp .gt 309, 3) := by decide +kernel
theorem d_W_law_36 : decode c_W_law 36 = .ok (.aload_n 0, 1) := by decide +kernel
theorem d_W_law_37 : decode c_W_law 37 = .ok (.iload_n 3, 1) := by decide +kernel
theorem d_W_law_38 : decode c_W_law 38 = .ok (.iaload, 1) := by decide +kernel
theorem d_W_law_39 : decode c_W_law 39 = .ok (.bipush 15, 2) := by decide +kernel
theorem d_W_law_41 : decode c_W_law 41 = .ok (.iand, 1) := by decide +kernel
theorem d_W_law_42 : decode c_W_law 42 = .ok (.tableswitch 294 0 9 #[54, 67, 80, 93, 126, 179, 202, 225, 248, 271], 54) := by decide +kernel
theorem d_W_law_96 : decode c_W_law 96 = .ok (.aload_n 1, 1) := by decide +kernel
theorem d_W_law_97 : decode c_W_law 97 = .ok (.invokevirtual 21, 3) := by decide +kernel
theorem d_W_law_100 : decode c_W_law 100 = .ok (.aload_n 2, 1) := by decide +kernel
theorem d_W_law_101 : decode c_W_law 101 = .ok (.invokevirtual 25, 3) := by decide +kernel
theorem d_W_law_104 : decode c_W_law 104 = .ok (.if_icmp .eq 232, 3) := by decide +kernel
theorem d_W_law_107 : decode c_W_law 107 = .ok (.iconst 0, 1) := by decide +kernel
theorem d_W_law_108 : decode c_W_law 108 = .ok (.ireturn, 1) := by decide +kernel
theorem d_W_law_109 : decode c_W_law 109 = .ok (.aload_n 1, 1) := by decide +kernel
theorem d_W_law_110 : decode c_W_law 110 = .ok (.invokevirtual 26, 3) := by decide +kernel
theorem d_W_law_113 : decode c_W_law 113 = .ok (.aload_n 2, 1) := by decide +kernel
theorem d_W_law_114 : decode c_W_law 114 = .ok (.invokevirtual 30, 3) := by decide +kernel
theorem d_W_law_117 : decode c_W_law 117 = .ok (.if_icmp .eq 219, 3) := by decide +kernel
theorem d_W_law_120 : decode c_W_law 120 = .ok (.iconst 0, 1) := by decide +kernel
theorem d_W_law_121 : decode c_W_law 121 = .ok (.ireturn, 1) := by decide +kernel
theorem d_W_law_122 : decode c_W_law 122 = .ok (.aload_n 1, 1) := by decide +kernel
theorem d_W_law_123 : decode c_W_law 123 = .ok (.invokevirtual 31, 3) := by decide +kernel
theorem d_W_law_126 : decode c_W_law 126 = .ok (.aload_n 2, 1) := by decide +kernel
theorem d_W_law_127 : decode c_W_law 127 = .ok (.invokevirtual 34, 3) := by decide +kernel
theorem d_W_law_130 : decode c_W_law 130 = .ok (.if_icmp .eq 206, 3) := by decide +kernel
theorem d_W_law_133 : decode c_W_law 133 = .ok (.iconst 0, 1) := by decide +kernel
theorem d_W_law_134 : decode c_W_law 134 = .ok (.ireturn, 1) := by decide +kernel
theorem d_W_law_135 : decode c_W_law 135 = .ok (.aload_n 1, 1) := by decide +kernel
theorem d_W_law_136 : decode c_W_law 136 = .ok (.aload_n 0, 1) := by decide +kernel
theorem d_W_law_137 : decode c_W_law 137 = .ok (.iload_n 3, 1) := by decide +kernel
theorem d_W_law_138 : decode c_W_law 138 = .ok (.iconst 1, 1) := by decide +kernel
theorem d_W_law_139 : decode c_W_law 139 = .ok (.iadd, 1) := by decide +kernel
theorem d_W_law_140 : decode c_W_law 140 = .ok (.iaload, 1) := by decide +kernel
theorem d_W_law_141 : decode c_W_law 141 = .ok (.aload_n 0, 1) := by decide +kernel
theorem d_W_law_142 : decode c_W_law 142 = .ok (.iload_n 3, 1) := by decide +kernel
theorem d_W_law_143 : decode c_W_law 143 = .ok (.iconst 2, 1) := by decide +kernel
theorem d_W_law_144 : decode c_W_law 144 = .ok (.iadd, 1) := by decide +kernel
theorem d_W_law_145 : decode c_W_law 145 = .ok (.iaload, 1) := by decide +kernel
theorem d_W_law_146 : decode c_W_law 146 = .ok (.invokevirtual 35, 3) := by decide +kernel
theorem d_W_law_149 : decode c_W_law 149 = .ok (.aload_n 2, 1) := by decide +kernel
theorem d_W_law_150 : decode c_W_law 150 = .ok (.aload_n 0, 1) := by decide +kernel
theorem d_W_law_151 : decode c_W_law 151 = .ok (.iload_n 3, 1) := by decide +kernel
theorem d_W_law_152 : decode c_W_law 152 = .ok (.iconst 1, 1) := by decide +kernel
theorem d_W_law_153 : decode c_W_law 153 = .ok (.iadd, 1) := by decide +kernel
theorem d_W_law_154 : decode c_W_law 154 = .ok (.iaload, 1) := by decide +kernel
theorem d_W_law_155 : decode c_W_law 155 = .ok (.aload_n 0, 1) := by decide +kernel
theorem d_W_law_156 : decode c_W_law 156 = .ok (.iload_n 3, 1) := by decide +kernel
theorem d_W_law_157 : decode c_W_law 157 = .ok (.iconst 2, 1) := by decide +kernel
theorem d_W_law_158 : decode c_W_law 158 = .ok (.iadd, 1) := by decide +kernel
theorem d_W_law_159 : decode c_W_law 159 = .ok (.iaload, 1) := by decide +kernel
theorem d_W_law_160 : decode c_W_law 160 = .ok (.invokevirtual 39, 3) := by decide +kernel
theorem d_W_law_163 : decode c_W_law 163 = .ok (.if_icmp .eq 173, 3) := by decide +kernel
theorem d_W_law_166 : decode c_W_law 166 = .ok (.iconst 0, 1) := by decide +kernel
theorem d_W_law_167 : decode c_W_law 167 = .ok (.ireturn, 1) := by decide +kernel
theorem d_W_law_168 : decode c_W_law 168 = .ok (.aload_n 1, 1) := by decide +kernel
theorem d_W_law_169 : decode c_W_law 169 = .ok (.aload_n 0, 1) := by decide +kernel
theorem d_W_law_170 : decode c_W_law 170 = .ok (.iload_n 3, 1) := by decide +kernel
theorem d_W_law_171 : decode c_W_law 171 = .ok (.iconst 1, 1) := by decide +kernel
theorem d_W_law_172 : decode c_W_law 172 = .ok (.iadd, 1) := by decide +kernel
theorem d_W_law_173 : decode c_W_law 173 = .ok (.iaload, 1) := by decide +kernel
theorem d_W_law_174 : decode c_W_law 174 = .ok (.aload_n 0, 1) := by decide +kernel
theorem d_W_law_175 : decode c_W_law 175 = .ok (.iload_n 3, 1) := by decide +kernel
theorem d_W_law_176 : decode c_W_law 176 = .ok (.iconst 2, 1) := by decide +kernel
theorem d_W_law_177 : decode c_W_law 177 = .ok (.iadd, 1) := by decide +kernel
theorem d_W_law_178 : decode c_W_law 178 = .ok (.iaload, 1) := by decide +kernel
theorem d_W_law_179 : decode c_W_law 179 = .ok (.aload_n 0, 1) := by decide +kernel
theorem d_W_law_180 : decode c_W_law 180 = .ok (.iload_n 3, 1) := by decide +kernel
theorem d_W_law_181 : decode c_W_law 181 = .ok (.iconst 3, 1) := by decide +kernel
theorem d_W_law_182 : decode c_W_law 182 = .ok (.iadd, 1) := by decide +kernel
theorem d_W_law_183 : decode c_W_law 183 = .ok (.iaload, 1) := by decide +kernel
theorem d_W_law_184 : decode c_W_law 184 = .ok (.aload_n 0, 1) := by decide +kernel
theorem d_W_law_185 : decode c_W_law 185 = .ok (.iload_n 3, 1) := by decide +kernel
theorem d_W_law_186 : decode c_W_law 186 = .ok (.iconst 4, 1) := by decide +kernel
theorem d_W_law_187 : decode c_W_law 187 = .ok (.iadd, 1) := by decide +kernel
theorem d_W_law_188 : decode c_W_law 188 = .ok (.iaload, 1) := by decide +kernel
theorem d_W_law_189 : decode c_W_law 189 = .ok (.invokevirtual 40, 3) := by decide +kernel
theorem d_W_law_192 : decode c_W_law 192 = .ok (.aload_n 2, 1) := by decide +kernel
theorem d_W_law_193 : decode c_W_law 193 = .ok (.aload_n 0, 1) := by decide +kernel
theorem d_W_law_194 : decode c_W_law 194 = .ok (.iload_n 3, 1) := by decide +kernel
theorem d_W_law_195 : decode c_W_law 195 = .ok (.iconst 1, 1) := by decide +kernel
theorem d_W_law_196 : decode c_W_law 196 = .ok (.iadd, 1) := by decide +kernel
theorem d_W_law_197 : decode c_W_law 197 = .ok (.iaload, 1) := by decide +kernel
theorem d_W_law_198 : decode c_W_law 198 = .ok (.aload_n 0, 1) := by decide +kernel
theorem d_W_law_199 : decode c_W_law 199 = .ok (.iload_n 3, 1) := by decide +kernel
theorem d_W_law_200 : decode c_W_law 200 = .ok (.iconst 2, 1) := by decide +kernel
theorem d_W_law_201 : decode c_W_law 201 = .ok (.iadd, 1) := by decide +kernel
theorem d_W_law_202 : decode c_W_law 202 = .ok (.iaload, 1) := by decide +kernel
theorem d_W_law_203 : decode c_W_law 203 = .ok (.aload_n 0, 1) := by decide +kernel
theorem d_W_law_204 : decode c_W_law 204 = .ok (.iload_n 3, 1) := by decide +kernel
theorem d_W_law_205 : decode c_W_law 205 = .ok (.iconst 3, 1) := by decide +kernel
theorem d_W_law_206 : decode c_W_law 206 = .ok (.iadd, 1) := by decide +kernel
theorem d_W_law_207 : decode c_W_law 207 = .ok (.iaload, 1) := by decide +kernel
theorem d_W_law_208 : decode c_W_law 208 = .ok (.aload_n 0, 1) := by decide +kernel
theorem d_W_law_209 : decode c_W_law 209 = .ok (.iload_n 3, 1) := by decide +kernel
theorem d_W_law_210 : decode c_W_law 210 = .ok (.iconst 4, 1) := by decide +kernel
theorem d_W_law_211 : decode c_W_law 211 = .ok (.iadd, 1) := by decide +kernel
theorem d_W_law_212 : decode c_W_law 212 = .ok (.iaload, 1) := by decide +kernel
theorem d_W_law_213 : decode c_W_law 213 = .ok (.invokevirtual 44, 3) := by decide +kernel
theorem d_W_law_216 : decode c_W_law 216 = .ok (.if_icmp .eq 120, 3) := by decide +kernel
theorem d_W_law_219 : decode c_W_law 219 = .ok (.iconst 0, 1) := by decide +kernel
theorem d_W_law_220 : decode c_W_law 220 = .ok (.ireturn, 1) := by decide +kernel
theorem d_W_law_221 : decode c_W_law 221 = .ok (.aload_n 1, 1) := by decide +kernel
theorem d_W_law_222 : decode c_W_law 222 = .ok (.aload_n 0, 1) := by decide +kernel
theorem d_W_law_223 : decode c_W_law 223 = .ok (.iload_n 3, 1) := by decide +kernel
theorem d_W_law_224 : decode c_W_law 224 = .ok (.iconst 1, 1) := by decide +kernel
theorem d_W_law_225 : decode c_W_law 225 = .ok (.iadd, 1) := by decide +kernel
theorem d_W_law_226 : decode c_W_law 226 = .ok (.iaload, 1) := by decide +kernel
theorem d_W_law_227 : decode c_W_law 227 = .ok (.invokevirtual 45, 3) := by decide +kernel
theorem d_W_law_230 : decode c_W_law 230 = .ok (.aload_n 2, 1) := by decide +kernel
theorem d_W_law_231 : decode c_W_law 231 = .ok (.aload_n 0, 1) := by decide +kernel
theorem d_W_law_232 : decode c_W_law 232 = .ok (.iload_n 3, 1) := by decide +kernel
theorem d_W_law_233 : decode c_W_law 233 = .ok (.iconst 1, 1) := by decide +kernel
theorem d_W_law_234 : decode c_W_law 234 = .ok (.iadd, 1) := by decide +kernel
theorem d_W_law_235 : decode c_W_law 235 = .ok (.iaload, 1) := by decide +kernel
theorem d_W_law_236 : decode c_W_law 236 = .ok (.invokevirtual 49, 3) := by decide +kernel
theorem d_W_law_239 : decode c_W_law 239 = .ok (.if_icmp .eq 97, 3) := by decide +kernel
theorem d_W_law_242 : decode c_W_law 242 = .ok (.iconst 0, 1) := by decide +kernel
theorem d_W_law_243 : decode c_W_law 243 = .ok (.ireturn, 1) := by decide +kernel
theorem d_W_law_244 : decode c_W_law 244 = .ok (.aload_n 1, 1) := by decide +kernel
theorem d_W_law_245 : decode c_W_law 245 = .ok (.aload_n 0, 1) := by decide +kernel
theorem d_W_law_246 : decode c_W_law 246 = .ok (.iload_n 3, 1) := by decide +kernel
theorem d_W_law_247 : decode c_W_law 247 = .ok (.iconst 1, 1) := by decide +kernel
theorem d_W_law_248 : decode c_W_law 248 = .ok (.iadd, 1) := by decide +kernel
theorem d_W_law_249 : decode c_W_law 249 = .ok (.iaload, 1) := by decide +kernel
theorem d_W_law_250 : decode c_W_law 250 = .ok (.invokevirtual 50, 3) := by decide +kernel
theorem d_W_law_253 : decode c_W_law 253 = .ok (.aload_n 2, 1) := by decide +kernel
theorem d_W_law_254 : decode c_W_law 254 = .ok (.aload_n 0, 1) := by decide +kernel
theorem d_W_law_255 : decode c_W_law 255 = .ok (.iload_n 3, 1) := by decide +kernel
theorem d_W_law_256 : decode c_W_law 256 = .ok (.iconst 1, 1) := by decide +kernel
theorem d_W_law_257 : decode c_W_law 257 = .ok (.iadd, 1) := by decide +kernel
theorem d_W_law_258 : decode c_W_law 258 = .ok (.iaload, 1) := by decide +kernel
theorem d_W_law_259 : decode c_W_law 259 = .ok (.invokevirtual 54, 3) := by decide +kernel
theorem d_W_law_262 : decode c_W_law 262 = .ok (.if_icmp .eq 74, 3) := by decide +kernel
theorem d_W_law_265 : decode c_W_law 265 = .ok (.iconst 0, 1) := by decide +kernel
theorem d_W_law_266 : decode c_W_law 266 = .ok (.ireturn, 1) := by decide +kernel
theorem d_W_law_267 : decode c_W_law 267 = .ok (.aload_n 1, 1) := by decide +kernel
theorem d_W_law_268 : decode c_W_law 268 = .ok (.aload_n 0, 1) := by decide +kernel
theorem d_W_law_269 : decode c_W_law 269 = .ok (.iload_n 3, 1) := by decide +kernel
theorem d_W_law_270 : decode c_W_law 270 = .ok (.iconst 1, 1) := by decide +kernel
theorem d_W_law_271 : decode c_W_law 271 = .ok (.iadd, 1) := by decide +kernel
theorem d_W_law_272 : decode c_W_law 272 = .ok (.iaload, 1) := by decide +kernel
theorem d_W_law_273 : decode c_W_law 273 = .ok (.invokevirtual 55, 3) := by decide +kernel
theorem d_W_law_276 : decode c_W_law 276 = .ok (.aload_n 2, 1) := by decide +kernel
theorem d_W_law_277 : decode c_W_law 277 = .ok (.aload_n 0, 1) := by decide +kernel
theorem d_W_law_278 : decode c_W_law 278 = .ok (.iload_n 3, 1) := by decide +kernel
theorem d_W_law_279 : decode c_W_law 279 = .ok (.iconst 1, 1) := by decide +kernel
theorem d_W_law_280 : decode c_W_law 280 = .ok (.iadd, 1) := by decide +kernel
theorem d_W_law_281 : decode c_W_law 281 = .ok (.iaload, 1) := by decide +kernel
theorem d_W_law_282 : decode c_W_law 282 = .ok (.invokevirtual 58, 3) := by decide +kernel
theorem d_W_law_285 : decode c_W_law 285 = .ok (.if_icmp .eq 51, 3) := by decide +kernel
theorem d_W_law_288 : decode c_W_law 288 = .ok (.iconst 0, 1) := by decide +kernel
theorem d_W_law_289 : decode c_W_law 289 = .ok (.ireturn, 1) := by decide +kernel
theorem d_W_law_290 : decode c_W_law 290 = .ok (.aload_n 1, 1) := by decide +kernel
theorem d_W_law_291 : decode c_W_law 291 = .ok (.aload_n 0, 1) := by decide +kernel
theorem d_W_law_292 : decode c_W_law 292 = .ok (.iload_n 3, 1) := by decide +kernel
theorem d_W_law_293 : decode c_W_law 293 = .ok (.iconst 1, 1) := by decide +kernel
theorem d_W_law_294 : decode c_W_law 294 = .ok (.iadd, 1) := by decide +kernel
theorem d_W_law_295 : decode c_W_law 295 = .ok (.iaload, 1) := by decide +kernel
theorem d_W_law_296 : decode c_W_law 296 = .ok (.invokevirtual 59, 3) := by decide +kernel
theorem d_W_law_299 : decode c_W_law 299 = .ok (.aload_n 2, 1) := by decide +kernel
theorem d_W_law_300 : decode c_W_law 300 = .ok (.aload_n 0, 1) := by decide +kernel
theorem d_W_law_301 : decode c_W_law 301 = .ok (.iload_n 3, 1) := by decide +kernel
theorem d_W_law_302 : decode c_W_law 302 = .ok (.iconst 1, 1) := by decide +kernel
theorem d_W_law_303 : decode c_W_law 303 = .ok (.iadd, 1) := by decide +kernel
theorem d_W_law_304 : decode c_W_law 304 = .ok (.iaload, 1) := by decide +kernel
theorem d_W_law_305 : decode c_W_law 305 = .ok (.invokevirtual 62, 3) := by decide +kernel
theorem d_W_law_308 : decode c_W_law 308 = .ok (.if_icmp .eq 28, 3) := by decide +kernel
theorem d_W_law_311 : decode c_W_law 311 = .ok (.iconst 0, 1) := by decide +kernel
theorem d_W_law_312 : decode c_W_law 312 = .ok (.ireturn, 1) := by decide +kernel
theorem d_W_law_313 : decode c_W_law 313 = .ok (.aload_n 1, 1) := by decide +kernel
theorem d_W_law_314 : decode c_W_law 314 = .ok (.aload_n 0, 1) := by decide +kernel
theorem d_W_law_315 : decode c_W_law 315 = .ok (.iload_n 3, 1) := by decide +kernel
theorem d_W_law_316 : decode c_W_law 316 = .ok (.iconst 1, 1) := by decide +kernel
theorem d_W_law_317 : decode c_W_law 317 = .ok (.iadd, 1) := by decide +kernel
theorem d_W_law_318 : decode c_W_law 318 = .ok (.iaload, 1) := by decide +kernel
theorem d_W_law_319 : decode c_W_law 319 = .ok (.invokevirtual 63, 3) := by decide +kernel
theorem d_W_law_322 : decode c_W_law 322 = .ok (.aload_n 2, 1) := by decide +kernel
theorem d_W_law_323 : decode c_W_law 323 = .ok (.aload_n 0, 1) := by decide +kernel
theorem d_W_law_324 : decode c_W_law 324 = .ok (.iload_n 3, 1) := by decide +kernel
theorem d_W_law_325 : decode c_W_law 325 = .ok (.iconst 1, 1) := by decide +kernel
theorem d_W_law_326 : decode c_W_law 326 = .ok (.iadd, 1) := by decide +kernel
theorem d_W_law_327 : decode c_W_law 327 = .ok (.iaload, 1) := by decide +kernel
theorem d_W_law_328 : decode c_W_law 328 = .ok (.invokevirtual 66, 3) := by decide +kernel
theorem d_W_law_331 : decode c_W_law 331 = .ok (.if_icmp .eq 5, 3) := by decide +kernel
theorem d_W_law_334 : decode c_W_law 334 = .ok (.iconst 0, 1) := by decide +kernel
theorem d_W_law_335 : decode c_W_law 335 = .ok (.ireturn, 1) := by decide +kernel
theorem d_W_law_336 : decode c_W_law 336 = .ok (.iinc 3 5, 3) := by decide +kernel
theorem d_W_law_339 : decode c_W_law 339 = .ok (.goto (-311), 3) := by decide +kernel
theorem d_W_law_342 : decode c_W_law 342 = .ok (.iconst 1, 1) := by decide +kernel
theorem d_W_law_343 : decode c_W_law 343 = .ok (.ireturn, 1) := by decide +kernel
