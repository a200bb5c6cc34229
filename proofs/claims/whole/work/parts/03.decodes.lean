theorem d_Rw_reach_0 : decode b_Rw_reach 0 = .ok (.aload_n 0, 1) := by decide +kernel
theorem d_Rw_reach_1 : decode b_Rw_reach 1 = .ok (.getfield 15, 3) := by decide +kernel
theorem d_Rw_reach_4 : decode b_Rw_reach 4 = .ok (.aload_n 0, 1) := by decide +kernel
theorem d_Rw_reach_5 : decode b_Rw_reach 5 = .ok (.getfield 11, 3) := by decide +kernel
theorem d_Rw_reach_8 : decode b_Rw_reach 8 = .ok (.arraylength, 1) := by decide +kernel
theorem d_Rw_reach_9 : decode b_Rw_reach 9 = .ok (.if_icmp .ge 40, 3) := by decide +kernel
theorem d_Rw_reach_12 : decode b_Rw_reach 12 = .ok (.aload_n 0, 1) := by decide +kernel
theorem d_Rw_reach_13 : decode b_Rw_reach 13 = .ok (.getfield 15, 3) := by decide +kernel
theorem d_Rw_reach_16 : decode b_Rw_reach 16 = .ok (.bipush 32, 2) := by decide +kernel
theorem d_Rw_reach_18 : decode b_Rw_reach 18 = .ok (.imul, 1) := by decide +kernel
theorem d_Rw_reach_19 : decode b_Rw_reach 19 = .ok (.iload_n 1, 1) := by decide +kernel
theorem d_Rw_reach_20 : decode b_Rw_reach 20 = .ok (.if_icmp .ge 29, 3) := by decide +kernel
theorem d_Rw_reach_23 : decode b_Rw_reach 23 = .ok (.aload_n 0, 1) := by decide +kernel
theorem d_Rw_reach_24 : decode b_Rw_reach 24 = .ok (.getfield 11, 3) := by decide +kernel
theorem d_Rw_reach_27 : decode b_Rw_reach 27 = .ok (.aload_n 0, 1) := by decide +kernel
theorem d_Rw_reach_28 : decode b_Rw_reach 28 = .ok (.getfield 15, 3) := by decide +kernel
theorem d_Rw_reach_31 : decode b_Rw_reach 31 = .ok (.bipush 32, 2) := by decide +kernel
theorem d_Rw_reach_33 : decode b_Rw_reach 33 = .ok (.newarray .int, 2) := by decide +kernel
theorem d_Rw_reach_35 : decode b_Rw_reach 35 = .ok (.aastore, 1) := by decide +kernel
theorem d_Rw_reach_36 : decode b_Rw_reach 36 = .ok (.aload_n 0, 1) := by decide +kernel
theorem d_Rw_reach_37 : decode b_Rw_reach 37 = .ok (.dup, 1) := by decide +kernel
theorem d_Rw_reach_38 : decode b_Rw_reach 38 = .ok (.getfield 15, 3) := by decide +kernel
theorem d_Rw_reach_41 : decode b_Rw_reach 41 = .ok (.iconst 1, 1) := by decide +kernel
theorem d_Rw_reach_42 : decode b_Rw_reach 42 = .ok (.iadd, 1) := by decide +kernel
theorem d_Rw_reach_43 : decode b_Rw_reach 43 = .ok (.putfield 15, 3) := by decide +kernel
theorem d_Rw_reach_46 : decode b_Rw_reach 46 = .ok (.goto (-46), 3) := by decide +kernel
theorem d_Rw_reach_49 : decode b_Rw_reach 49 = .ok (.return_, 1) := by decide +kernel
theorem d_Rw_get_0 : decode b_Rw_get 0 = .ok (.iload_n 1, 1) := by decide +kernel
theorem d_Rw_get_1 : decode b_Rw_get 1 = .ok (.ifCond .lt 15, 3) := by decide +kernel
theorem d_Rw_get_4 : decode b_Rw_get 4 = .ok (.iload_n 1, 1) := by decide +kernel
theorem d_Rw_get_5 : decode b_Rw_get 5 = .ok (.bipush 32, 2) := by decide +kernel
theorem d_Rw_get_7 : decode b_Rw_get 7 = .ok (.idiv, 1) := by decide +kernel
theorem d_Rw_get_8 : decode b_Rw_get 8 = .ok (.aload_n 0, 1) := by decide +kernel
theorem d_Rw_get_9 : decode b_Rw_get 9 = .ok (.getfield 11, 3) := by decide +kernel
theorem d_Rw_get_12 : decode b_Rw_get 12 = .ok (.arraylength, 1) := by decide +kernel
theorem d_Rw_get_13 : decode b_Rw_get 13 = .ok (.if_icmp .lt 5, 3) := by decide +kernel
theorem d_Rw_get_16 : decode b_Rw_get 16 = .ok (.iconst 0, 1) := by decide +kernel
theorem d_Rw_get_17 : decode b_Rw_get 17 = .ok (.ireturn, 1) := by decide +kernel
theorem d_Rw_get_18 : decode b_Rw_get 18 = .ok (.aload_n 0, 1) := by decide +kernel
theorem d_Rw_get_19 : decode b_Rw_get 19 = .ok (.getfield 11, 3) := by decide +kernel
theorem d_Rw_get_22 : decode b_Rw_get 22 = .ok (.iload_n 1, 1) := by decide +kernel
theorem d_Rw_get_23 : decode b_Rw_get 23 = .ok (.bipush 32, 2) := by decide +kernel
theorem d_Rw_get_25 : decode b_Rw_get 25 = .ok (.idiv, 1) := by decide +kernel
theorem d_Rw_get_26 : decode b_Rw_get 26 = .ok (.aaload, 1) := by decide +kernel
theorem d_Rw_get_27 : decode b_Rw_get 27 = .ok (.astore_n 2, 1) := by decide +kernel
theorem d_Rw_get_28 : decode b_Rw_get 28 = .ok (.iload_n 1, 1) := by decide +kernel
theorem d_Rw_get_29 : decode b_Rw_get 29 = .ok (.bipush 32, 2) := by decide +kernel
theorem d_Rw_get_31 : decode b_Rw_get 31 = .ok (.irem, 1) := by decide +kernel
theorem d_Rw_get_32 : decode b_Rw_get 32 = .ok (.istore_n 3, 1) := by decide +kernel
theorem d_Rw_get_33 : decode b_Rw_get 33 = .ok (.aload_n 2, 1) := by decide +kernel
theorem d_Rw_get_34 : decode b_Rw_get 34 = .ok (.ifnull 15, 3) := by decide +kernel
theorem d_Rw_get_37 : decode b_Rw_get 37 = .ok (.iload_n 3, 1) := by decide +kernel
theorem d_Rw_get_38 : decode b_Rw_get 38 = .ok (.aload_n 2, 1) := by decide +kernel
theorem d_Rw_get_39 : decode b_Rw_get 39 = .ok (.arraylength, 1) := by decide +kernel
theorem d_Rw_get_40 : decode b_Rw_get 40 = .ok (.if_icmp .ge 9, 3) := by decide +kernel
theorem d_Rw_get_43 : decode b_Rw_get 43 = .ok (.aload_n 2, 1) := by decide +kernel
theorem d_Rw_get_44 : decode b_Rw_get 44 = .ok (.iload_n 3, 1) := by decide +kernel
theorem d_Rw_get_45 : decode b_Rw_get 45 = .ok (.iaload, 1) := by decide +kernel
theorem d_Rw_get_46 : decode b_Rw_get 46 = .ok (.goto 4, 3) := by decide +kernel
theorem d_Rw_get_49 : decode b_Rw_get 49 = .ok (.iconst 0, 1) := by decide +kernel
theorem d_Rw_get_50 : decode b_Rw_get 50 = .ok (.ireturn, 1) := by decide +kernel
theorem d_Rw_put_0 : decode b_Rw_put 0 = .ok (.iload_n 1, 1) := by decide +kernel
theorem d_Rw_put_1 : decode b_Rw_put 1 = .ok (.ifCond .lt 15, 3) := by decide +kernel
theorem d_Rw_put_4 : decode b_Rw_put 4 = .ok (.iload_n 1, 1) := by decide +kernel
theorem d_Rw_put_5 : decode b_Rw_put 5 = .ok (.bipush 32, 2) := by decide +kernel
theorem d_Rw_put_7 : decode b_Rw_put 7 = .ok (.idiv, 1) := by decide +kernel
theorem d_Rw_put_8 : decode b_Rw_put 8 = .ok (.aload_n 0, 1) := by decide +kernel
theorem d_Rw_put_9 : decode b_Rw_put 9 = .ok (.getfield 11, 3) := by decide +kernel
theorem d_Rw_put_12 : decode b_Rw_put 12 = .ok (.arraylength, 1) := by decide +kernel
theorem d_Rw_put_13 : decode b_Rw_put 13 = .ok (.if_icmp .lt 4, 3) := by decide +kernel
theorem d_Rw_put_16 : decode b_Rw_put 16 = .ok (.return_, 1) := by decide +kernel
theorem d_Rw_put_17 : decode b_Rw_put 17 = .ok (.aload_n 0, 1) := by decide +kernel
theorem d_Rw_put_18 : decode b_Rw_put 18 = .ok (.getfield 11, 3) := by decide +kernel
theorem d_Rw_put_21 : decode b_Rw_put 21 = .ok (.iload_n 1, 1) := by decide +kernel
theorem d_Rw_put_22 : decode b_Rw_put 22 = .ok (.bipush 32, 2) := by decide +kernel
theorem d_Rw_put_24 : decode b_Rw_put 24 = .ok (.idiv, 1) := by decide +kernel
theorem d_Rw_put_25 : decode b_Rw_put 25 = .ok (.aaload, 1) := by decide +kernel
theorem d_Rw_put_26 : decode b_Rw_put 26 = .ok (.astore_n 3, 1) := by decide +kernel
theorem d_Rw_put_27 : decode b_Rw_put 27 = .ok (.iload_n 1, 1) := by decide +kernel
theorem d_Rw_put_28 : decode b_Rw_put 28 = .ok (.bipush 32, 2) := by decide +kernel
theorem d_Rw_put_30 : decode b_Rw_put 30 = .ok (.irem, 1) := by decide +kernel
theorem d_Rw_put_31 : decode b_Rw_put 31 = .ok (.istore 4, 2) := by decide +kernel
theorem d_Rw_put_33 : decode b_Rw_put 33 = .ok (.aload_n 3, 1) := by decide +kernel
theorem d_Rw_put_34 : decode b_Rw_put 34 = .ok (.ifnull 15, 3) := by decide +kernel
theorem d_Rw_put_37 : decode b_Rw_put 37 = .ok (.iload 4, 2) := by decide +kernel
theorem d_Rw_put_39 : decode b_Rw_put 39 = .ok (.aload_n 3, 1) := by decide +kernel
theorem d_Rw_put_40 : decode b_Rw_put 40 = .ok (.arraylength, 1) := by decide +kernel
theorem d_Rw_put_41 : decode b_Rw_put 41 = .ok (.if_icmp .ge 8, 3) := by decide +kernel
theorem d_Rw_put_44 : decode b_Rw_put 44 = .ok (.aload_n 3, 1) := by decide +kernel
theorem d_Rw_put_45 : decode b_Rw_put 45 = .ok (.iload 4, 2) := by decide +kernel
theorem d_Rw_put_47 : decode b_Rw_put 47 = .ok (.iload_n 2, 1) := by decide +kernel
theorem d_Rw_put_48 : decode b_Rw_put 48 = .ok (.iastore, 1) := by decide +kernel
theorem d_Rw_put_49 : decode b_Rw_put 49 = .ok (.return_, 1) := by decide +kernel
theorem d_Pn_checkPlace_0 : decode b_Pn_checkPlace 0 = .ok (.iload_n 0, 1) := by decide +kernel
theorem d_Pn_checkPlace_1 : decode b_Pn_checkPlace 1 = .ok (.ldc 181, 2) := by decide +kernel
theorem d_Pn_checkPlace_3 : decode b_Pn_checkPlace 3 = .ok (.if_icmp .lt 21, 3) := by decide +kernel
theorem d_Pn_checkPlace_6 : decode b_Pn_checkPlace 6 = .ok (.iload_n 0, 1) := by decide +kernel
theorem d_Pn_checkPlace_7 : decode b_Pn_checkPlace 7 = .ok (.ldc 182, 2) := by decide +kernel
theorem d_Pn_checkPlace_9 : decode b_Pn_checkPlace 9 = .ok (.if_icmp .gt 15, 3) := by decide +kernel
theorem d_Pn_checkPlace_12 : decode b_Pn_checkPlace 12 = .ok (.iload_n 1, 1) := by decide +kernel
theorem d_Pn_checkPlace_13 : decode b_Pn_checkPlace 13 = .ok (.ldc 181, 2) := by decide +kernel
theorem d_Pn_checkPlace_15 : decode b_Pn_checkPlace 15 = .ok (.if_icmp .lt 9, 3) := by decide +kernel
theorem d_Pn_checkPlace_18 : decode b_Pn_checkPlace 18 = .ok (.iload_n 1, 1) := by decide +kernel
theorem d_Pn_checkPlace_19 : decode b_Pn_checkPlace 19 = .ok (.ldc 182, 2) := by decide +kernel
theorem d_Pn_checkPlace_21 : decode b_Pn_checkPlace 21 = .ok (.if_icmp .le 13, 3) := by decide +kernel
theorem d_Pn_checkPlace_24 : decode b_Pn_checkPlace 24 = .ok (.new 183, 3) := by decide +kernel
theorem d_Pn_checkPlace_27 : decode b_Pn_checkPlace 27 = .ok (.dup, 1) := by decide +kernel
theorem d_Pn_checkPlace_28 : decode b_Pn_checkPlace 28 = .ok (.ldc 185, 2) := by decide +kernel
theorem d_Pn_checkPlace_30 : decode b_Pn_checkPlace 30 = .ok (.invokespecial 187, 3) := by decide +kernel
theorem d_Pn_checkPlace_33 : decode b_Pn_checkPlace 33 = .ok (.athrow, 1) := by decide +kernel
theorem d_Pn_checkPlace_34 : decode b_Pn_checkPlace 34 = .ok (.return_, 1) := by decide +kernel
theorem d_Pt_gap_0 : decode b_Pt_gap 0 = .ok (.aload_n 0, 1) := by decide +kernel
theorem d_Pt_gap_1 : decode b_Pt_gap 1 = .ok (.getfield 23, 3) := by decide +kernel
theorem d_Pt_gap_4 : decode b_Pt_gap 4 = .ok (.iload_n 1, 1) := by decide +kernel
theorem d_Pt_gap_5 : decode b_Pt_gap 5 = .ok (.invokevirtual 44, 3) := by decide +kernel
theorem d_Pt_gap_8 : decode b_Pt_gap 8 = .ok (.i2l, 1) := by decide +kernel
theorem d_Pt_gap_9 : decode b_Pt_gap 9 = .ok (.iload_n 2, 1) := by decide +kernel
theorem d_Pt_gap_10 : decode b_Pt_gap 10 = .ok (.i2l, 1) := by decide +kernel
theorem d_Pt_gap_11 : decode b_Pt_gap 11 = .ok (.lsub, 1) := by decide +kernel
theorem d_Pt_gap_12 : decode b_Pt_gap 12 = .ok (.lstore 4, 2) := by decide +kernel
theorem d_Pt_gap_14 : decode b_Pt_gap 14 = .ok (.aload_n 0, 1) := by decide +kernel
theorem d_Pt_gap_15 : decode b_Pt_gap 15 = .ok (.getfield 27, 3) := by decide +kernel
theorem d_Pt_gap_18 : decode b_Pt_gap 18 = .ok (.iload_n 1, 1) := by decide +kernel
theorem d_Pt_gap_19 : decode b_Pt_gap 19 = .ok (.invokevirtual 44, 3) := by decide +kernel
theorem d_Pt_gap_22 : decode b_Pt_gap 22 = .ok (.i2l, 1) := by decide +kernel
theorem d_Pt_gap_23 : decode b_Pt_gap 23 = .ok (.iload_n 3, 1) := by decide +kernel
theorem d_Pt_gap_24 : decode b_Pt_gap 24 = .ok (.i2l, 1) := by decide +kernel
theorem d_Pt_gap_25 : decode b_Pt_gap 25 = .ok (.lsub, 1) := by decide +kernel
theorem d_Pt_gap_26 : decode b_Pt_gap 26 = .ok (.lstore 6, 2) := by decide +kernel
theorem d_Pt_gap_28 : decode b_Pt_gap 28 = .ok (.lload 4, 2) := by decide +kernel
theorem d_Pt_gap_30 : decode b_Pt_gap 30 = .ok (.lload 4, 2) := by decide +kernel
theorem d_Pt_gap_32 : decode b_Pt_gap 32 = .ok (.lmul, 1) := by decide +kernel
theorem d_Pt_gap_33 : decode b_Pt_gap 33 = .ok (.lload 6, 2) := by decide +kernel
theorem d_Pt_gap_35 : decode b_Pt_gap 35 = .ok (.lload 6, 2) := by decide +kernel
theorem d_Pt_gap_37 : decode b_Pt_gap 37 = .ok (.lmul, 1) := by decide +kernel
theorem d_Pt_gap_38 : decode b_Pt_gap 38 = .ok (.ladd, 1) := by decide +kernel
theorem d_Pt_gap_39 : decode b_Pt_gap 39 = .ok (.lreturn, 1) := by decide +kernel
theorem d_Pt_nearestOf_0 : decode b_Pt_nearestOf 0 = .ok (.iconst (-1), 1) := by decide +kernel
theorem d_Pt_nearestOf_1 : decode b_Pt_nearestOf 1 = .ok (.istore 4, 2) := by decide +kernel
theorem d_Pt_nearestOf_3 : decode b_Pt_nearestOf 3 = .ok (.lconst 0, 1) := by decide +kernel
theorem d_Pt_nearestOf_4 : decode b_Pt_nearestOf 4 = .ok (.lstore 5, 2) := by decide +kernel
theorem d_Pt_nearestOf_6 : decode b_Pt_nearestOf 6 = .ok (.iconst 0, 1) := by decide +kernel
theorem d_Pt_nearestOf_7 : decode b_Pt_nearestOf 7 = .ok (.istore 7, 2) := by decide +kernel
theorem d_Pt_nearestOf_9 : decode b_Pt_nearestOf 9 = .ok (.iload 7, 2) := by decide +kernel
theorem d_Pt_nearestOf_11 : decode b_Pt_nearestOf 11 = .ok (.iload_n 1, 1) := by decide +kernel
theorem d_Pt_nearestOf_12 : decode b_Pt_nearestOf 12 = .ok (.if_icmp .ge 41, 3) := by decide +kernel
theorem d_Pt_nearestOf_15 : decode b_Pt_nearestOf 15 = .ok (.aload_n 0, 1) := by decide +kernel
theorem d_Pt_nearestOf_16 : decode b_Pt_nearestOf 16 = .ok (.iload 7, 2) := by decide +kernel
theorem d_Pt_nearestOf_18 : decode b_Pt_nearestOf 18 = .ok (.iload_n 2, 1) := by decide +kernel
theorem d_Pt_nearestOf_19 : decode b_Pt_nearestOf 19 = .ok (.iload_n 3, 1) := by decide +kernel
theorem d_Pt_nearestOf_20 : decode b_Pt_nearestOf 20 = .ok (.invokevirtual 48, 3) := by decide +kernel
theorem d_Pt_nearestOf_23 : decode b_Pt_nearestOf 23 = .ok (.lstore 8, 2) := by decide +kernel
theorem d_Pt_nearestOf_25 : decode b_Pt_nearestOf 25 = .ok (.iload 4, 2) := by decide +kernel
theorem d_Pt_nearestOf_27 : decode b_Pt_nearestOf 27 = .ok (.iconst (-1), 1) := by decide +kernel
theorem d_Pt_nearestOf_28 : decode b_Pt_nearestOf 28 = .ok (.if_icmp .eq 11, 3) := by decide +kernel
theorem d_Pt_nearestOf_31 : decode b_Pt_nearestOf 31 = .ok (.lload 8, 2) := by decide +kernel
theorem d_Pt_nearestOf_33 : decode b_Pt_nearestOf 33 = .ok (.lload 5, 2) := by decide +kernel
theorem d_Pt_nearestOf_35 : decode b_Pt_nearestOf 35 = .ok (.lcmp, 1) := by decide +kernel
theorem d_Pt_nearestOf_36 : decode b_Pt_nearestOf 36 = .ok (.ifCond .ge 11, 3) := by decide +kernel
theorem d_Pt_nearestOf_39 : decode b_Pt_nearestOf 39 = .ok (.iload 7, 2) := by decide +kernel
theorem d_Pt_nearestOf_41 : decode b_Pt_nearestOf 41 = .ok (.istore 4, 2) := by decide +kernel
theorem d_Pt_nearestOf_43 : decode b_Pt_nearestOf 43 = .ok (.lload 8, 2) := by decide +kernel
theorem d_Pt_nearestOf_45 : decode b_Pt_nearestOf 45 = .ok (.lstore 5, 2) := by decide +kernel
theorem d_Pt_nearestOf_47 : decode b_Pt_nearestOf 47 = .ok (.iinc 7 1, 3) := by decide +kernel
theorem d_Pt_nearestOf_50 : decode b_Pt_nearestOf 50 = .ok (.goto (-41), 3) := by decide +kernel
theorem d_Pt_nearestOf_53 : decode b_Pt_nearestOf 53 = .ok (.iload 4, 2) := by decide +kernel
theorem d_Pt_nearestOf_55 : decode b_Pt_nearestOf 55 = .ok (.ireturn, 1) := by decide +kernel
theorem d_Pt_isAt_0 : decode b_Pt_isAt 0 = .ok (.iload_n 1, 1) := by decide +kernel
theorem d_Pt_isAt_1 : decode b_Pt_isAt 1 = .ok (.ifCond .lt 39, 3) := by decide +kernel
theorem d_Pt_isAt_4 : decode b_Pt_isAt 4 = .ok (.iload_n 1, 1) := by decide +kernel
theorem d_Pt_isAt_5 : decode b_Pt_isAt 5 = .ok (.aload_n 0, 1) := by decide +kernel
theorem d_Pt_isAt_6 : decode b_Pt_isAt 6 = .ok (.getfield 15, 3) := by decide +kernel
theorem d_Pt_isAt_9 : decode b_Pt_isAt 9 = .ok (.if_icmp .ge 31, 3) := by decide +kernel
theorem d_Pt_isAt_12 : decode b_Pt_isAt 12 = .ok (.aload_n 0, 1) := by decide +kernel
theorem d_Pt_isAt_13 : decode b_Pt_isAt 13 = .ok (.getfield 23, 3) := by decide +kernel
theorem d_Pt_isAt_16 : decode b_Pt_isAt 16 = .ok (.iload_n 1, 1) := by decide +kernel
theorem d_Pt_isAt_17 : decode b_Pt_isAt 17 = .ok (.invokevirtual 44, 3) := by decide +kernel
theorem d_Pt_isAt_20 : decode b_Pt_isAt 20 = .ok (.iload_n 2, 1) := by decide +kernel
theorem d_Pt_isAt_21 : decode b_Pt_isAt 21 = .ok (.if_icmp .ne 19, 3) := by decide +kernel
theorem d_Pt_isAt_24 : decode b_Pt_isAt 24 = .ok (.aload_n 0, 1) := by decide +kernel
theorem d_Pt_isAt_25 : decode b_Pt_isAt 25 = .ok (.getfield 27, 3) := by decide +kernel
theorem d_Pt_isAt_28 : decode b_Pt_isAt 28 = .ok (.iload_n 1, 1) := by decide +kernel
theorem d_Pt_isAt_29 : decode b_Pt_isAt 29 = .ok (.invokevirtual 44, 3) := by decide +kernel
theorem d_Pt_isAt_32 : decode b_Pt_isAt 32 = .ok (.iload_n 3, 1) := by decide +kernel
theorem d_Pt_isAt_33 : decode b_Pt_isAt 33 = .ok (.if_icmp .ne 7, 3) := by decide +kernel
theorem d_Pt_isAt_36 : decode b_Pt_isAt 36 = .ok (.iconst 1, 1) := by decide +kernel
theorem d_Pt_isAt_37 : decode b_Pt_isAt 37 = .ok (.goto 4, 3) := by decide +kernel
theorem d_Pt_isAt_40 : decode b_Pt_isAt 40 = .ok (.iconst 0, 1) := by decide +kernel
theorem d_Pt_isAt_41 : decode b_Pt_isAt 41 = .ok (.ireturn, 1) := by decide +kernel
theorem d_Pt_isFull_0 : decode b_Pt_isFull 0 = .ok (.aload_n 0, 1) := by decide +kernel
theorem d_Pt_isFull_1 : decode b_Pt_isFull 1 = .ok (.getfield 15, 3) := by decide +kernel
theorem d_Pt_isFull_4 : decode b_Pt_isFull 4 = .ok (.aload_n 0, 1) := by decide +kernel
theorem d_Pt_isFull_5 : decode b_Pt_isFull 5 = .ok (.getfield 9, 3) := by decide +kernel
theorem d_Pt_isFull_8 : decode b_Pt_isFull 8 = .ok (.if_icmp .lt 7, 3) := by decide +kernel
theorem d_Pt_isFull_11 : decode b_Pt_isFull 11 = .ok (.iconst 1, 1) := by decide +kernel
theorem d_Pt_isFull_12 : decode b_Pt_isFull 12 = .ok (.goto 4, 3) := by decide +kernel
theorem d_Pt_isFull_15 : decode b_Pt_isFull 15 = .ok (.iconst 0, 1) := by decide +kernel
theorem d_Pt_isFull_16 : decode b_Pt_isFull 16 = .ok (.ireturn, 1) := by decide +kernel
theorem d_Pt_makeRoom_0 : decode b_Pt_makeRoom 0 = .ok (.aload_n 0, 1) := by decide +kernel
theorem d_Pt_makeRoom_1 : decode b_Pt_makeRoom 1 = .ok (.getfield 23, 3) := by decide +kernel
theorem d_Pt_makeRoom_4 : decode b_Pt_makeRoom 4 = .ok (.iload_n 1, 1) := by decide +kernel
theorem d_Pt_makeRoom_5 : decode b_Pt_makeRoom 5 = .ok (.invokevirtual 37, 3) := by decide +kernel
theorem d_Pt_makeRoom_8 : decode b_Pt_makeRoom 8 = .ok (.aload_n 0, 1) := by decide +kernel
theorem d_Pt_makeRoom_9 : decode b_Pt_makeRoom 9 = .ok (.getfield 27, 3) := by decide +kernel
theorem d_Pt_makeRoom_12 : decode b_Pt_makeRoom 12 = .ok (.iload_n 1, 1) := by decide +kernel
theorem d_Pt_makeRoom_13 : decode b_Pt_makeRoom 13 = .ok (.invokevirtual 37, 3) := by decide +kernel
theorem d_Pt_makeRoom_16 : decode b_Pt_makeRoom 16 = .ok (.return_, 1) := by decide +kernel
theorem d_Nt_makeRoom_0 : decode b_Nt_makeRoom 0 = .ok (.aload_n 0, 1) := by decide +kernel
theorem d_Nt_makeRoom_1 : decode b_Nt_makeRoom 1 = .ok (.getfield 29, 3) := by decide +kernel
theorem d_Nt_makeRoom_4 : decode b_Nt_makeRoom 4 = .ok (.bipush 6, 2) := by decide +kernel
theorem d_Nt_makeRoom_6 : decode b_Nt_makeRoom 6 = .ok (.iload_n 1, 1) := by decide +kernel
theorem d_Nt_makeRoom_7 : decode b_Nt_makeRoom 7 = .ok (.imul, 1) := by decide +kernel
theorem d_Nt_makeRoom_8 : decode b_Nt_makeRoom 8 = .ok (.invokevirtual 71, 3) := by decide +kernel
theorem d_Nt_makeRoom_11 : decode b_Nt_makeRoom 11 = .ok (.aload_n 0, 1) := by decide +kernel
theorem d_Nt_makeRoom_12 : decode b_Nt_makeRoom 12 = .ok (.getfield 33, 3) := by decide +kernel
theorem d_Nt_makeRoom_15 : decode b_Nt_makeRoom 15 = .ok (.bipush 6, 2) := by decide +kernel
theorem d_Nt_makeRoom_17 : decode b_Nt_makeRoom 17 = .ok (.iload_n 1, 1) := by decide +kernel
theorem d_Nt_makeRoom_18 : decode b_Nt_makeRoom 18 = .ok (.imul, 1) := by decide +kernel
theorem d_Nt_makeRoom_19 : decode b_Nt_makeRoom 19 = .ok (.invokevirtual 71, 3) := by decide +kernel
theorem d_Nt_makeRoom_22 : decode b_Nt_makeRoom 22 = .ok (.aload_n 0, 1) := by decide +kernel
theorem d_Nt_makeRoom_23 : decode b_Nt_makeRoom 23 = .ok (.getfield 36, 3) := by decide +kernel
theorem d_Nt_makeRoom_26 : decode b_Nt_makeRoom 26 = .ok (.iload_n 1, 1) := by decide +kernel
theorem d_Nt_makeRoom_27 : decode b_Nt_makeRoom 27 = .ok (.iconst 1, 1) := by decide +kernel
theorem d_Nt_makeRoom_28 : decode b_Nt_makeRoom 28 = .ok (.iadd, 1) := by decide +kernel
theorem d_Nt_makeRoom_29 : decode b_Nt_makeRoom 29 = .ok (.invokevirtual 71, 3) := by decide +kernel
theorem d_Nt_makeRoom_32 : decode b_Nt_makeRoom 32 = .ok (.aload_n 0, 1) := by decide +kernel
theorem d_Nt_makeRoom_33 : decode b_Nt_makeRoom 33 = .ok (.getfield 39, 3) := by decide +kernel
theorem d_Nt_makeRoom_36 : decode b_Nt_makeRoom 36 = .ok (.iconst 2, 1) := by decide +kernel
theorem d_Nt_makeRoom_37 : decode b_Nt_makeRoom 37 = .ok (.iload_n 1, 1) := by decide +kernel
theorem d_Nt_makeRoom_38 : decode b_Nt_makeRoom 38 = .ok (.imul, 1) := by decide +kernel
theorem d_Nt_makeRoom_39 : decode b_Nt_makeRoom 39 = .ok (.invokevirtual 71, 3) := by decide +kernel
theorem d_Nt_makeRoom_42 : decode b_Nt_makeRoom 42 = .ok (.aload_n 0, 1) := by decide +kernel
theorem d_Nt_makeRoom_43 : decode b_Nt_makeRoom 43 = .ok (.getfield 42, 3) := by decide +kernel
theorem d_Nt_makeRoom_46 : decode b_Nt_makeRoom 46 = .ok (.iconst 2, 1) := by decide +kernel
theorem d_Nt_makeRoom_47 : decode b_Nt_makeRoom 47 = .ok (.iload_n 1, 1) := by decide +kernel
theorem d_Nt_makeRoom_48 : decode b_Nt_makeRoom 48 = .ok (.imul, 1) := by decide +kernel
theorem d_Nt_makeRoom_49 : decode b_Nt_makeRoom 49 = .ok (.invokevirtual 71, 3) := by decide +kernel
theorem d_Nt_makeRoom_52 : decode b_Nt_makeRoom 52 = .ok (.aload_n 0, 1) := by decide +kernel
theorem d_Nt_makeRoom_53 : decode b_Nt_makeRoom 53 = .ok (.getfield 45, 3) := by decide +kernel
theorem d_Nt_makeRoom_56 : decode b_Nt_makeRoom 56 = .ok (.iconst 2, 1) := by decide +kernel
theorem d_Nt_makeRoom_57 : decode b_Nt_makeRoom 57 = .ok (.iload_n 1, 1) := by decide +kernel
theorem d_Nt_makeRoom_58 : decode b_Nt_makeRoom 58 = .ok (.imul, 1) := by decide +kernel
theorem d_Nt_makeRoom_59 : decode b_Nt_makeRoom 59 = .ok (.invokevirtual 71, 3) := by decide +kernel
theorem d_Nt_makeRoom_62 : decode b_Nt_makeRoom 62 = .ok (.return_, 1) := by decide +kernel
theorem d_Rl_makeRoom_0 : decode b_Rl_makeRoom 0 = .ok (.aload_n 0, 1) := by decide +kernel
theorem d_Rl_makeRoom_1 : decode b_Rl_makeRoom 1 = .ok (.getfield 28, 3) := by decide +kernel
theorem d_Rl_makeRoom_4 : decode b_Rl_makeRoom 4 = .ok (.iconst 2, 1) := by decide +kernel
theorem d_Rl_makeRoom_5 : decode b_Rl_makeRoom 5 = .ok (.iload_n 1, 1) := by decide +kernel
theorem d_Rl_makeRoom_6 : decode b_Rl_makeRoom 6 = .ok (.imul, 1) := by decide +kernel
theorem d_Rl_makeRoom_7 : decode b_Rl_makeRoom 7 = .ok (.invokevirtual 42, 3) := by decide +kernel
theorem d_Rl_makeRoom_10 : decode b_Rl_makeRoom 10 = .ok (.aload_n 0, 1) := by decide +kernel
theorem d_Rl_makeRoom_11 : decode b_Rl_makeRoom 11 = .ok (.getfield 32, 3) := by decide +kernel
theorem d_Rl_makeRoom_14 : decode b_Rl_makeRoom 14 = .ok (.iconst 2, 1) := by decide +kernel
theorem d_Rl_makeRoom_15 : decode b_Rl_makeRoom 15 = .ok (.iload_n 1, 1) := by decide +kernel
theorem d_Rl_makeRoom_16 : decode b_Rl_makeRoom 16 = .ok (.imul, 1) := by decide +kernel
theorem d_Rl_makeRoom_17 : decode b_Rl_makeRoom 17 = .ok (.invokevirtual 42, 3) := by decide +kernel
theorem d_Rl_makeRoom_20 : decode b_Rl_makeRoom 20 = .ok (.aload_n 0, 1) := by decide +kernel
theorem d_Rl_makeRoom_21 : decode b_Rl_makeRoom 21 = .ok (.getfield 35, 3) := by decide +kernel
theorem d_Rl_makeRoom_24 : decode b_Rl_makeRoom 24 = .ok (.iload_n 1, 1) := by decide +kernel
theorem d_Rl_makeRoom_25 : decode b_Rl_makeRoom 25 = .ok (.iconst 1, 1) := by decide +kernel
theorem d_Rl_makeRoom_26 : decode b_Rl_makeRoom 26 = .ok (.iadd, 1) := by decide +kernel
theorem d_Rl_makeRoom_27 : decode b_Rl_makeRoom 27 = .ok (.invokevirtual 42, 3) := by decide +kernel
theorem d_Rl_makeRoom_30 : decode b_Rl_makeRoom 30 = .ok (.return_, 1) := by decide +kernel
theorem d_Ol_makeRoom_0 : decode b_Ol_makeRoom 0 = .ok (.aload_n 0, 1) := by decide +kernel
theorem d_Ol_makeRoom_1 : decode b_Ol_makeRoom 1 = .ok (.getfield 30, 3) := by decide +kernel
theorem d_Ol_makeRoom_4 : decode b_Ol_makeRoom 4 = .ok (.iload_n 1, 1) := by decide +kernel
theorem d_Ol_makeRoom_5 : decode b_Ol_makeRoom 5 = .ok (.invokevirtual 41, 3) := by decide +kernel
theorem d_Ol_makeRoom_8 : decode b_Ol_makeRoom 8 = .ok (.return_, 1) := by decide +kernel
theorem d_Pn_makeRoom_0 : decode b_Pn_makeRoom 0 = .ok (.aload_n 0, 1) := by decide +kernel
theorem d_Pn_makeRoom_1 : decode b_Pn_makeRoom 1 = .ok (.getfield 23, 3) := by decide +kernel
theorem d_Pn_makeRoom_4 : decode b_Pn_makeRoom 4 = .ok (.iload_n 1, 1) := by decide +kernel
theorem d_Pn_makeRoom_5 : decode b_Pn_makeRoom 5 = .ok (.invokevirtual 190, 3) := by decide +kernel
theorem d_Pn_makeRoom_8 : decode b_Pn_makeRoom 8 = .ok (.aload_n 0, 1) := by decide +kernel
theorem d_Pn_makeRoom_9 : decode b_Pn_makeRoom 9 = .ok (.getfield 32, 3) := by decide +kernel
theorem d_Pn_makeRoom_12 : decode b_Pn_makeRoom 12 = .ok (.iload_n 1, 1) := by decide +kernel
theorem d_Pn_makeRoom_13 : decode b_Pn_makeRoom 13 = .ok (.invokevirtual 191, 3) := by decide +kernel
theorem d_Pn_makeRoom_16 : decode b_Pn_makeRoom 16 = .ok (.aload_n 0, 1) := by decide +kernel
theorem d_Pn_makeRoom_17 : decode b_Pn_makeRoom 17 = .ok (.getfield 41, 3) := by decide +kernel
theorem d_Pn_makeRoom_20 : decode b_Pn_makeRoom 20 = .ok (.iload_n 1, 1) := by decide +kernel
theorem d_Pn_makeRoom_21 : decode b_Pn_makeRoom 21 = .ok (.invokevirtual 192, 3) := by decide +kernel
theorem d_Pn_makeRoom_24 : decode b_Pn_makeRoom 24 = .ok (.aload_n 0, 1) := by decide +kernel
theorem d_Pn_makeRoom_25 : decode b_Pn_makeRoom 25 = .ok (.getfield 48, 3) := by decide +kernel
theorem d_Pn_makeRoom_28 : decode b_Pn_makeRoom 28 = .ok (.iload_n 1, 1) := by decide +kernel
theorem d_Pn_makeRoom_29 : decode b_Pn_makeRoom 29 = .ok (.invokevirtual 193, 3) := by decide +kernel
theorem d_Pn_makeRoom_32 : decode b_Pn_makeRoom 32 = .ok (.return_, 1) := by decide +kernel
theorem d_Pt_append_0 : decode b_Pt_append 0 = .ok (.aload_n 0, 1) := by decide +kernel
theorem d_Pt_append_1 : decode b_Pt_append 1 = .ok (.getfield 15, 3) := by decide +kernel
theorem d_Pt_append_4 : decode b_Pt_append 4 = .ok (.istore_n 3, 1) := by decide +kernel
theorem d_Pt_append_5 : decode b_Pt_append 5 = .ok (.aload_n 0, 1) := by decide +kernel
theorem d_Pt_append_6 : decode b_Pt_append 6 = .ok (.getfield 23, 3) := by decide +kernel
theorem d_Pt_append_9 : decode b_Pt_append 9 = .ok (.iload_n 3, 1) := by decide +kernel
theorem d_Pt_append_10 : decode b_Pt_append 10 = .ok (.iload_n 1, 1) := by decide +kernel
theorem d_Pt_append_11 : decode b_Pt_append 11 = .ok (.invokevirtual 40, 3) := by decide +kernel
theorem d_Pt_append_14 : decode b_Pt_append 14 = .ok (.aload_n 0, 1) := by decide +kernel
theorem d_Pt_append_15 : decode b_Pt_append 15 = .ok (.getfield 27, 3) := by decide +kernel
theorem d_Pt_append_18 : decode b_Pt_append 18 = .ok (.iload_n 3, 1) := by decide +kernel
theorem d_Pt_append_19 : decode b_Pt_append 19 = .ok (.iload_n 2, 1) := by decide +kernel
theorem d_Pt_append_20 : decode b_Pt_append 20 = .ok (.invokevirtual 40, 3) := by decide +kernel
theorem d_Pt_append_23 : decode b_Pt_append 23 = .ok (.aload_n 0, 1) := by decide +kernel
theorem d_Pt_append_24 : decode b_Pt_append 24 = .ok (.iload_n 3, 1) := by decide +kernel
theorem d_Pt_append_25 : decode b_Pt_append 25 = .ok (.iconst 1, 1) := by decide +kernel
theorem d_Pt_append_26 : decode b_Pt_append 26 = .ok (.iadd, 1) := by decide +kernel
theorem d_Pt_append_27 : decode b_Pt_append 27 = .ok (.putfield 15, 3) := by decide +kernel
theorem d_Pt_append_30 : decode b_Pt_append 30 = .ok (.iload_n 3, 1) := by decide +kernel
theorem d_Pt_append_31 : decode b_Pt_append 31 = .ok (.ireturn, 1) := by decide +kernel
theorem d_Pt_x_0 : decode b_Pt_x 0 = .ok (.aload_n 0, 1) := by decide +kernel
theorem d_Pt_x_1 : decode b_Pt_x 1 = .ok (.getfield 23, 3) := by decide +kernel
theorem d_Pt_x_4 : decode b_Pt_x 4 = .ok (.iload_n 1, 1) := by decide +kernel
theorem d_Pt_x_5 : decode b_Pt_x 5 = .ok (.invokevirtual 44, 3) := by decide +kernel
theorem d_Pt_x_8 : decode b_Pt_x 8 = .ok (.ireturn, 1) := by decide +kernel
theorem d_Pt_y_0 : decode b_Pt_y 0 = .ok (.aload_n 0, 1) := by decide +kernel
theorem d_Pt_y_1 : decode b_Pt_y 1 = .ok (.getfield 27, 3) := by decide +kernel
theorem d_Pt_y_4 : decode b_Pt_y 4 = .ok (.iload_n 1, 1) := by decide +kernel
theorem d_Pt_y_5 : decode b_Pt_y 5 = .ok (.invokevirtual 44, 3) := by decide +kernel
theorem d_Pt_y_8 : decode b_Pt_y 8 = .ok (.ireturn, 1) := by decide +kernel
theorem d_Pn_noteClosest_0 : decode b_Pn_noteClosest 0 = .ok (.iload_n 1, 1) := by decide +kernel
theorem d_Pn_noteClosest_1 : decode b_Pn_noteClosest 1 = .ok (.iconst (-1), 1) := by decide +kernel
theorem d_Pn_noteClosest_2 : decode b_Pn_noteClosest 2 = .ok (.if_icmp .ne 4, 3) := by decide +kernel
theorem d_Pn_noteClosest_5 : decode b_Pn_noteClosest 5 = .ok (.return_, 1) := by decide +kernel
theorem d_Pn_noteClosest_6 : decode b_Pn_noteClosest 6 = .ok (.aload_n 0, 1) := by decide +kernel
theorem d_Pn_noteClosest_7 : decode b_Pn_noteClosest 7 = .ok (.getfield 23, 3) := by decide +kernel
theorem d_Pn_noteClosest_10 : decode b_Pn_noteClosest 10 = .ok (.iload_n 1, 1) := by decide +kernel
theorem d_Pn_noteClosest_11 : decode b_Pn_noteClosest 11 = .ok (.aload_n 0, 1) := by decide +kernel
theorem d_Pn_noteClosest_12 : decode b_Pn_noteClosest 12 = .ok (.getfield 23, 3) := by decide +kernel
theorem d_Pn_noteClosest_15 : decode b_Pn_noteClosest 15 = .ok (.iload_n 2, 1) := by decide +kernel
theorem d_Pn_noteClosest_16 : decode b_Pn_noteClosest 16 = .ok (.invokevirtual 175, 3) := by decide +kernel
theorem d_Pn_noteClosest_19 : decode b_Pn_noteClosest 19 = .ok (.aload_n 0, 1) := by decide +kernel
theorem d_Pn_noteClosest_20 : decode b_Pn_noteClosest 20 = .ok (.getfield 23, 3) := by decide +kernel
theorem d_Pn_noteClosest_23 : decode b_Pn_noteClosest 23 = .ok (.iload_n 2, 1) := by decide +kernel
theorem d_Pn_noteClosest_24 : decode b_Pn_noteClosest 24 = .ok (.invokevirtual 178, 3) := by decide +kernel
theorem d_Pn_noteClosest_27 : decode b_Pn_noteClosest 27 = .ok (.invokevirtual 194, 3) := by decide +kernel
theorem d_Pn_noteClosest_30 : decode b_Pn_noteClosest 30 = .ok (.lstore_n 3, 1) := by decide +kernel
theorem d_Pn_noteClosest_31 : decode b_Pn_noteClosest 31 = .ok (.aload_n 0, 1) := by decide +kernel
theorem d_Pn_noteClosest_32 : decode b_Pn_noteClosest 32 = .ok (.getfield 60, 3) := by decide +kernel
theorem d_Pn_noteClosest_35 : decode b_Pn_noteClosest 35 = .ok (.iconst (-1), 1) := by decide +kernel
theorem d_Pn_noteClosest_36 : decode b_Pn_noteClosest 36 = .ok (.if_icmp .eq 29, 3) := by decide +kernel
theorem d_Pn_noteClosest_39 : decode b_Pn_noteClosest 39 = .ok (.lload_n 3, 1) := by decide +kernel
theorem d_Pn_noteClosest_40 : decode b_Pn_noteClosest 40 = .ok (.aload_n 0, 1) := by decide +kernel
theorem d_Pn_noteClosest_41 : decode b_Pn_noteClosest 41 = .ok (.getfield 56, 3) := by decide +kernel
theorem d_Pn_noteClosest_44 : decode b_Pn_noteClosest 44 = .ok (.lcmp, 1) := by decide +kernel
theorem d_Pn_noteClosest_45 : decode b_Pn_noteClosest 45 = .ok (.ifCond .lt 20, 3) := by decide +kernel
theorem d_Pn_noteClosest_48 : decode b_Pn_noteClosest 48 = .ok (.lload_n 3, 1) := by decide +kernel
theorem d_Pn_noteClosest_49 : decode b_Pn_noteClosest 49 = .ok (.aload_n 0, 1) := by decide +kernel
theorem d_Pn_noteClosest_50 : decode b_Pn_noteClosest 50 = .ok (.getfield 56, 3) := by decide +kernel
theorem d_Pn_noteClosest_53 : decode b_Pn_noteClosest 53 = .ok (.lcmp, 1) := by decide +kernel
theorem d_Pn_noteClosest_54 : decode b_Pn_noteClosest 54 = .ok (.ifCond .ne 26, 3) := by decide +kernel
theorem d_Pn_noteClosest_57 : decode b_Pn_noteClosest 57 = .ok (.iload_n 1, 1) := by decide +kernel
theorem d_Pn_noteClosest_58 : decode b_Pn_noteClosest 58 = .ok (.aload_n 0, 1) := by decide +kernel
theorem d_Pn_noteClosest_59 : decode b_Pn_noteClosest 59 = .ok (.getfield 60, 3) := by decide +kernel
theorem d_Pn_noteClosest_62 : decode b_Pn_noteClosest 62 = .ok (.if_icmp .ge 18, 3) := by decide +kernel
theorem d_Pn_noteClosest_65 : decode b_Pn_noteClosest 65 = .ok (.aload_n 0, 1) := by decide +kernel
theorem d_Pn_noteClosest_66 : decode b_Pn_noteClosest 66 = .ok (.lload_n 3, 1) := by decide +kernel
theorem d_Pn_noteClosest_67 : decode b_Pn_noteClosest 67 = .ok (.putfield 56, 3) := by decide +kernel
theorem d_Pn_noteClosest_70 : decode b_Pn_noteClosest 70 = .ok (.aload_n 0, 1) := by decide +kernel
theorem d_Pn_noteClosest_71 : decode b_Pn_noteClosest 71 = .ok (.iload_n 1, 1) := by decide +kernel
theorem d_Pn_noteClosest_72 : decode b_Pn_noteClosest 72 = .ok (.putfield 60, 3) := by decide +kernel
theorem d_Pn_noteClosest_75 : decode b_Pn_noteClosest 75 = .ok (.aload_n 0, 1) := by decide +kernel
theorem d_Pn_noteClosest_76 : decode b_Pn_noteClosest 76 = .ok (.iload_n 2, 1) := by decide +kernel
theorem d_Pn_noteClosest_77 : decode b_Pn_noteClosest 77 = .ok (.putfield 64, 3) := by decide +kernel
theorem d_Pn_noteClosest_80 : decode b_Pn_noteClosest 80 = .ok (.return_, 1) := by decide +kernel
theorem d_Nt_isEmpty_0 : decode b_Nt_isEmpty 0 = .ok (.aload_n 0, 1) := by decide +kernel
theorem d_Nt_isEmpty_1 : decode b_Nt_isEmpty 1 = .ok (.getfield 51, 3) := by decide +kernel
theorem d_Nt_isEmpty_4 : decode b_Nt_isEmpty 4 = .ok (.ifCond .ne 7, 3) := by decide +kernel
theorem d_Nt_isEmpty_7 : decode b_Nt_isEmpty 7 = .ok (.iconst 1, 1) := by decide +kernel
theorem d_Nt_isEmpty_8 : decode b_Nt_isEmpty 8 = .ok (.goto 4, 3) := by decide +kernel
theorem d_Nt_isEmpty_11 : decode b_Nt_isEmpty 11 = .ok (.iconst 0, 1) := by decide +kernel
theorem d_Nt_isEmpty_12 : decode b_Nt_isEmpty 12 = .ok (.ireturn, 1) := by decide +kernel
theorem d_Pt_turn_0 : decode b_Pt_turn 0 = .ok (.aload_n 0, 1) := by decide +kernel
theorem d_Pt_turn_1 : decode b_Pt_turn 1 = .ok (.getfield 23, 3) := by decide +kernel
theorem d_Pt_turn_4 : decode b_Pt_turn 4 = .ok (.iload_n 2, 1) := by decide +kernel
theorem d_Pt_turn_5 : decode b_Pt_turn 5 = .ok (.invokevirtual 44, 3) := by decide +kernel
theorem d_Pt_turn_8 : decode b_Pt_turn 8 = .ok (.i2l, 1) := by decide +kernel
theorem d_Pt_turn_9 : decode b_Pt_turn 9 = .ok (.aload_n 0, 1) := by decide +kernel
theorem d_Pt_turn_10 : decode b_Pt_turn 10 = .ok (.getfield 23, 3) := by decide +kernel
theorem d_Pt_turn_13 : decode b_Pt_turn 13 = .ok (.iload_n 1, 1) := by decide +kernel
theorem d_Pt_turn_14 : decode b_Pt_turn 14 = .ok (.invokevirtual 44, 3) := by decide +kernel
theorem d_Pt_turn_17 : decode b_Pt_turn 17 = .ok (.i2l, 1) := by decide +kernel
theorem d_Pt_turn_18 : decode b_Pt_turn 18 = .ok (.lsub, 1) := by decide +kernel
theorem d_Pt_turn_19 : decode b_Pt_turn 19 = .ok (.lstore 5, 2) := by decide +kernel
theorem d_Pt_turn_21 : decode b_Pt_turn 21 = .ok (.aload_n 0, 1) := by decide +kernel
theorem d_Pt_turn_22 : decode b_Pt_turn 22 = .ok (.getfield 27, 3) := by decide +kernel
theorem d_Pt_turn_25 : decode b_Pt_turn 25 = .ok (.iload_n 2, 1) := by decide +kernel
theorem d_Pt_turn_26 : decode b_Pt_turn 26 = .ok (.invokevirtual 44, 3) := by decide +kernel
theorem d_Pt_turn_29 : decode b_Pt_turn 29 = .ok (.i2l, 1) := by decide +kernel
theorem d_Pt_turn_30 : decode b_Pt_turn 30 = .ok (.aload_n 0, 1) := by decide +kernel
theorem d_Pt_turn_31 : decode b_Pt_turn 31 = .ok (.getfield 27, 3) := by decide +kernel
theorem d_Pt_turn_34 : decode b_Pt_turn 34 = .ok (.iload_n 1, 1) := by decide +kernel
theorem d_Pt_turn_35 : decode b_Pt_turn 35 = .ok (.invokevirtual 44, 3) := by decide +kernel
theorem d_Pt_turn_38 : decode b_Pt_turn 38 = .ok (.i2l, 1) := by decide +kernel
theorem d_Pt_turn_39 : decode b_Pt_turn 39 = .ok (.lsub, 1) := by decide +kernel
theorem d_Pt_turn_40 : decode b_Pt_turn 40 = .ok (.lstore 7, 2) := by decide +kernel
theorem d_Pt_turn_42 : decode b_Pt_turn 42 = .ok (.iload_n 3, 1) := by decide +kernel
theorem d_Pt_turn_43 : decode b_Pt_turn 43 = .ok (.i2l, 1) := by decide +kernel
theorem d_Pt_turn_44 : decode b_Pt_turn 44 = .ok (.aload_n 0, 1) := by decide +kernel
theorem d_Pt_turn_45 : decode b_Pt_turn 45 = .ok (.getfield 23, 3) := by decide +kernel
theorem d_Pt_turn_48 : decode b_Pt_turn 48 = .ok (.iload_n 1, 1) := by decide +kernel
theorem d_Pt_turn_49 : decode b_Pt_turn 49 = .ok (.invokevirtual 44, 3) := by decide +kernel
theorem d_Pt_turn_52 : decode b_Pt_turn 52 = .ok (.i2l, 1) := by decide +kernel
theorem d_Pt_turn_53 : decode b_Pt_turn 53 = .ok (.lsub, 1) := by decide +kernel
theorem d_Pt_turn_54 : decode b_Pt_turn 54 = .ok (.lstore 9, 2) := by decide +kernel
theorem d_Pt_turn_56 : decode b_Pt_turn 56 = .ok (.iload 4, 2) := by decide +kernel
theorem d_Pt_turn_58 : decode b_Pt_turn 58 = .ok (.i2l, 1) := by decide +kernel
theorem d_Pt_turn_59 : decode b_Pt_turn 59 = .ok (.aload_n 0, 1) := by decide +kernel
theorem d_Pt_turn_60 : decode b_Pt_turn 60 = .ok (.getfield 27, 3) := by decide +kernel
theorem d_Pt_turn_63 : decode b_Pt_turn 63 = .ok (.iload_n 1, 1) := by decide +kernel
theorem d_Pt_turn_64 : decode b_Pt_turn 64 = .ok (.invokevirtual 44, 3) := by decide +kernel
theorem d_Pt_turn_67 : decode b_Pt_turn 67 = .ok (.i2l, 1) := by decide +kernel
theorem d_Pt_turn_68 : decode b_Pt_turn 68 = .ok (.lsub, 1) := by decide +kernel
theorem d_Pt_turn_69 : decode b_Pt_turn 69 = .ok (.lstore 11, 2) := by decide +kernel
theorem d_Pt_turn_71 : decode b_Pt_turn 71 = .ok (.lload 5, 2) := by decide +kernel
theorem d_Pt_turn_73 : decode b_Pt_turn 73 = .ok (.lload 11, 2) := by decide +kernel
theorem d_Pt_turn_75 : decode b_Pt_turn 75 = .ok (.lmul, 1) := by decide +kernel
theorem d_Pt_turn_76 : decode b_Pt_turn 76 = .ok (.lload 7, 2) := by decide +kernel
theorem d_Pt_turn_78 : decode b_Pt_turn 78 = .ok (.lload 9, 2) := by decide +kernel
theorem d_Pt_turn_80 : decode b_Pt_turn 80 = .ok (.lmul, 1) := by decide +kernel
theorem d_Pt_turn_81 : decode b_Pt_turn 81 = .ok (.lsub, 1) := by decide +kernel
theorem d_Pt_turn_82 : decode b_Pt_turn 82 = .ok (.lreturn, 1) := by decide +kernel
theorem d_Nt_placeOf_0 : decode b_Nt_placeOf 0 = .ok (.iload_n 1, 1) := by decide +kernel
theorem d_Nt_placeOf_1 : decode b_Nt_placeOf 1 = .ok (.aload_n 0, 1) := by decide +kernel
theorem d_Nt_placeOf_2 : decode b_Nt_placeOf 2 = .ok (.getfield 21, 3) := by decide +kernel
theorem d_Nt_placeOf_5 : decode b_Nt_placeOf 5 = .ok (.if_icmp .ne 7, 3) := by decide +kernel
theorem d_Nt_placeOf_8 : decode b_Nt_placeOf 8 = .ok (.iconst 0, 1) := by decide +kernel
theorem d_Nt_placeOf_9 : decode b_Nt_placeOf 9 = .ok (.goto 6, 3) := by decide +kernel
theorem d_Nt_placeOf_12 : decode b_Nt_placeOf 12 = .ok (.iload_n 1, 1) := by decide +kernel
theorem d_Nt_placeOf_13 : decode b_Nt_placeOf 13 = .ok (.iconst 1, 1) := by decide +kernel
theorem d_Nt_placeOf_14 : decode b_Nt_placeOf 14 = .ok (.iadd, 1) := by decide +kernel
theorem d_Nt_placeOf_15 : decode b_Nt_placeOf 15 = .ok (.ireturn, 1) := by decide +kernel
theorem d_Nt_setTriangle_0 : decode b_Nt_setTriangle 0 = .ok (.iconst 3, 1) := by decide +kernel
theorem d_Nt_setTriangle_1 : decode b_Nt_setTriangle 1 = .ok (.iload_n 1, 1) := by decide +kernel
theorem d_Nt_setTriangle_2 : decode b_Nt_setTriangle 2 = .ok (.imul, 1) := by decide +kernel
theorem d_Nt_setTriangle_3 : decode b_Nt_setTriangle 3 = .ok (.istore 5, 2) := by decide +kernel
theorem d_Nt_setTriangle_5 : decode b_Nt_setTriangle 5 = .ok (.aload_n 0, 1) := by decide +kernel
theorem d_Nt_setTriangle_6 : decode b_Nt_setTriangle 6 = .ok (.getfield 29, 3) := by decide +kernel
theorem d_Nt_setTriangle_9 : decode b_Nt_setTriangle 9 = .ok (.iload 5, 2) := by decide +kernel
theorem d_Nt_setTriangle_11 : decode b_Nt_setTriangle 11 = .ok (.iload_n 2, 1) := by decide +kernel
theorem d_Nt_setTriangle_12 : decode b_Nt_setTriangle 12 = .ok (.invokevirtual 82, 3) := by decide +kernel
theorem d_Nt_setTriangle_15 : decode b_Nt_setTriangle 15 = .ok (.aload_n 0, 1) := by decide +kernel
theorem d_Nt_setTriangle_16 : decode b_Nt_setTriangle 16 = .ok (.getfield 29, 3) := by decide +kernel
theorem d_Nt_setTriangle_19 : decode b_Nt_setTriangle 19 = .ok (.iload 5, 2) := by decide +kernel
theorem d_Nt_setTriangle_21 : decode b_Nt_setTriangle 21 = .ok (.iconst 1, 1) := by decide +kernel
theorem d_Nt_setTriangle_22 : decode b_Nt_setTriangle 22 = .ok (.iadd, 1) := by decide +kernel
theorem d_Nt_setTriangle_23 : decode b_Nt_setTriangle 23 = .ok (.iload_n 3, 1) := by decide +kernel
theorem d_Nt_setTriangle_24 : decode b_Nt_setTriangle 24 = .ok (.invokevirtual 82, 3) := by decide +kernel
theorem d_Nt_setTriangle_27 : decode b_Nt_setTriangle 27 = .ok (.aload_n 0, 1) := by decide +kernel
theorem d_Nt_setTriangle_28 : decode b_Nt_setTriangle 28 = .ok (.getfield 29, 3) := by decide +kernel
theorem d_Nt_setTriangle_31 : decode b_Nt_setTriangle 31 = .ok (.iload 5, 2) := by decide +kernel
theorem d_Nt_setTriangle_33 : decode b_Nt_setTriangle 33 = .ok (.iconst 2, 1) := by decide +kernel
theorem d_Nt_setTriangle_34 : decode b_Nt_setTriangle 34 = .ok (.iadd, 1) := by decide +kernel
theorem d_Nt_setTriangle_35 : decode b_Nt_setTriangle 35 = .ok (.iload 4, 2) := by decide +kernel
theorem d_Nt_setTriangle_37 : decode b_Nt_setTriangle 37 = .ok (.invokevirtual 82, 3) := by decide +kernel
theorem d_Nt_setTriangle_40 : decode b_Nt_setTriangle 40 = .ok (.aload_n 0, 1) := by decide +kernel
theorem d_Nt_setTriangle_41 : decode b_Nt_setTriangle 41 = .ok (.getfield 36, 3) := by decide +kernel
theorem d_Nt_setTriangle_44 : decode b_Nt_setTriangle 44 = .ok (.aload_n 0, 1) := by decide +kernel
theorem d_Nt_setTriangle_45 : decode b_Nt_setTriangle 45 = .ok (.iload_n 2, 1) := by decide +kernel
theorem d_Nt_setTriangle_46 : decode b_Nt_setTriangle 46 = .ok (.invokevirtual 85, 3) := by decide +kernel
theorem d_Nt_setTriangle_49 : decode b_Nt_setTriangle 49 = .ok (.iload 5, 2) := by decide +kernel
theorem d_Nt_setTriangle_51 : decode b_Nt_setTriangle 51 = .ok (.invokevirtual 82, 3) := by decide +kernel
theorem d_Nt_setTriangle_54 : decode b_Nt_setTriangle 54 = .ok (.aload_n 0, 1) := by decide +kernel
theorem d_Nt_setTriangle_55 : decode b_Nt_setTriangle 55 = .ok (.getfield 36, 3) := by decide +kernel
theorem d_Nt_setTriangle_58 : decode b_Nt_setTriangle 58 = .ok (.aload_n 0, 1) := by decide +kernel
theorem d_Nt_setTriangle_59 : decode b_Nt_setTriangle 59 = .ok (.iload 4, 2) := by decide +kernel
theorem d_Nt_setTriangle_61 : decode b_Nt_setTriangle 61 = .ok (.invokevirtual 85, 3) := by decide +kernel
theorem d_Nt_setTriangle_64 : decode b_Nt_setTriangle 64 = .ok (.iload 5, 2) := by decide +kernel
theorem d_Nt_setTriangle_66 : decode b_Nt_setTriangle 66 = .ok (.iconst 2, 1) := by decide +kernel
theorem d_Nt_setTriangle_67 : decode b_Nt_setTriangle 67 = .ok (.iadd, 1) := by decide +kernel
theorem d_Nt_setTriangle_68 : decode b_Nt_setTriangle 68 = .ok (.invokevirtual 82, 3) := by decide +kernel
theorem d_Nt_setTriangle_71 : decode b_Nt_setTriangle 71 = .ok (.return_, 1) := by decide +kernel
theorem d_Nt_join_0 : decode b_Nt_join 0 = .ok (.aload_n 0, 1) := by decide +kernel
theorem d_Nt_join_1 : decode b_Nt_join 1 = .ok (.getfield 33, 3) := by decide +kernel
theorem d_Nt_join_4 : decode b_Nt_join 4 = .ok (.iload_n 1, 1) := by decide +kernel
theorem d_Nt_join_5 : decode b_Nt_join 5 = .ok (.iload_n 2, 1) := by decide +kernel
theorem d_Nt_join_6 : decode b_Nt_join 6 = .ok (.invokevirtual 82, 3) := by decide +kernel
theorem d_Nt_join_9 : decode b_Nt_join 9 = .ok (.aload_n 0, 1) := by decide +kernel
theorem d_Nt_join_10 : decode b_Nt_join 10 = .ok (.getfield 33, 3) := by decide +kernel
theorem d_Nt_join_13 : decode b_Nt_join 13 = .ok (.iload_n 2, 1) := by decide +kernel
theorem d_Nt_join_14 : decode b_Nt_join 14 = .ok (.iload_n 1, 1) := by decide +kernel
theorem d_Nt_join_15 : decode b_Nt_join 15 = .ok (.invokevirtual 82, 3) := by decide +kernel
theorem d_Nt_join_18 : decode b_Nt_join 18 = .ok (.return_, 1) := by decide +kernel
theorem d_Nt_begin_0 : decode b_Nt_begin 0 = .ok (.aload_n 0, 1) := by decide +kernel
theorem d_Nt_begin_1 : decode b_Nt_begin 1 = .ok (.iconst 4, 1) := by decide +kernel
theorem d_Nt_begin_2 : decode b_Nt_begin 2 = .ok (.putfield 51, 3) := by decide +kernel
theorem d_Nt_begin_5 : decode b_Nt_begin 5 = .ok (.aload_n 0, 1) := by decide +kernel
theorem d_Nt_begin_6 : decode b_Nt_begin 6 = .ok (.iconst 3, 1) := by decide +kernel
theorem d_Nt_begin_7 : decode b_Nt_begin 7 = .ok (.putfield 54, 3) := by decide +kernel
theorem d_Nt_begin_10 : decode b_Nt_begin 10 = .ok (.aload_n 0, 1) := by decide +kernel
theorem d_Nt_begin_11 : decode b_Nt_begin 11 = .ok (.iconst 0, 1) := by decide +kernel
theorem d_Nt_begin_12 : decode b_Nt_begin 12 = .ok (.iload_n 1, 1) := by decide +kernel
theorem d_Nt_begin_13 : decode b_Nt_begin 13 = .ok (.iload_n 2, 1) := by decide +kernel
theorem d_Nt_begin_14 : decode b_Nt_begin 14 = .ok (.iload_n 3, 1) := by decide +kernel
theorem d_Nt_begin_15 : decode b_Nt_begin 15 = .ok (.invokevirtual 74, 3) := by decide +kernel
theorem d_Nt_begin_18 : decode b_Nt_begin 18 = .ok (.aload_n 0, 1) := by decide +kernel
theorem d_Nt_begin_19 : decode b_Nt_begin 19 = .ok (.iconst 1, 1) := by decide +kernel
theorem d_Nt_begin_20 : decode b_Nt_begin 20 = .ok (.iload_n 2, 1) := by decide +kernel
theorem d_Nt_begin_21 : decode b_Nt_begin 21 = .ok (.iload_n 1, 1) := by decide +kernel
theorem d_Nt_begin_22 : decode b_Nt_begin 22 = .ok (.aload_n 0, 1) := by decide +kernel
theorem d_Nt_begin_23 : decode b_Nt_begin 23 = .ok (.getfield 21, 3) := by decide +kernel
theorem d_Nt_begin_26 : decode b_Nt_begin 26 = .ok (.invokevirtual 74, 3) := by decide +kernel
theorem d_Nt_begin_29 : decode b_Nt_begin 29 = .ok (.aload_n 0, 1) := by decide +kernel
theorem d_Nt_begin_30 : decode b_Nt_begin 30 = .ok (.iconst 2, 1) := by decide +kernel
theorem d_Nt_begin_31 : decode b_Nt_begin 31 = .ok (.iload_n 3, 1) := by decide +kernel
theorem d_Nt_begin_32 : decode b_Nt_begin 32 = .ok (.iload_n 2, 1) := by decide +kernel
theorem d_Nt_begin_33 : decode b_Nt_begin 33 = .ok (.aload_n 0, 1) := by decide +kernel
theorem d_Nt_begin_34 : decode b_Nt_begin 34 = .ok (.getfield 21, 3) := by decide +kernel
theorem d_Nt_begin_37 : decode b_Nt_begin 37 = .ok (.invokevirtual 74, 3) := by decide +kernel
theorem d_Nt_begin_40 : decode b_Nt_begin 40 = .ok (.aload_n 0, 1) := by decide +kernel
theorem d_Nt_begin_41 : decode b_Nt_begin 41 = .ok (.iconst 3, 1) := by decide +kernel
theorem d_Nt_begin_42 : decode b_Nt_begin 42 = .ok (.iload_n 1, 1) := by decide +kernel
theorem d_Nt_begin_43 : decode b_Nt_begin 43 = .ok (.iload_n 3, 1) := by decide +kernel
theorem d_Nt_begin_44 : decode b_Nt_begin 44 = .ok (.aload_n 0, 1) := by decide +kernel
theorem d_Nt_begin_45 : decode b_Nt_begin 45 = .ok (.getfield 21, 3) := by decide +kernel
theorem d_Nt_begin_48 : decode b_Nt_begin 48 = .ok (.invokevirtual 74, 3) := by decide +kernel
theorem d_Nt_begin_51 : decode b_Nt_begin 51 = .ok (.aload_n 0, 1) := by decide +kernel
theorem d_Nt_begin_52 : decode b_Nt_begin 52 = .ok (.iconst 0, 1) := by decide +kernel
theorem d_Nt_begin_53 : decode b_Nt_begin 53 = .ok (.iconst 3, 1) := by decide +kernel
theorem d_Nt_begin_54 : decode b_Nt_begin 54 = .ok (.invokevirtual 78, 3) := by decide +kernel
theorem d_Nt_begin_57 : decode b_Nt_begin 57 = .ok (.aload_n 0, 1) := by decide +kernel
theorem d_Nt_begin_58 : decode b_Nt_begin 58 = .ok (.iconst 1, 1) := by decide +kernel
theorem d_Nt_begin_59 : decode b_Nt_begin 59 = .ok (.bipush 6, 2) := by decide +kernel
theorem d_Nt_begin_61 : decode b_Nt_begin 61 = .ok (.invokevirtual 78, 3) := by decide +kernel
theorem d_Nt_begin_64 : decode b_Nt_begin 64 = .ok (.aload_n 0, 1) := by decide +kernel
theorem d_Nt_begin_65 : decode b_Nt_begin 65 = .ok (.iconst 2, 1) := by decide +kernel
theorem d_Nt_begin_66 : decode b_Nt_begin 66 = .ok (.bipush 9, 2) := by decide +kernel
theorem d_Nt_begin_68 : decode b_Nt_begin 68 = .ok (.invokevirtual 78, 3) := by decide +kernel
theorem d_Nt_begin_71 : decode b_Nt_begin 71 = .ok (.aload_n 0, 1) := by decide +kernel
theorem d_Nt_begin_72 : decode b_Nt_begin 72 = .ok (.iconst 4, 1) := by decide +kernel
theorem d_Nt_begin_73 : decode b_Nt_begin 73 = .ok (.bipush 11, 2) := by decide +kernel
theorem d_Nt_begin_75 : decode b_Nt_begin 75 = .ok (.invokevirtual 78, 3) := by decide +kernel
theorem d_Nt_begin_78 : decode b_Nt_begin 78 = .ok (.aload_n 0, 1) := by decide +kernel
theorem d_Nt_begin_79 : decode b_Nt_begin 79 = .ok (.bipush 7, 2) := by decide +kernel
theorem d_Nt_begin_81 : decode b_Nt_begin 81 = .ok (.iconst 5, 1) := by decide +kernel
theorem d_Nt_begin_82 : decode b_Nt_begin 82 = .ok (.invokevirtual 78, 3) := by decide +kernel
theorem d_Nt_begin_85 : decode b_Nt_begin 85 = .ok (.aload_n 0, 1) := by decide +kernel
theorem d_Nt_begin_86 : decode b_Nt_begin 86 = .ok (.bipush 10, 2) := by decide +kernel
theorem d_Nt_begin_88 : decode b_Nt_begin 88 = .ok (.bipush 8, 2) := by decide +kernel
theorem d_Nt_begin_90 : decode b_Nt_begin 90 = .ok (.invokevirtual 78, 3) := by decide +kernel
theorem d_Nt_begin_93 : decode b_Nt_begin 93 = .ok (.return_, 1) := by decide +kernel
theorem d_Nt_isOuter_0 : decode b_Nt_isOuter 0 = .ok (.iload_n 1, 1) := by decide +kernel
theorem d_Nt_isOuter_1 : decode b_Nt_isOuter 1 = .ok (.iload_n 1, 1) := by decide +kernel
theorem d_Nt_isOuter_2 : decode b_Nt_isOuter 2 = .ok (.iconst 3, 1) := by decide +kernel
theorem d_Nt_isOuter_3 : decode b_Nt_isOuter 3 = .ok (.irem, 1) := by decide +kernel
theorem d_Nt_isOuter_4 : decode b_Nt_isOuter 4 = .ok (.isub, 1) := by decide +kernel
theorem d_Nt_isOuter_5 : decode b_Nt_isOuter 5 = .ok (.istore_n 2, 1) := by decide +kernel
theorem d_Nt_isOuter_6 : decode b_Nt_isOuter 6 = .ok (.aload_n 0, 1) := by decide +kernel
theorem d_Nt_isOuter_7 : decode b_Nt_isOuter 7 = .ok (.getfield 29, 3) := by decide +kernel
theorem d_Nt_isOuter_10 : decode b_Nt_isOuter 10 = .ok (.iload_n 2, 1) := by decide +kernel
theorem d_Nt_isOuter_11 : decode b_Nt_isOuter 11 = .ok (.invokevirtual 63, 3) := by decide +kernel
theorem d_Nt_isOuter_14 : decode b_Nt_isOuter 14 = .ok (.aload_n 0, 1) := by decide +kernel
theorem d_Nt_isOuter_15 : decode b_Nt_isOuter 15 = .ok (.getfield 21, 3) := by decide +kernel
theorem d_Nt_isOuter_18 : decode b_Nt_isOuter 18 = .ok (.if_icmp .eq 37, 3) := by decide +kernel
theorem d_Nt_isOuter_21 : decode b_Nt_isOuter 21 = .ok (.aload_n 0, 1) := by decide +kernel
theorem d_Nt_isOuter_22 : decode b_Nt_isOuter 22 = .ok (.getfield 29, 3) := by decide +kernel
theorem d_Nt_isOuter_25 : decode b_Nt_isOuter 25 = .ok (.iload_n 2, 1) := by decide +kernel
theorem d_Nt_isOuter_26 : decode b_Nt_isOuter 26 = .ok (.iconst 1, 1) := by decide +kernel
theorem d_Nt_isOuter_27 : decode b_Nt_isOuter 27 = .ok (.iadd, 1) := by decide +kernel
theorem d_Nt_isOuter_28 : decode b_Nt_isOuter 28 = .ok (.invokevirtual 63, 3) := by decide +kernel
theorem d_Nt_isOuter_31 : decode b_Nt_isOuter 31 = .ok (.aload_n 0, 1) := by decide +kernel
theorem d_Nt_isOuter_32 : decode b_Nt_isOuter 32 = .ok (.getfield 21, 3) := by decide +kernel
theorem d_Nt_isOuter_35 : decode b_Nt_isOuter 35 = .ok (.if_icmp .eq 20, 3) := by decide +kernel
theorem d_Nt_isOuter_38 : decode b_Nt_isOuter 38 = .ok (.aload_n 0, 1) := by decide +kernel
theorem d_Nt_isOuter_39 : decode b_Nt_isOuter 39 = .ok (.getfield 29, 3) := by decide +kernel
theorem d_Nt_isOuter_42 : decode b_Nt_isOuter 42 = .ok (.iload_n 2, 1) := by decide +kernel
theorem d_Nt_isOuter_43 : decode b_Nt_isOuter 43 = .ok (.iconst 2, 1) := by decide +kernel
theorem d_Nt_isOuter_44 : decode b_Nt_isOuter 44 = .ok (.iadd, 1) := by decide +kernel
theorem d_Nt_isOuter_45 : decode b_Nt_isOuter 45 = .ok (.invokevirtual 63, 3) := by decide +kernel
theorem d_Nt_isOuter_48 : decode b_Nt_isOuter 48 = .ok (.aload_n 0, 1) := by decide +kernel
theorem d_Nt_isOuter_49 : decode b_Nt_isOuter 49 = .ok (.getfield 21, 3) := by decide +kernel
theorem d_Nt_isOuter_52 : decode b_Nt_isOuter 52 = .ok (.if_icmp .ne 7, 3) := by decide +kernel
theorem d_Nt_isOuter_55 : decode b_Nt_isOuter 55 = .ok (.iconst 1, 1) := by decide +kernel
theorem d_Nt_isOuter_56 : decode b_Nt_isOuter 56 = .ok (.goto 4, 3) := by decide +kernel
theorem d_Nt_isOuter_59 : decode b_Nt_isOuter 59 = .ok (.iconst 0, 1) := by decide +kernel
theorem d_Nt_isOuter_60 : decode b_Nt_isOuter 60 = .ok (.ireturn, 1) := by decide +kernel
theorem d_Nt_ahead_0 : decode b_Nt_ahead 0 = .ok (.iload_n 0, 1) := by decide +kernel
theorem d_Nt_ahead_1 : decode b_Nt_ahead 1 = .ok (.iload_n 0, 1) := by decide +kernel
theorem d_Nt_ahead_2 : decode b_Nt_ahead 2 = .ok (.iconst 3, 1) := by decide +kernel
theorem d_Nt_ahead_3 : decode b_Nt_ahead 3 = .ok (.irem, 1) := by decide +kernel
theorem d_Nt_ahead_4 : decode b_Nt_ahead 4 = .ok (.isub, 1) := by decide +kernel
theorem d_Nt_ahead_5 : decode b_Nt_ahead 5 = .ok (.istore_n 2, 1) := by decide +kernel
theorem d_Nt_ahead_6 : decode b_Nt_ahead 6 = .ok (.iload_n 2, 1) := by decide +kernel
theorem d_Nt_ahead_7 : decode b_Nt_ahead 7 = .ok (.iload_n 0, 1) := by decide +kernel
theorem d_Nt_ahead_8 : decode b_Nt_ahead 8 = .ok (.iload_n 2, 1) := by decide +kernel
theorem d_Nt_ahead_9 : decode b_Nt_ahead 9 = .ok (.isub, 1) := by decide +kernel
theorem d_Nt_ahead_10 : decode b_Nt_ahead 10 = .ok (.iload_n 1, 1) := by decide +kernel
theorem d_Nt_ahead_11 : decode b_Nt_ahead 11 = .ok (.iadd, 1) := by decide +kernel
theorem d_Nt_ahead_12 : decode b_Nt_ahead 12 = .ok (.iconst 3, 1) := by decide +kernel
theorem d_Nt_ahead_13 : decode b_Nt_ahead 13 = .ok (.irem, 1) := by decide +kernel
theorem d_Nt_ahead_14 : decode b_Nt_ahead 14 = .ok (.iadd, 1) := by decide +kernel
theorem d_Nt_ahead_15 : decode b_Nt_ahead 15 = .ok (.ireturn, 1) := by decide +kernel
theorem d_Nt_baseOf_0 : decode b_Nt_baseOf 0 = .ok (.iload_n 1, 1) := by decide +kernel
theorem d_Nt_baseOf_1 : decode b_Nt_baseOf 1 = .ok (.istore_n 2, 1) := by decide +kernel
theorem d_Nt_baseOf_2 : decode b_Nt_baseOf 2 = .ok (.iconst 0, 1) := by decide +kernel
theorem d_Nt_baseOf_3 : decode b_Nt_baseOf 3 = .ok (.istore_n 3, 1) := by decide +kernel
theorem d_Nt_baseOf_4 : decode b_Nt_baseOf 4 = .ok (.iload_n 3, 1) := by decide +kernel
theorem d_Nt_baseOf_5 : decode b_Nt_baseOf 5 = .ok (.iconst 2, 1) := by decide +kernel
theorem d_Nt_baseOf_6 : decode b_Nt_baseOf 6 = .ok (.if_icmp .ge 30, 3) := by decide +kernel
theorem d_Nt_baseOf_9 : decode b_Nt_baseOf 9 = .ok (.aload_n 0, 1) := by decide +kernel
theorem d_Nt_baseOf_10 : decode b_Nt_baseOf 10 = .ok (.getfield 29, 3) := by decide +kernel
theorem d_Nt_baseOf_13 : decode b_Nt_baseOf 13 = .ok (.iload_n 2, 1) := by decide +kernel
theorem d_Nt_baseOf_14 : decode b_Nt_baseOf 14 = .ok (.invokevirtual 63, 3) := by decide +kernel
theorem d_Nt_baseOf_17 : decode b_Nt_baseOf 17 = .ok (.aload_n 0, 1) := by decide +kernel
theorem d_Nt_baseOf_18 : decode b_Nt_baseOf 18 = .ok (.getfield 21, 3) := by decide +kernel
theorem d_Nt_baseOf_21 : decode b_Nt_baseOf 21 = .ok (.if_icmp .eq 15, 3) := by decide +kernel
theorem d_Nt_baseOf_24 : decode b_Nt_baseOf 24 = .ok (.iload_n 2, 1) := by decide +kernel
theorem d_Nt_baseOf_25 : decode b_Nt_baseOf 25 = .ok (.iconst 1, 1) := by decide +kernel
theorem d_Nt_baseOf_26 : decode b_Nt_baseOf 26 = .ok (.invokestatic 67, 3) := by decide +kernel
theorem d_Nt_baseOf_29 : decode b_Nt_baseOf 29 = .ok (.istore_n 2, 1) := by decide +kernel
theorem d_Nt_baseOf_30 : decode b_Nt_baseOf 30 = .ok (.iinc 3 1, 3) := by decide +kernel
theorem d_Nt_baseOf_33 : decode b_Nt_baseOf 33 = .ok (.goto (-29), 3) := by decide +kernel
theorem d_Nt_baseOf_36 : decode b_Nt_baseOf 36 = .ok (.iload_n 2, 1) := by decide +kernel
theorem d_Nt_baseOf_37 : decode b_Nt_baseOf 37 = .ok (.iconst 1, 1) := by decide +kernel
theorem d_Nt_baseOf_38 : decode b_Nt_baseOf 38 = .ok (.invokestatic 67, 3) := by decide +kernel
theorem d_Nt_baseOf_41 : decode b_Nt_baseOf 41 = .ok (.ireturn, 1) := by decide +kernel
theorem d_Nt_startOf_0 : decode b_Nt_startOf 0 = .ok (.aload_n 0, 1) := by decide +kernel
theorem d_Nt_startOf_1 : decode b_Nt_startOf 1 = .ok (.getfield 29, 3) := by decide +kernel
theorem d_Nt_startOf_4 : decode b_Nt_startOf 4 = .ok (.iload_n 1, 1) := by decide +kernel
theorem d_Nt_startOf_5 : decode b_Nt_startOf 5 = .ok (.invokevirtual 63, 3) := by decide +kernel
theorem d_Nt_startOf_8 : decode b_Nt_startOf 8 = .ok (.ireturn, 1) := by decide +kernel
theorem d_Nt_endOf_0 : decode b_Nt_endOf 0 = .ok (.aload_n 0, 1) := by decide +kernel
theorem d_Nt_endOf_1 : decode b_Nt_endOf 1 = .ok (.getfield 29, 3) := by decide +kernel
theorem d_Nt_endOf_4 : decode b_Nt_endOf 4 = .ok (.iload_n 1, 1) := by decide +kernel
theorem d_Nt_endOf_5 : decode b_Nt_endOf 5 = .ok (.iconst 1, 1) := by decide +kernel
theorem d_Nt_endOf_6 : decode b_Nt_endOf 6 = .ok (.invokestatic 67, 3) := by decide +kernel
theorem d_Nt_endOf_9 : decode b_Nt_endOf 9 = .ok (.invokevirtual 63, 3) := by decide +kernel
theorem d_Nt_endOf_12 : decode b_Nt_endOf 12 = .ok (.ireturn, 1) := by decide +kernel
theorem d_Nt_wayOut_0 : decode b_Nt_wayOut 0 = .ok (.iconst 0, 1) := by decide +kernel
theorem d_Nt_wayOut_1 : decode b_Nt_wayOut 1 = .ok (.istore 4, 2) := by decide +kernel
theorem d_Nt_wayOut_3 : decode b_Nt_wayOut 3 = .ok (.iload 4, 2) := by decide +kernel
theorem d_Nt_wayOut_5 : decode b_Nt_wayOut 5 = .ok (.iconst 3, 1) := by decide +kernel
theorem d_Nt_wayOut_6 : decode b_Nt_wayOut 6 = .ok (.if_icmp .ge 46, 3) := by decide +kernel
theorem d_Nt_wayOut_9 : decode b_Nt_wayOut 9 = .ok (.iload_n 1, 1) := by decide +kernel
theorem d_Nt_wayOut_10 : decode b_Nt_wayOut 10 = .ok (.iload 4, 2) := by decide +kernel
theorem d_Nt_wayOut_12 : decode b_Nt_wayOut 12 = .ok (.invokestatic 67, 3) := by decide +kernel
theorem d_Nt_wayOut_15 : decode b_Nt_wayOut 15 = .ok (.istore 5, 2) := by decide +kernel
theorem d_Nt_wayOut_17 : decode b_Nt_wayOut 17 = .ok (.aload_n 0, 1) := by decide +kernel
theorem d_Nt_wayOut_18 : decode b_Nt_wayOut 18 = .ok (.getfield 9, 3) := by decide +kernel
theorem d_Nt_wayOut_21 : decode b_Nt_wayOut 21 = .ok (.aload_n 0, 1) := by decide +kernel
theorem d_Nt_wayOut_22 : decode b_Nt_wayOut 22 = .ok (.iload 5, 2) := by decide +kernel
theorem d_Nt_wayOut_24 : decode b_Nt_wayOut 24 = .ok (.invokevirtual 115, 3) := by decide +kernel
theorem d_Nt_wayOut_27 : decode b_Nt_wayOut 27 = .ok (.aload_n 0, 1) := by decide +kernel
theorem d_Nt_wayOut_28 : decode b_Nt_wayOut 28 = .ok (.iload 5, 2) := by decide +kernel
theorem d_Nt_wayOut_30 : decode b_Nt_wayOut 30 = .ok (.invokevirtual 118, 3) := by decide +kernel
theorem d_Nt_wayOut_33 : decode b_Nt_wayOut 33 = .ok (.iload_n 2, 1) := by decide +kernel
theorem d_Nt_wayOut_34 : decode b_Nt_wayOut 34 = .ok (.iload_n 3, 1) := by decide +kernel
theorem d_Nt_wayOut_35 : decode b_Nt_wayOut 35 = .ok (.invokevirtual 128, 3) := by decide +kernel
theorem d_Nt_wayOut_38 : decode b_Nt_wayOut 38 = .ok (.lconst 0, 1) := by decide +kernel
theorem d_Nt_wayOut_39 : decode b_Nt_wayOut 39 = .ok (.lcmp, 1) := by decide +kernel
theorem d_Nt_wayOut_40 : decode b_Nt_wayOut 40 = .ok (.ifCond .ge 6, 3) := by decide +kernel
theorem d_Nt_wayOut_43 : decode b_Nt_wayOut 43 = .ok (.iload 5, 2) := by decide +kernel
theorem d_Nt_wayOut_45 : decode b_Nt_wayOut 45 = .ok (.ireturn, 1) := by decide +kernel
theorem d_Nt_wayOut_46 : decode b_Nt_wayOut 46 = .ok (.iinc 4 1, 3) := by decide +kernel
theorem d_Nt_wayOut_49 : decode b_Nt_wayOut 49 = .ok (.goto (-46), 3) := by decide +kernel
theorem d_Nt_wayOut_52 : decode b_Nt_wayOut 52 = .ok (.iconst (-1), 1) := by decide +kernel
theorem d_Nt_wayOut_53 : decode b_Nt_wayOut 53 = .ok (.ireturn, 1) := by decide +kernel
theorem d_Nt_holder_0 : decode b_Nt_holder 0 = .ok (.aload_n 0, 1) := by decide +kernel
theorem d_Nt_holder_1 : decode b_Nt_holder 1 = .ok (.getfield 36, 3) := by decide +kernel
theorem d_Nt_holder_4 : decode b_Nt_holder 4 = .ok (.aload_n 0, 1) := by decide +kernel
theorem d_Nt_holder_5 : decode b_Nt_holder 5 = .ok (.iload_n 1, 1) := by decide +kernel
theorem d_Nt_holder_6 : decode b_Nt_holder 6 = .ok (.invokevirtual 85, 3) := by decide +kernel
theorem d_Nt_holder_9 : decode b_Nt_holder 9 = .ok (.invokevirtual 63, 3) := by decide +kernel
theorem d_Nt_holder_12 : decode b_Nt_holder 12 = .ok (.istore 4, 2) := by decide +kernel
theorem d_Nt_holder_14 : decode b_Nt_holder 14 = .ok (.aload_n 0, 1) := by decide +kernel
theorem d_Nt_holder_15 : decode b_Nt_holder 15 = .ok (.iload 4, 2) := by decide +kernel
theorem d_Nt_holder_17 : decode b_Nt_holder 17 = .ok (.invokevirtual 107, 3) := by decide +kernel
theorem d_Nt_holder_20 : decode b_Nt_holder 20 = .ok (.ifCond .eq 18, 3) := by decide +kernel
theorem d_Nt_holder_23 : decode b_Nt_holder 23 = .ok (.aload_n 0, 1) := by decide +kernel
theorem d_Nt_holder_24 : decode b_Nt_holder 24 = .ok (.getfield 33, 3) := by decide +kernel
theorem d_Nt_holder_27 : decode b_Nt_holder 27 = .ok (.aload_n 0, 1) := by decide +kernel
theorem d_Nt_holder_28 : decode b_Nt_holder 28 = .ok (.iload 4, 2) := by decide +kernel
theorem d_Nt_holder_30 : decode b_Nt_holder 30 = .ok (.invokevirtual 125, 3) := by decide +kernel
theorem d_Nt_holder_33 : decode b_Nt_holder 33 = .ok (.invokevirtual 63, 3) := by decide +kernel
theorem d_Nt_holder_36 : decode b_Nt_holder 36 = .ok (.istore 4, 2) := by decide +kernel
theorem d_Nt_holder_38 : decode b_Nt_holder 38 = .ok (.iconst 0, 1) := by decide +kernel
theorem d_Nt_holder_39 : decode b_Nt_holder 39 = .ok (.istore 5, 2) := by decide +kernel
theorem d_Nt_holder_41 : decode b_Nt_holder 41 = .ok (.iload 5, 2) := by decide +kernel
theorem d_Nt_holder_43 : decode b_Nt_holder 43 = .ok (.aload_n 0, 1) := by decide +kernel
theorem d_Nt_holder_44 : decode b_Nt_holder 44 = .ok (.getfield 51, 3) := by decide +kernel
theorem d_Nt_holder_47 : decode b_Nt_holder 47 = .ok (.if_icmp .ge 48, 3) := by decide +kernel
theorem d_Nt_holder_50 : decode b_Nt_holder 50 = .ok (.aload_n 0, 1) := by decide +kernel
theorem d_Nt_holder_51 : decode b_Nt_holder 51 = .ok (.iload 4, 2) := by decide +kernel
theorem d_Nt_holder_53 : decode b_Nt_holder 53 = .ok (.invokevirtual 107, 3) := by decide +kernel
theorem d_Nt_holder_56 : decode b_Nt_holder 56 = .ok (.ifCond .ne 39, 3) := by decide +kernel
theorem d_Nt_holder_59 : decode b_Nt_holder 59 = .ok (.aload_n 0, 1) := by decide +kernel
theorem d_Nt_holder_60 : decode b_Nt_holder 60 = .ok (.iload 4, 2) := by decide +kernel
theorem d_Nt_holder_62 : decode b_Nt_holder 62 = .ok (.iload_n 2, 1) := by decide +kernel
theorem d_Nt_holder_63 : decode b_Nt_holder 63 = .ok (.iload_n 3, 1) := by decide +kernel
theorem d_Nt_holder_64 : decode b_Nt_holder 64 = .ok (.invokevirtual 135, 3) := by decide +kernel
theorem d_Nt_holder_67 : decode b_Nt_holder 67 = .ok (.istore 6, 2) := by decide +kernel
theorem d_Nt_holder_69 : decode b_Nt_holder 69 = .ok (.iload 6, 2) := by decide +kernel
theorem d_Nt_holder_71 : decode b_Nt_holder 71 = .ok (.iconst (-1), 1) := by decide +kernel
theorem d_Nt_holder_72 : decode b_Nt_holder 72 = .ok (.if_icmp .ne 6, 3) := by decide +kernel
theorem d_Nt_holder_75 : decode b_Nt_holder 75 = .ok (.iload 4, 2) := by decide +kernel
theorem d_Nt_holder_77 : decode b_Nt_holder 77 = .ok (.ireturn, 1) := by decide +kernel
theorem d_Nt_holder_78 : decode b_Nt_holder 78 = .ok (.aload_n 0, 1) := by decide +kernel
theorem d_Nt_holder_79 : decode b_Nt_holder 79 = .ok (.getfield 33, 3) := by decide +kernel
theorem d_Nt_holder_82 : decode b_Nt_holder 82 = .ok (.iload 6, 2) := by decide +kernel
theorem d_Nt_holder_84 : decode b_Nt_holder 84 = .ok (.invokevirtual 63, 3) := by decide +kernel
theorem d_Nt_holder_87 : decode b_Nt_holder 87 = .ok (.istore 4, 2) := by decide +kernel
theorem d_Nt_holder_89 : decode b_Nt_holder 89 = .ok (.iinc 5 1, 3) := by decide +kernel
theorem d_Nt_holder_92 : decode b_Nt_holder 92 = .ok (.goto (-51), 3) := by decide +kernel
theorem d_Nt_holder_95 : decode b_Nt_holder 95 = .ok (.iload 4, 2) := by decide +kernel
theorem d_Nt_holder_97 : decode b_Nt_holder 97 = .ok (.ireturn, 1) := by decide +kernel
theorem d_Nt_takeAway_0 : decode b_Nt_takeAway 0 = .ok (.aload_n 0, 1) := by decide +kernel
theorem d_Nt_takeAway_1 : decode b_Nt_takeAway 1 = .ok (.getfield 39, 3) := by decide +kernel
theorem d_Nt_takeAway_4 : decode b_Nt_takeAway 4 = .ok (.iload_n 1, 1) := by decide +kernel
theorem d_Nt_takeAway_5 : decode b_Nt_takeAway 5 = .ok (.aload_n 0, 1) := by decide +kernel
theorem d_Nt_takeAway_6 : decode b_Nt_takeAway 6 = .ok (.getfield 48, 3) := by decide +kernel
theorem d_Nt_takeAway_9 : decode b_Nt_takeAway 9 = .ok (.invokevirtual 82, 3) := by decide +kernel
theorem d_Nt_takeAway_12 : decode b_Nt_takeAway 12 = .ok (.aload_n 0, 1) := by decide +kernel
theorem d_Nt_takeAway_13 : decode b_Nt_takeAway 13 = .ok (.getfield 42, 3) := by decide +kernel
theorem d_Nt_takeAway_16 : decode b_Nt_takeAway 16 = .ok (.aload_n 0, 1) := by decide +kernel
theorem d_Nt_takeAway_17 : decode b_Nt_takeAway 17 = .ok (.getfield 57, 3) := by decide +kernel
theorem d_Nt_takeAway_20 : decode b_Nt_takeAway 20 = .ok (.iload_n 1, 1) := by decide +kernel
theorem d_Nt_takeAway_21 : decode b_Nt_takeAway 21 = .ok (.invokevirtual 82, 3) := by decide +kernel
theorem d_Nt_takeAway_24 : decode b_Nt_takeAway 24 = .ok (.aload_n 0, 1) := by decide +kernel
theorem d_Nt_takeAway_25 : decode b_Nt_takeAway 25 = .ok (.dup, 1) := by decide +kernel
theorem d_Nt_takeAway_26 : decode b_Nt_takeAway 26 = .ok (.getfield 57, 3) := by decide +kernel
theorem d_Nt_takeAway_29 : decode b_Nt_takeAway 29 = .ok (.iconst 1, 1) := by decide +kernel
theorem d_Nt_takeAway_30 : decode b_Nt_takeAway 30 = .ok (.iadd, 1) := by decide +kernel
theorem d_Nt_takeAway_31 : decode b_Nt_takeAway 31 = .ok (.putfield 57, 3) := by decide +kernel
theorem d_Nt_takeAway_34 : decode b_Nt_takeAway 34 = .ok (.aload_n 0, 1) := by decide +kernel
theorem d_Nt_takeAway_35 : decode b_Nt_takeAway 35 = .ok (.iconst 3, 1) := by decide +kernel
theorem d_Nt_takeAway_36 : decode b_Nt_takeAway 36 = .ok (.iload_n 1, 1) := by decide +kernel
theorem d_Nt_takeAway_37 : decode b_Nt_takeAway 37 = .ok (.imul, 1) := by decide +kernel
theorem d_Nt_takeAway_38 : decode b_Nt_takeAway 38 = .ok (.invokevirtual 107, 3) := by decide +kernel
theorem d_Nt_takeAway_41 : decode b_Nt_takeAway 41 = .ok (.ifCond .eq 13, 3) := by decide +kernel
theorem d_Nt_takeAway_44 : decode b_Nt_takeAway 44 = .ok (.aload_n 0, 1) := by decide +kernel
theorem d_Nt_takeAway_45 : decode b_Nt_takeAway 45 = .ok (.dup, 1) := by decide +kernel
theorem d_Nt_takeAway_46 : decode b_Nt_takeAway 46 = .ok (.getfield 54, 3) := by decide +kernel
theorem d_Nt_takeAway_49 : decode b_Nt_takeAway 49 = .ok (.iconst 1, 1) := by decide +kernel
theorem d_Nt_takeAway_50 : decode b_Nt_takeAway 50 = .ok (.isub, 1) := by decide +kernel
theorem d_Nt_takeAway_51 : decode b_Nt_takeAway 51 = .ok (.putfield 54, 3) := by decide +kernel
theorem d_Nt_takeAway_54 : decode b_Nt_takeAway 54 = .ok (.return_, 1) := by decide +kernel
theorem d_Pt_isLess_0 : decode b_Pt_isLess 0 = .ok (.aload_n 0, 1) := by decide +kernel
theorem d_Pt_isLess_1 : decode b_Pt_isLess 1 = .ok (.getfield 23, 3) := by decide +kernel
theorem d_Pt_isLess_4 : decode b_Pt_isLess 4 = .ok (.iload_n 1, 1) := by decide +kernel
theorem d_Pt_isLess_5 : decode b_Pt_isLess 5 = .ok (.invokevirtual 44, 3) := by decide +kernel
theorem d_Pt_isLess_8 : decode b_Pt_isLess 8 = .ok (.aload_n 0, 1) := by decide +kernel
theorem d_Pt_isLess_9 : decode b_Pt_isLess 9 = .ok (.getfield 23, 3) := by decide +kernel
theorem d_Pt_isLess_12 : decode b_Pt_isLess 12 = .ok (.iload_n 2, 1) := by decide +kernel
theorem d_Pt_isLess_13 : decode b_Pt_isLess 13 = .ok (.invokevirtual 44, 3) := by decide +kernel
theorem d_Pt_isLess_16 : decode b_Pt_isLess 16 = .ok (.if_icmp .lt 41, 3) := by decide +kernel
theorem d_Pt_isLess_19 : decode b_Pt_isLess 19 = .ok (.aload_n 0, 1) := by decide +kernel
theorem d_Pt_isLess_20 : decode b_Pt_isLess 20 = .ok (.getfield 23, 3) := by decide +kernel
theorem d_Pt_isLess_23 : decode b_Pt_isLess 23 = .ok (.iload_n 1, 1) := by decide +kernel
theorem d_Pt_isLess_24 : decode b_Pt_isLess 24 = .ok (.invokevirtual 44, 3) := by decide +kernel
theorem d_Pt_isLess_27 : decode b_Pt_isLess 27 = .ok (.aload_n 0, 1) := by decide +kernel
theorem d_Pt_isLess_28 : decode b_Pt_isLess 28 = .ok (.getfield 23, 3) := by decide +kernel
theorem d_Pt_isLess_31 : decode b_Pt_isLess 31 = .ok (.iload_n 2, 1) := by decide +kernel
theorem d_Pt_isLess_32 : decode b_Pt_isLess 32 = .ok (.invokevirtual 44, 3) := by decide +kernel
theorem d_Pt_isLess_35 : decode b_Pt_isLess 35 = .ok (.if_icmp .ne 26, 3) := by decide +kernel
theorem d_Pt_isLess_38 : decode b_Pt_isLess 38 = .ok (.aload_n 0, 1) := by decide +kernel
theorem d_Pt_isLess_39 : decode b_Pt_isLess 39 = .ok (.getfield 27, 3) := by decide +kernel
theorem d_Pt_isLess_42 : decode b_Pt_isLess 42 = .ok (.iload_n 1, 1) := by decide +kernel
theorem d_Pt_isLess_43 : decode b_Pt_isLess 43 = .ok (.invokevirtual 44, 3) := by decide +kernel
theorem d_Pt_isLess_46 : decode b_Pt_isLess 46 = .ok (.aload_n 0, 1) := by decide +kernel
theorem d_Pt_isLess_47 : decode b_Pt_isLess 47 = .ok (.getfield 27, 3) := by decide +kernel
theorem d_Pt_isLess_50 : decode b_Pt_isLess 50 = .ok (.iload_n 2, 1) := by decide +kernel
theorem d_Pt_isLess_51 : decode b_Pt_isLess 51 = .ok (.invokevirtual 44, 3) := by decide +kernel
theorem d_Pt_isLess_54 : decode b_Pt_isLess 54 = .ok (.if_icmp .ge 7, 3) := by decide +kernel
theorem d_Pt_isLess_57 : decode b_Pt_isLess 57 = .ok (.iconst 1, 1) := by decide +kernel
theorem d_Pt_isLess_58 : decode b_Pt_isLess 58 = .ok (.goto 4, 3) := by decide +kernel
theorem d_Pt_isLess_61 : decode b_Pt_isLess 61 = .ok (.iconst 0, 1) := by decide +kernel
theorem d_Pt_isLess_62 : decode b_Pt_isLess 62 = .ok (.ireturn, 1) := by decide +kernel
theorem d_Nt_isSeen_0 : decode b_Nt_isSeen 0 = .ok (.aload_n 0, 1) := by decide +kernel
theorem d_Nt_isSeen_1 : decode b_Nt_isSeen 1 = .ok (.iload_n 1, 1) := by decide +kernel
theorem d_Nt_isSeen_2 : decode b_Nt_isSeen 2 = .ok (.invokevirtual 125, 3) := by decide +kernel
theorem d_Nt_isSeen_5 : decode b_Nt_isSeen 5 = .ok (.istore_n 3, 1) := by decide +kernel
theorem d_Nt_isSeen_6 : decode b_Nt_isSeen 6 = .ok (.aload_n 0, 1) := by decide +kernel
theorem d_Nt_isSeen_7 : decode b_Nt_isSeen 7 = .ok (.iload_n 3, 1) := by decide +kernel
theorem d_Nt_isSeen_8 : decode b_Nt_isSeen 8 = .ok (.invokevirtual 115, 3) := by decide +kernel
theorem d_Nt_isSeen_11 : decode b_Nt_isSeen 11 = .ok (.istore 4, 2) := by decide +kernel
theorem d_Nt_isSeen_13 : decode b_Nt_isSeen 13 = .ok (.aload_n 0, 1) := by decide +kernel
theorem d_Nt_isSeen_14 : decode b_Nt_isSeen 14 = .ok (.iload_n 3, 1) := by decide +kernel
theorem d_Nt_isSeen_15 : decode b_Nt_isSeen 15 = .ok (.invokevirtual 118, 3) := by decide +kernel
theorem d_Nt_isSeen_18 : decode b_Nt_isSeen 18 = .ok (.istore 5, 2) := by decide +kernel
theorem d_Nt_isSeen_20 : decode b_Nt_isSeen 20 = .ok (.aload_n 0, 1) := by decide +kernel
theorem d_Nt_isSeen_21 : decode b_Nt_isSeen 21 = .ok (.getfield 9, 3) := by decide +kernel
theorem d_Nt_isSeen_24 : decode b_Nt_isSeen 24 = .ok (.iload 4, 2) := by decide +kernel
theorem d_Nt_isSeen_26 : decode b_Nt_isSeen 26 = .ok (.iload 5, 2) := by decide +kernel
theorem d_Nt_isSeen_28 : decode b_Nt_isSeen 28 = .ok (.aload_n 0, 1) := by decide +kernel
theorem d_Nt_isSeen_29 : decode b_Nt_isSeen 29 = .ok (.getfield 9, 3) := by decide +kernel
theorem d_Nt_isSeen_32 : decode b_Nt_isSeen 32 = .ok (.iload_n 2, 1) := by decide +kernel
theorem d_Nt_isSeen_33 : decode b_Nt_isSeen 33 = .ok (.invokevirtual 88, 3) := by decide +kernel
theorem d_Nt_isSeen_36 : decode b_Nt_isSeen 36 = .ok (.aload_n 0, 1) := by decide +kernel
theorem d_Nt_isSeen_37 : decode b_Nt_isSeen 37 = .ok (.getfield 9, 3) := by decide +kernel
theorem d_Nt_isSeen_40 : decode b_Nt_isSeen 40 = .ok (.iload_n 2, 1) := by decide +kernel
theorem d_Nt_isSeen_41 : decode b_Nt_isSeen 41 = .ok (.invokevirtual 91, 3) := by decide +kernel
theorem d_Nt_isSeen_44 : decode b_Nt_isSeen 44 = .ok (.invokevirtual 128, 3) := by decide +kernel
theorem d_Nt_isSeen_47 : decode b_Nt_isSeen 47 = .ok (.lstore 6, 2) := by decide +kernel
theorem d_Nt_isSeen_49 : decode b_Nt_isSeen 49 = .ok (.lload 6, 2) := by decide +kernel
theorem d_Nt_isSeen_51 : decode b_Nt_isSeen 51 = .ok (.lconst 0, 1) := by decide +kernel
theorem d_Nt_isSeen_52 : decode b_Nt_isSeen 52 = .ok (.lcmp, 1) := by decide +kernel
theorem d_Nt_isSeen_53 : decode b_Nt_isSeen 53 = .ok (.ifCond .gt 33, 3) := by decide +kernel
theorem d_Nt_isSeen_56 : decode b_Nt_isSeen 56 = .ok (.lload 6, 2) := by decide +kernel
theorem d_Nt_isSeen_58 : decode b_Nt_isSeen 58 = .ok (.lconst 0, 1) := by decide +kernel
theorem d_Nt_isSeen_59 : decode b_Nt_isSeen 59 = .ok (.lcmp, 1) := by decide +kernel
theorem d_Nt_isSeen_60 : decode b_Nt_isSeen 60 = .ok (.ifCond .ne 30, 3) := by decide +kernel
theorem d_Nt_isSeen_63 : decode b_Nt_isSeen 63 = .ok (.aload_n 0, 1) := by decide +kernel
theorem d_Nt_isSeen_64 : decode b_Nt_isSeen 64 = .ok (.getfield 9, 3) := by decide +kernel
theorem d_Nt_isSeen_67 : decode b_Nt_isSeen 67 = .ok (.iload 4, 2) := by decide +kernel
theorem d_Nt_isSeen_69 : decode b_Nt_isSeen 69 = .ok (.iload_n 2, 1) := by decide +kernel
theorem d_Nt_isSeen_70 : decode b_Nt_isSeen 70 = .ok (.invokevirtual 132, 3) := by decide +kernel
theorem d_Nt_isSeen_73 : decode b_Nt_isSeen 73 = .ok (.aload_n 0, 1) := by decide +kernel
theorem d_Nt_isSeen_74 : decode b_Nt_isSeen 74 = .ok (.getfield 9, 3) := by decide +kernel
theorem d_Nt_isSeen_77 : decode b_Nt_isSeen 77 = .ok (.iload_n 2, 1) := by decide +kernel
theorem d_Nt_isSeen_78 : decode b_Nt_isSeen 78 = .ok (.iload 5, 2) := by decide +kernel
theorem d_Nt_isSeen_80 : decode b_Nt_isSeen 80 = .ok (.invokevirtual 132, 3) := by decide +kernel
theorem d_Nt_isSeen_83 : decode b_Nt_isSeen 83 = .ok (.if_icmp .ne 7, 3) := by decide +kernel
theorem d_Nt_isSeen_86 : decode b_Nt_isSeen 86 = .ok (.iconst 1, 1) := by decide +kernel
theorem d_Nt_isSeen_87 : decode b_Nt_isSeen 87 = .ok (.goto 4, 3) := by decide +kernel
theorem d_Nt_isSeen_90 : decode b_Nt_isSeen 90 = .ok (.iconst 0, 1) := by decide +kernel
theorem d_Nt_isSeen_91 : decode b_Nt_isSeen 91 = .ok (.ireturn, 1) := by decide +kernel
theorem d_Wd_reset_0 : decode b_Wd_reset 0 = .ok (.aload_n 0, 1) := by decide +kernel
theorem d_Wd_reset_1 : decode b_Wd_reset 1 = .ok (.lconst 0, 1) := by decide +kernel
theorem d_Wd_reset_2 : decode b_Wd_reset 2 = .ok (.putfield 7, 3) := by decide +kernel
theorem d_Wd_reset_5 : decode b_Wd_reset 5 = .ok (.aload_n 0, 1) := by decide +kernel
theorem d_Wd_reset_6 : decode b_Wd_reset 6 = .ok (.lconst 0, 1) := by decide +kernel
theorem d_Wd_reset_7 : decode b_Wd_reset 7 = .ok (.putfield 13, 3) := by decide +kernel
theorem d_Wd_reset_10 : decode b_Wd_reset 10 = .ok (.return_, 1) := by decide +kernel
theorem d_Pt_dot_0 : decode b_Pt_dot 0 = .ok (.aload_n 0, 1) := by decide +kernel
theorem d_Pt_dot_1 : decode b_Pt_dot 1 = .ok (.getfield 23, 3) := by decide +kernel
theorem d_Pt_dot_4 : decode b_Pt_dot 4 = .ok (.iload_n 2, 1) := by decide +kernel
theorem d_Pt_dot_5 : decode b_Pt_dot 5 = .ok (.invokevirtual 44, 3) := by decide +kernel
theorem d_Pt_dot_8 : decode b_Pt_dot 8 = .ok (.i2l, 1) := by decide +kernel
theorem d_Pt_dot_9 : decode b_Pt_dot 9 = .ok (.aload_n 0, 1) := by decide +kernel
theorem d_Pt_dot_10 : decode b_Pt_dot 10 = .ok (.getfield 23, 3) := by decide +kernel
theorem d_Pt_dot_13 : decode b_Pt_dot 13 = .ok (.iload_n 1, 1) := by decide +kernel
theorem d_Pt_dot_14 : decode b_Pt_dot 14 = .ok (.invokevirtual 44, 3) := by decide +kernel
theorem d_Pt_dot_17 : decode b_Pt_dot 17 = .ok (.i2l, 1) := by decide +kernel
theorem d_Pt_dot_18 : decode b_Pt_dot 18 = .ok (.lsub, 1) := by decide +kernel
theorem d_Pt_dot_19 : decode b_Pt_dot 19 = .ok (.lstore 4, 2) := by decide +kernel
theorem d_Pt_dot_21 : decode b_Pt_dot 21 = .ok (.aload_n 0, 1) := by decide +kernel
theorem d_Pt_dot_22 : decode b_Pt_dot 22 = .ok (.getfield 27, 3) := by decide +kernel
theorem d_Pt_dot_25 : decode b_Pt_dot 25 = .ok (.iload_n 2, 1) := by decide +kernel
theorem d_Pt_dot_26 : decode b_Pt_dot 26 = .ok (.invokevirtual 44, 3) := by decide +kernel
theorem d_Pt_dot_29 : decode b_Pt_dot 29 = .ok (.i2l, 1) := by decide +kernel
theorem d_Pt_dot_30 : decode b_Pt_dot 30 = .ok (.aload_n 0, 1) := by decide +kernel
theorem d_Pt_dot_31 : decode b_Pt_dot 31 = .ok (.getfield 27, 3) := by decide +kernel
theorem d_Pt_dot_34 : decode b_Pt_dot 34 = .ok (.iload_n 1, 1) := by decide +kernel
theorem d_Pt_dot_35 : decode b_Pt_dot 35 = .ok (.invokevirtual 44, 3) := by decide +kernel
theorem d_Pt_dot_38 : decode b_Pt_dot 38 = .ok (.i2l, 1) := by decide +kernel
theorem d_Pt_dot_39 : decode b_Pt_dot 39 = .ok (.lsub, 1) := by decide +kernel
theorem d_Pt_dot_40 : decode b_Pt_dot 40 = .ok (.lstore 6, 2) := by decide +kernel
theorem d_Pt_dot_42 : decode b_Pt_dot 42 = .ok (.aload_n 0, 1) := by decide +kernel
theorem d_Pt_dot_43 : decode b_Pt_dot 43 = .ok (.getfield 23, 3) := by decide +kernel
theorem d_Pt_dot_46 : decode b_Pt_dot 46 = .ok (.iload_n 3, 1) := by decide +kernel
theorem d_Pt_dot_47 : decode b_Pt_dot 47 = .ok (.invokevirtual 44, 3) := by decide +kernel
theorem d_Pt_dot_50 : decode b_Pt_dot 50 = .ok (.i2l, 1) := by decide +kernel
theorem d_Pt_dot_51 : decode b_Pt_dot 51 = .ok (.aload_n 0, 1) := by decide +kernel
theorem d_Pt_dot_52 : decode b_Pt_dot 52 = .ok (.getfield 23, 3) := by decide +kernel
theorem d_Pt_dot_55 : decode b_Pt_dot 55 = .ok (.iload_n 1, 1) := by decide +kernel
theorem d_Pt_dot_56 : decode b_Pt_dot 56 = .ok (.invokevirtual 44, 3) := by decide +kernel
theorem d_Pt_dot_59 : decode b_Pt_dot 59 = .ok (.i2l, 1) := by decide +kernel
theorem d_Pt_dot_60 : decode b_Pt_dot 60 = .ok (.lsub, 1) := by decide +kernel
theorem d_Pt_dot_61 : decode b_Pt_dot 61 = .ok (.lstore 8, 2) := by decide +kernel
theorem d_Pt_dot_63 : decode b_Pt_dot 63 = .ok (.aload_n 0, 1) := by decide +kernel
theorem d_Pt_dot_64 : decode b_Pt_dot 64 = .ok (.getfield 27, 3) := by decide +kernel
theorem d_Pt_dot_67 : decode b_Pt_dot 67 = .ok (.iload_n 3, 1) := by decide +kernel
theorem d_Pt_dot_68 : decode b_Pt_dot 68 = .ok (.invokevirtual 44, 3) := by decide +kernel
theorem d_Pt_dot_71 : decode b_Pt_dot 71 = .ok (.i2l, 1) := by decide +kernel
theorem d_Pt_dot_72 : decode b_Pt_dot 72 = .ok (.aload_n 0, 1) := by decide +kernel
theorem d_Pt_dot_73 : decode b_Pt_dot 73 = .ok (.getfield 27, 3) := by decide +kernel
theorem d_Pt_dot_76 : decode b_Pt_dot 76 = .ok (.iload_n 1, 1) := by decide +kernel
theorem d_Pt_dot_77 : decode b_Pt_dot 77 = .ok (.invokevirtual 44, 3) := by decide +kernel
theorem d_Pt_dot_80 : decode b_Pt_dot 80 = .ok (.i2l, 1) := by decide +kernel
theorem d_Pt_dot_81 : decode b_Pt_dot 81 = .ok (.lsub, 1) := by decide +kernel
theorem d_Pt_dot_82 : decode b_Pt_dot 82 = .ok (.lstore 10, 2) := by decide +kernel
theorem d_Pt_dot_84 : decode b_Pt_dot 84 = .ok (.lload 4, 2) := by decide +kernel
theorem d_Pt_dot_86 : decode b_Pt_dot 86 = .ok (.lload 8, 2) := by decide +kernel
theorem d_Pt_dot_88 : decode b_Pt_dot 88 = .ok (.lmul, 1) := by decide +kernel
theorem d_Pt_dot_89 : decode b_Pt_dot 89 = .ok (.lload 6, 2) := by decide +kernel
theorem d_Pt_dot_91 : decode b_Pt_dot 91 = .ok (.lload 10, 2) := by decide +kernel
theorem d_Pt_dot_93 : decode b_Pt_dot 93 = .ok (.lmul, 1) := by decide +kernel
theorem d_Pt_dot_94 : decode b_Pt_dot 94 = .ok (.ladd, 1) := by decide +kernel
theorem d_Pt_dot_95 : decode b_Pt_dot 95 = .ok (.lreturn, 1) := by decide +kernel
theorem d_Wd_addProduct_0 : decode b_Wd_addProduct 0 = .ok (.lload_n 1, 1) := by decide +kernel
theorem d_Wd_addProduct_1 : decode b_Wd_addProduct 1 = .ok (.bipush 32, 2) := by decide +kernel
theorem d_Wd_addProduct_3 : decode b_Wd_addProduct 3 = .ok (.lshr, 1) := by decide +kernel
theorem d_Wd_addProduct_4 : decode b_Wd_addProduct 4 = .ok (.lstore 5, 2) := by decide +kernel
theorem d_Wd_addProduct_6 : decode b_Wd_addProduct 6 = .ok (.lload_n 1, 1) := by decide +kernel
theorem d_Wd_addProduct_7 : decode b_Wd_addProduct 7 = .ok (.ldc2_w 16, 3) := by decide +kernel
theorem d_Wd_addProduct_10 : decode b_Wd_addProduct 10 = .ok (.land, 1) := by decide +kernel
theorem d_Wd_addProduct_11 : decode b_Wd_addProduct 11 = .ok (.lstore 7, 2) := by decide +kernel
theorem d_Wd_addProduct_13 : decode b_Wd_addProduct 13 = .ok (.lload_n 3, 1) := by decide +kernel
theorem d_Wd_addProduct_14 : decode b_Wd_addProduct 14 = .ok (.bipush 32, 2) := by decide +kernel
theorem d_Wd_addProduct_16 : decode b_Wd_addProduct 16 = .ok (.lshr, 1) := by decide +kernel
theorem d_Wd_addProduct_17 : decode b_Wd_addProduct 17 = .ok (.lstore 9, 2) := by decide +kernel
theorem d_Wd_addProduct_19 : decode b_Wd_addProduct 19 = .ok (.lload_n 3, 1) := by decide +kernel
theorem d_Wd_addProduct_20 : decode b_Wd_addProduct 20 = .ok (.ldc2_w 16, 3) := by decide +kernel
theorem d_Wd_addProduct_23 : decode b_Wd_addProduct 23 = .ok (.land, 1) := by decide +kernel
theorem d_Wd_addProduct_24 : decode b_Wd_addProduct 24 = .ok (.lstore 11, 2) := by decide +kernel
theorem d_Wd_addProduct_26 : decode b_Wd_addProduct 26 = .ok (.lload 5, 2) := by decide +kernel
theorem d_Wd_addProduct_28 : decode b_Wd_addProduct 28 = .ok (.lload 11, 2) := by decide +kernel
theorem d_Wd_addProduct_30 : decode b_Wd_addProduct 30 = .ok (.lmul, 1) := by decide +kernel
theorem d_Wd_addProduct_31 : decode b_Wd_addProduct 31 = .ok (.lload 7, 2) := by decide +kernel
theorem d_Wd_addProduct_33 : decode b_Wd_addProduct 33 = .ok (.lload 11, 2) := by decide +kernel
theorem d_Wd_addProduct_35 : decode b_Wd_addProduct 35 = .ok (.lmul, 1) := by decide +kernel
theorem d_Wd_addProduct_36 : decode b_Wd_addProduct 36 = .ok (.bipush 32, 2) := by decide +kernel
theorem d_Wd_addProduct_38 : decode b_Wd_addProduct 38 = .ok (.lushr, 1) := by decide +kernel
theorem d_Wd_addProduct_39 : decode b_Wd_addProduct 39 = .ok (.ladd, 1) := by decide +kernel
theorem d_Wd_addProduct_40 : decode b_Wd_addProduct 40 = .ok (.lstore 13, 2) := by decide +kernel
theorem d_Wd_addProduct_42 : decode b_Wd_addProduct 42 = .ok (.lload 7, 2) := by decide +kernel
theorem d_Wd_addProduct_44 : decode b_Wd_addProduct 44 = .ok (.lload 9, 2) := by decide +kernel
theorem d_Wd_addProduct_46 : decode b_Wd_addProduct 46 = .ok (.lmul, 1) := by decide +kernel
theorem d_Wd_addProduct_47 : decode b_Wd_addProduct 47 = .ok (.lload 13, 2) := by decide +kernel
theorem d_Wd_addProduct_49 : decode b_Wd_addProduct 49 = .ok (.ldc2_w 16, 3) := by decide +kernel
theorem d_Wd_addProduct_52 : decode b_Wd_addProduct 52 = .ok (.land, 1) := by decide +kernel
theorem d_Wd_addProduct_53 : decode b_Wd_addProduct 53 = .ok (.ladd, 1) := by decide +kernel
theorem d_Wd_addProduct_54 : decode b_Wd_addProduct 54 = .ok (.lstore 15, 2) := by decide +kernel
theorem d_Wd_addProduct_56 : decode b_Wd_addProduct 56 = .ok (.lload 5, 2) := by decide +kernel
theorem d_Wd_addProduct_58 : decode b_Wd_addProduct 58 = .ok (.lload 9, 2) := by decide +kernel
theorem d_Wd_addProduct_60 : decode b_Wd_addProduct 60 = .ok (.lmul, 1) := by decide +kernel
theorem d_Wd_addProduct_61 : decode b_Wd_addProduct 61 = .ok (.lload 13, 2) := by decide +kernel
theorem d_Wd_addProduct_63 : decode b_Wd_addProduct 63 = .ok (.bipush 32, 2) := by decide +kernel
theorem d_Wd_addProduct_65 : decode b_Wd_addProduct 65 = .ok (.lshr, 1) := by decide +kernel
theorem d_Wd_addProduct_66 : decode b_Wd_addProduct 66 = .ok (.ladd, 1) := by decide +kernel
theorem d_Wd_addProduct_67 : decode b_Wd_addProduct 67 = .ok (.lload 15, 2) := by decide +kernel
theorem d_Wd_addProduct_69 : decode b_Wd_addProduct 69 = .ok (.bipush 32, 2) := by decide +kernel
theorem d_Wd_addProduct_71 : decode b_Wd_addProduct 71 = .ok (.lshr, 1) := by decide +kernel
theorem d_Wd_addProduct_72 : decode b_Wd_addProduct 72 = .ok (.ladd, 1) := by decide +kernel
theorem d_Wd_addProduct_73 : decode b_Wd_addProduct 73 = .ok (.lstore 17, 2) := by decide +kernel
theorem d_Wd_addProduct_75 : decode b_Wd_addProduct 75 = .ok (.lload_n 1, 1) := by decide +kernel
theorem d_Wd_addProduct_76 : decode b_Wd_addProduct 76 = .ok (.lload_n 3, 1) := by decide +kernel
theorem d_Wd_addProduct_77 : decode b_Wd_addProduct 77 = .ok (.lmul, 1) := by decide +kernel
theorem d_Wd_addProduct_78 : decode b_Wd_addProduct 78 = .ok (.lstore 19, 2) := by decide +kernel
theorem d_Wd_addProduct_80 : decode b_Wd_addProduct 80 = .ok (.aload_n 0, 1) := by decide +kernel
theorem d_Wd_addProduct_81 : decode b_Wd_addProduct 81 = .ok (.getfield 13, 3) := by decide +kernel
theorem d_Wd_addProduct_84 : decode b_Wd_addProduct 84 = .ok (.lload 19, 2) := by decide +kernel
theorem d_Wd_addProduct_86 : decode b_Wd_addProduct 86 = .ok (.ladd, 1) := by decide +kernel
theorem d_Wd_addProduct_87 : decode b_Wd_addProduct 87 = .ok (.lstore 21, 2) := by decide +kernel
theorem d_Wd_addProduct_89 : decode b_Wd_addProduct 89 = .ok (.aload_n 0, 1) := by decide +kernel
theorem d_Wd_addProduct_90 : decode b_Wd_addProduct 90 = .ok (.getfield 13, 3) := by decide +kernel
theorem d_Wd_addProduct_93 : decode b_Wd_addProduct 93 = .ok (.lload 19, 2) := by decide +kernel
theorem d_Wd_addProduct_95 : decode b_Wd_addProduct 95 = .ok (.land, 1) := by decide +kernel
theorem d_Wd_addProduct_96 : decode b_Wd_addProduct 96 = .ok (.aload_n 0, 1) := by decide +kernel
theorem d_Wd_addProduct_97 : decode b_Wd_addProduct 97 = .ok (.getfield 13, 3) := by decide +kernel
theorem d_Wd_addProduct_100 : decode b_Wd_addProduct 100 = .ok (.lload 19, 2) := by decide +kernel
theorem d_Wd_addProduct_102 : decode b_Wd_addProduct 102 = .ok (.lor, 1) := by decide +kernel
theorem d_Wd_addProduct_103 : decode b_Wd_addProduct 103 = .ok (.lload 21, 2) := by decide +kernel
theorem d_Wd_addProduct_105 : decode b_Wd_addProduct 105 = .ok (.ldc2_w 18, 3) := by decide +kernel
theorem d_Wd_addProduct_108 : decode b_Wd_addProduct 108 = .ok (.lxor, 1) := by decide +kernel
theorem d_Wd_addProduct_109 : decode b_Wd_addProduct 109 = .ok (.land, 1) := by decide +kernel
theorem d_Wd_addProduct_110 : decode b_Wd_addProduct 110 = .ok (.lor, 1) := by decide +kernel
theorem d_Wd_addProduct_111 : decode b_Wd_addProduct 111 = .ok (.bipush 63, 2) := by decide +kernel
theorem d_Wd_addProduct_113 : decode b_Wd_addProduct 113 = .ok (.lushr, 1) := by decide +kernel
theorem d_Wd_addProduct_114 : decode b_Wd_addProduct 114 = .ok (.lstore 23, 2) := by decide +kernel
theorem d_Wd_addProduct_116 : decode b_Wd_addProduct 116 = .ok (.aload_n 0, 1) := by decide +kernel
theorem d_Wd_addProduct_117 : decode b_Wd_addProduct 117 = .ok (.lload 21, 2) := by decide +kernel
theorem d_Wd_addProduct_119 : decode b_Wd_addProduct 119 = .ok (.putfield 13, 3) := by decide +kernel
theorem d_Wd_addProduct_122 : decode b_Wd_addProduct 122 = .ok (.aload_n 0, 1) := by decide +kernel
theorem d_Wd_addProduct_123 : decode b_Wd_addProduct 123 = .ok (.aload_n 0, 1) := by decide +kernel
theorem d_Wd_addProduct_124 : decode b_Wd_addProduct 124 = .ok (.getfield 7, 3) := by decide +kernel
theorem d_Wd_addProduct_127 : decode b_Wd_addProduct 127 = .ok (.lload 17, 2) := by decide +kernel
theorem d_Wd_addProduct_129 : decode b_Wd_addProduct 129 = .ok (.ladd, 1) := by decide +kernel
theorem d_Wd_addProduct_130 : decode b_Wd_addProduct 130 = .ok (.lload 23, 2) := by decide +kernel
theorem d_Wd_addProduct_132 : decode b_Wd_addProduct 132 = .ok (.ladd, 1) := by decide +kernel
theorem d_Wd_addProduct_133 : decode b_Wd_addProduct 133 = .ok (.putfield 7, 3) := by decide +kernel
theorem d_Wd_addProduct_136 : decode b_Wd_addProduct 136 = .ok (.return_, 1) := by decide +kernel
theorem d_Wd_sign_0 : decode b_Wd_sign 0 = .ok (.aload_n 0, 1) := by decide +kernel
theorem d_Wd_sign_1 : decode b_Wd_sign 1 = .ok (.getfield 7, 3) := by decide +kernel
theorem d_Wd_sign_4 : decode b_Wd_sign 4 = .ok (.lconst 0, 1) := by decide +kernel
theorem d_Wd_sign_5 : decode b_Wd_sign 5 = .ok (.lcmp, 1) := by decide +kernel
theorem d_Wd_sign_6 : decode b_Wd_sign 6 = .ok (.ifCond .ge 5, 3) := by decide +kernel
theorem d_Wd_sign_9 : decode b_Wd_sign 9 = .ok (.iconst (-1), 1) := by decide +kernel
theorem d_Wd_sign_10 : decode b_Wd_sign 10 = .ok (.ireturn, 1) := by decide +kernel
theorem d_Wd_sign_11 : decode b_Wd_sign 11 = .ok (.aload_n 0, 1) := by decide +kernel
theorem d_Wd_sign_12 : decode b_Wd_sign 12 = .ok (.getfield 7, 3) := by decide +kernel
theorem d_Wd_sign_15 : decode b_Wd_sign 15 = .ok (.lconst 0, 1) := by decide +kernel
theorem d_Wd_sign_16 : decode b_Wd_sign 16 = .ok (.lcmp, 1) := by decide +kernel
theorem d_Wd_sign_17 : decode b_Wd_sign 17 = .ok (.ifCond .ne 16, 3) := by decide +kernel
theorem d_Wd_sign_20 : decode b_Wd_sign 20 = .ok (.aload_n 0, 1) := by decide +kernel
theorem d_Wd_sign_21 : decode b_Wd_sign 21 = .ok (.getfield 13, 3) := by decide +kernel
theorem d_Wd_sign_24 : decode b_Wd_sign 24 = .ok (.lconst 0, 1) := by decide +kernel
theorem d_Wd_sign_25 : decode b_Wd_sign 25 = .ok (.lcmp, 1) := by decide +kernel
theorem d_Wd_sign_26 : decode b_Wd_sign 26 = .ok (.ifCond .ne 7, 3) := by decide +kernel
theorem d_Wd_sign_29 : decode b_Wd_sign 29 = .ok (.iconst 0, 1) := by decide +kernel
theorem d_Wd_sign_30 : decode b_Wd_sign 30 = .ok (.goto 4, 3) := by decide +kernel
theorem d_Wd_sign_33 : decode b_Wd_sign 33 = .ok (.iconst 1, 1) := by decide +kernel
theorem d_Wd_sign_34 : decode b_Wd_sign 34 = .ok (.ireturn, 1) := by decide +kernel
theorem d_Pt_takesAway_0 : decode b_Pt_takesAway 0 = .ok (.aload_n 0, 1) := by decide +kernel
theorem d_Pt_takesAway_1 : decode b_Pt_takesAway 1 = .ok (.getfield 33, 3) := by decide +kernel
theorem d_Pt_takesAway_4 : decode b_Pt_takesAway 4 = .ok (.invokevirtual 63, 3) := by decide +kernel
theorem d_Pt_takesAway_7 : decode b_Pt_takesAway 7 = .ok (.aload_n 0, 1) := by decide +kernel
theorem d_Pt_takesAway_8 : decode b_Pt_takesAway 8 = .ok (.getfield 33, 3) := by decide +kernel
theorem d_Pt_takesAway_11 : decode b_Pt_takesAway 11 = .ok (.aload_n 0, 1) := by decide +kernel
theorem d_Pt_takesAway_12 : decode b_Pt_takesAway 12 = .ok (.iload 4, 2) := by decide +kernel
theorem d_Pt_takesAway_14 : decode b_Pt_takesAway 14 = .ok (.iload_n 2, 1) := by decide +kernel
theorem d_Pt_takesAway_15 : decode b_Pt_takesAway 15 = .ok (.aload_n 0, 1) := by decide +kernel
theorem d_Pt_takesAway_16 : decode b_Pt_takesAway 16 = .ok (.getfield 23, 3) := by decide +kernel
theorem d_Pt_takesAway_19 : decode b_Pt_takesAway 19 = .ok (.iload_n 3, 1) := by decide +kernel
theorem d_Pt_takesAway_20 : decode b_Pt_takesAway 20 = .ok (.invokevirtual 44, 3) := by decide +kernel
theorem d_Pt_takesAway_23 : decode b_Pt_takesAway 23 = .ok (.aload_n 0, 1) := by decide +kernel
theorem d_Pt_takesAway_24 : decode b_Pt_takesAway 24 = .ok (.getfield 27, 3) := by decide +kernel
theorem d_Pt_takesAway_27 : decode b_Pt_takesAway 27 = .ok (.iload_n 3, 1) := by decide +kernel
theorem d_Pt_takesAway_28 : decode b_Pt_takesAway 28 = .ok (.invokevirtual 44, 3) := by decide +kernel
theorem d_Pt_takesAway_31 : decode b_Pt_takesAway 31 = .ok (.invokevirtual 66, 3) := by decide +kernel
theorem d_Pt_takesAway_34 : decode b_Pt_takesAway 34 = .ok (.aload_n 0, 1) := by decide +kernel
theorem d_Pt_takesAway_35 : decode b_Pt_takesAway 35 = .ok (.iload_n 1, 1) := by decide +kernel
theorem d_Pt_takesAway_36 : decode b_Pt_takesAway 36 = .ok (.iload_n 2, 1) := by decide +kernel
theorem d_Pt_takesAway_37 : decode b_Pt_takesAway 37 = .ok (.iload_n 3, 1) := by decide +kernel
theorem d_Pt_takesAway_38 : decode b_Pt_takesAway 38 = .ok (.invokevirtual 70, 3) := by decide +kernel
theorem d_Pt_takesAway_41 : decode b_Pt_takesAway 41 = .ok (.invokevirtual 73, 3) := by decide +kernel
theorem d_Pt_takesAway_44 : decode b_Pt_takesAway 44 = .ok (.aload_n 0, 1) := by decide +kernel
theorem d_Pt_takesAway_45 : decode b_Pt_takesAway 45 = .ok (.getfield 33, 3) := by decide +kernel
theorem d_Pt_takesAway_48 : decode b_Pt_takesAway 48 = .ok (.aload_n 0, 1) := by decide +kernel
theorem d_Pt_takesAway_49 : decode b_Pt_takesAway 49 = .ok (.iload_n 1, 1) := by decide +kernel
theorem d_Pt_takesAway_50 : decode b_Pt_takesAway 50 = .ok (.iload_n 3, 1) := by decide +kernel
theorem d_Pt_takesAway_51 : decode b_Pt_takesAway 51 = .ok (.aload_n 0, 1) := by decide +kernel
theorem d_Pt_takesAway_52 : decode b_Pt_takesAway 52 = .ok (.getfield 23, 3) := by decide +kernel
theorem d_Pt_takesAway_55 : decode b_Pt_takesAway 55 = .ok (.iload_n 2, 1) := by decide +kernel
theorem d_Pt_takesAway_56 : decode b_Pt_takesAway 56 = .ok (.invokevirtual 44, 3) := by decide +kernel
theorem d_Pt_takesAway_59 : decode b_Pt_takesAway 59 = .ok (.aload_n 0, 1) := by decide +kernel
theorem d_Pt_takesAway_60 : decode b_Pt_takesAway 60 = .ok (.getfield 27, 3) := by decide +kernel
theorem d_Pt_takesAway_63 : decode b_Pt_takesAway 63 = .ok (.iload_n 2, 1) := by decide +kernel
theorem d_Pt_takesAway_64 : decode b_Pt_takesAway 64 = .ok (.invokevirtual 44, 3) := by decide +kernel
theorem d_Pt_takesAway_67 : decode b_Pt_takesAway 67 = .ok (.invokevirtual 66, 3) := by decide +kernel
theorem d_Pt_takesAway_70 : decode b_Pt_takesAway 70 = .ok (.aload_n 0, 1) := by decide +kernel
theorem d_Pt_takesAway_71 : decode b_Pt_takesAway 71 = .ok (.iload 4, 2) := by decide +kernel
theorem d_Pt_takesAway_73 : decode b_Pt_takesAway 73 = .ok (.iload_n 2, 1) := by decide +kernel
theorem d_Pt_takesAway_74 : decode b_Pt_takesAway 74 = .ok (.iload_n 3, 1) := by decide +kernel
theorem d_Pt_takesAway_75 : decode b_Pt_takesAway 75 = .ok (.invokevirtual 70, 3) := by decide +kernel
theorem d_Pt_takesAway_78 : decode b_Pt_takesAway 78 = .ok (.invokevirtual 73, 3) := by decide +kernel
theorem d_Pt_takesAway_81 : decode b_Pt_takesAway 81 = .ok (.aload_n 0, 1) := by decide +kernel
theorem d_Pt_takesAway_82 : decode b_Pt_takesAway 82 = .ok (.getfield 33, 3) := by decide +kernel
theorem d_Pt_takesAway_85 : decode b_Pt_takesAway 85 = .ok (.invokevirtual 77, 3) := by decide +kernel
theorem d_Pt_takesAway_88 : decode b_Pt_takesAway 88 = .ok (.istore 5, 2) := by decide +kernel
theorem d_Pt_takesAway_90 : decode b_Pt_takesAway 90 = .ok (.iload 5, 2) := by decide +kernel
theorem d_Pt_takesAway_92 : decode b_Pt_takesAway 92 = .ok (.ifCond .eq 14, 3) := by decide +kernel
theorem d_Pt_takesAway_95 : decode b_Pt_takesAway 95 = .ok (.iload 5, 2) := by decide +kernel
theorem d_Pt_takesAway_97 : decode b_Pt_takesAway 97 = .ok (.ifCond .ge 7, 3) := by decide +kernel
theorem d_Pt_takesAway_100 : decode b_Pt_takesAway 100 = .ok (.iconst 1, 1) := by decide +kernel
theorem d_Pt_takesAway_101 : decode b_Pt_takesAway 101 = .ok (.goto 4, 3) := by decide +kernel
theorem d_Pt_takesAway_104 : decode b_Pt_takesAway 104 = .ok (.iconst 0, 1) := by decide +kernel
theorem d_Pt_takesAway_105 : decode b_Pt_takesAway 105 = .ok (.ireturn, 1) := by decide +kernel
theorem d_Pt_takesAway_106 : decode b_Pt_takesAway 106 = .ok (.aload_n 0, 1) := by decide +kernel
theorem d_Pt_takesAway_107 : decode b_Pt_takesAway 107 = .ok (.iload_n 1, 1) := by decide +kernel
theorem d_Pt_takesAway_108 : decode b_Pt_takesAway 108 = .ok (.iload_n 2, 1) := by decide +kernel
theorem d_Pt_takesAway_109 : decode b_Pt_takesAway 109 = .ok (.invokevirtual 56, 3) := by decide +kernel
theorem d_Pt_takesAway_112 : decode b_Pt_takesAway 112 = .ok (.ifCond .eq 24, 3) := by decide +kernel
theorem d_Pt_takesAway_115 : decode b_Pt_takesAway 115 = .ok (.aload_n 0, 1) := by decide +kernel
theorem d_Pt_takesAway_116 : decode b_Pt_takesAway 116 = .ok (.iload_n 1, 1) := by decide +kernel
theorem d_Pt_takesAway_117 : decode b_Pt_takesAway 117 = .ok (.iload_n 3, 1) := by decide +kernel
theorem d_Pt_takesAway_118 : decode b_Pt_takesAway 118 = .ok (.invokevirtual 56, 3) := by decide +kernel
theorem d_Pt_takesAway_121 : decode b_Pt_takesAway 121 = .ok (.ifCond .eq 15, 3) := by decide +kernel
theorem d_Pt_takesAway_124 : decode b_Pt_takesAway 124 = .ok (.aload_n 0, 1) := by decide +kernel
theorem d_Pt_takesAway_125 : decode b_Pt_takesAway 125 = .ok (.iload_n 1, 1) := by decide +kernel
theorem d_Pt_takesAway_126 : decode b_Pt_takesAway 126 = .ok (.iload 4, 2) := by decide +kernel
theorem d_Pt_takesAway_128 : decode b_Pt_takesAway 128 = .ok (.invokevirtual 56, 3) := by decide +kernel
theorem d_Pt_takesAway_131 : decode b_Pt_takesAway 131 = .ok (.ifCond .eq 5, 3) := by decide +kernel
theorem d_Pt_takesAway_134 : decode b_Pt_takesAway 134 = .ok (.iconst 1, 1) := by decide +kernel
theorem d_Pt_takesAway_135 : decode b_Pt_takesAway 135 = .ok (.ireturn, 1) := by decide +kernel
theorem d_Pt_takesAway_136 : decode b_Pt_takesAway 136 = .ok (.aload_n 0, 1) := by decide +kernel
theorem d_Pt_takesAway_137 : decode b_Pt_takesAway 137 = .ok (.iload_n 2, 1) := by decide +kernel
theorem d_Pt_takesAway_138 : decode b_Pt_takesAway 138 = .ok (.iload_n 3, 1) := by decide +kernel
theorem d_Pt_takesAway_139 : decode b_Pt_takesAway 139 = .ok (.invokevirtual 56, 3) := by decide +kernel
theorem d_Pt_takesAway_142 : decode b_Pt_takesAway 142 = .ok (.ifCond .eq 47, 3) := by decide +kernel
theorem d_Pt_takesAway_145 : decode b_Pt_takesAway 145 = .ok (.aload_n 0, 1) := by decide +kernel
theorem d_Pt_takesAway_146 : decode b_Pt_takesAway 146 = .ok (.iload_n 2, 1) := by decide +kernel
theorem d_Pt_takesAway_147 : decode b_Pt_takesAway 147 = .ok (.iload 4, 2) := by decide +kernel
theorem d_Pt_takesAway_149 : decode b_Pt_takesAway 149 = .ok (.invokevirtual 56, 3) := by decide +kernel
theorem d_Pt_takesAway_152 : decode b_Pt_takesAway 152 = .ok (.ifCond .eq 37, 3) := by decide +kernel
theorem d_Pt_takesAway_155 : decode b_Pt_takesAway 155 = .ok (.aload_n 0, 1) := by decide +kernel
theorem d_Pt_takesAway_156 : decode b_Pt_takesAway 156 = .ok (.iload_n 3, 1) := by decide +kernel
theorem d_Pt_takesAway_157 : decode b_Pt_takesAway 157 = .ok (.iload 4, 2) := by decide +kernel
theorem d_Pt_takesAway_159 : decode b_Pt_takesAway 159 = .ok (.aload_n 0, 1) := by decide +kernel
theorem d_Pt_takesAway_160 : decode b_Pt_takesAway 160 = .ok (.getfield 23, 3) := by decide +kernel
theorem d_Pt_takesAway_163 : decode b_Pt_takesAway 163 = .ok (.iload_n 1, 1) := by decide +kernel
theorem d_Pt_takesAway_164 : decode b_Pt_takesAway 164 = .ok (.invokevirtual 44, 3) := by decide +kernel
theorem d_Pt_takesAway_167 : decode b_Pt_takesAway 167 = .ok (.aload_n 0, 1) := by decide +kernel
theorem d_Pt_takesAway_168 : decode b_Pt_takesAway 168 = .ok (.getfield 27, 3) := by decide +kernel
theorem d_Pt_takesAway_171 : decode b_Pt_takesAway 171 = .ok (.iload_n 1, 1) := by decide +kernel
theorem d_Pt_takesAway_172 : decode b_Pt_takesAway 172 = .ok (.invokevirtual 44, 3) := by decide +kernel
theorem d_Pt_takesAway_175 : decode b_Pt_takesAway 175 = .ok (.invokevirtual 66, 3) := by decide +kernel
theorem d_Pt_takesAway_178 : decode b_Pt_takesAway 178 = .ok (.lconst 0, 1) := by decide +kernel
theorem d_Pt_takesAway_179 : decode b_Pt_takesAway 179 = .ok (.lcmp, 1) := by decide +kernel
theorem d_Pt_takesAway_180 : decode b_Pt_takesAway 180 = .ok (.ifCond .ge 7, 3) := by decide +kernel
theorem d_Pt_takesAway_183 : decode b_Pt_takesAway 183 = .ok (.iconst 1, 1) := by decide +kernel
theorem d_Pt_takesAway_184 : decode b_Pt_takesAway 184 = .ok (.goto 4, 3) := by decide +kernel
theorem d_Pt_takesAway_187 : decode b_Pt_takesAway 187 = .ok (.iconst 0, 1) := by decide +kernel
theorem d_Pt_takesAway_188 : decode b_Pt_takesAway 188 = .ok (.ireturn, 1) := by decide +kernel
theorem d_Pt_takesAway_189 : decode b_Pt_takesAway 189 = .ok (.aload_n 0, 1) := by decide +kernel
theorem d_Pt_takesAway_190 : decode b_Pt_takesAway 190 = .ok (.iload_n 3, 1) := by decide +kernel
theorem d_Pt_takesAway_191 : decode b_Pt_takesAway 191 = .ok (.iload 4, 2) := by decide +kernel
theorem d_Pt_takesAway_193 : decode b_Pt_takesAway 193 = .ok (.invokevirtual 56, 3) := by decide +kernel
theorem d_Pt_takesAway_196 : decode b_Pt_takesAway 196 = .ok (.ifCond .eq 39, 3) := by decide +kernel
theorem d_Pt_takesAway_199 : decode b_Pt_takesAway 199 = .ok (.aload_n 0, 1) := by decide +kernel
theorem d_Pt_takesAway_200 : decode b_Pt_takesAway 200 = .ok (.iload 4, 2) := by decide +kernel
theorem d_Pt_takesAway_202 : decode b_Pt_takesAway 202 = .ok (.iload_n 2, 1) := by decide +kernel
theorem d_Pt_takesAway_203 : decode b_Pt_takesAway 203 = .ok (.aload_n 0, 1) := by decide +kernel
theorem d_Pt_takesAway_204 : decode b_Pt_takesAway 204 = .ok (.getfield 23, 3) := by decide +kernel
theorem d_Pt_takesAway_207 : decode b_Pt_takesAway 207 = .ok (.iload_n 1, 1) := by decide +kernel
theorem d_Pt_takesAway_208 : decode b_Pt_takesAway 208 = .ok (.invokevirtual 44, 3) := by decide +kernel
theorem d_Pt_takesAway_211 : decode b_Pt_takesAway 211 = .ok (.aload_n 0, 1) := by decide +kernel
theorem d_Pt_takesAway_212 : decode b_Pt_takesAway 212 = .ok (.getfield 27, 3) := by decide +kernel
theorem d_Pt_takesAway_215 : decode b_Pt_takesAway 215 = .ok (.iload_n 1, 1) := by decide +kernel
theorem d_Pt_takesAway_216 : decode b_Pt_takesAway 216 = .ok (.invokevirtual 44, 3) := by decide +kernel
theorem d_Pt_takesAway_219 : decode b_Pt_takesAway 219 = .ok (.invokevirtual 66, 3) := by decide +kernel
theorem d_Pt_takesAway_222 : decode b_Pt_takesAway 222 = .ok (.lconst 0, 1) := by decide +kernel
theorem d_Pt_takesAway_223 : decode b_Pt_takesAway 223 = .ok (.lcmp, 1) := by decide +kernel
theorem d_Pt_takesAway_224 : decode b_Pt_takesAway 224 = .ok (.ifCond .ge 7, 3) := by decide +kernel
theorem d_Pt_takesAway_227 : decode b_Pt_takesAway 227 = .ok (.iconst 1, 1) := by decide +kernel
theorem d_Pt_takesAway_228 : decode b_Pt_takesAway 228 = .ok (.goto 39, 3) := by decide +kernel
theorem d_Pt_takesAway_231 : decode b_Pt_takesAway 231 = .ok (.iconst 0, 1) := by decide +kernel
theorem d_Pt_takesAway_232 : decode b_Pt_takesAway 232 = .ok (.goto 35, 3) := by decide +kernel
theorem d_Pt_takesAway_235 : decode b_Pt_takesAway 235 = .ok (.aload_n 0, 1) := by decide +kernel
theorem d_Pt_takesAway_236 : decode b_Pt_takesAway 236 = .ok (.iload_n 2, 1) := by decide +kernel
theorem d_Pt_takesAway_237 : decode b_Pt_takesAway 237 = .ok (.iload_n 3, 1) := by decide +kernel
theorem d_Pt_takesAway_238 : decode b_Pt_takesAway 238 = .ok (.aload_n 0, 1) := by decide +kernel
theorem d_Pt_takesAway_239 : decode b_Pt_takesAway 239 = .ok (.getfield 23, 3) := by decide +kernel
theorem d_Pt_takesAway_242 : decode b_Pt_takesAway 242 = .ok (.iload_n 1, 1) := by decide +kernel
theorem d_Pt_takesAway_243 : decode b_Pt_takesAway 243 = .ok (.invokevirtual 44, 3) := by decide +kernel
theorem d_Pt_takesAway_246 : decode b_Pt_takesAway 246 = .ok (.aload_n 0, 1) := by decide +kernel
theorem d_Pt_takesAway_247 : decode b_Pt_takesAway 247 = .ok (.getfield 27, 3) := by decide +kernel
theorem d_Pt_takesAway_250 : decode b_Pt_takesAway 250 = .ok (.iload_n 1, 1) := by decide +kernel
theorem d_Pt_takesAway_251 : decode b_Pt_takesAway 251 = .ok (.invokevirtual 44, 3) := by decide +kernel
theorem d_Pt_takesAway_254 : decode b_Pt_takesAway 254 = .ok (.invokevirtual 66, 3) := by decide +kernel
theorem d_Pt_takesAway_257 : decode b_Pt_takesAway 257 = .ok (.lconst 0, 1) := by decide +kernel
theorem d_Pt_takesAway_258 : decode b_Pt_takesAway 258 = .ok (.lcmp, 1) := by decide +kernel
theorem d_Pt_takesAway_259 : decode b_Pt_takesAway 259 = .ok (.ifCond .ge 7, 3) := by decide +kernel
theorem d_Pt_takesAway_262 : decode b_Pt_takesAway 262 = .ok (.iconst 1, 1) := by decide +kernel
theorem d_Pt_takesAway_263 : decode b_Pt_takesAway 263 = .ok (.goto 4, 3) := by decide +kernel
theorem d_Pt_takesAway_266 : decode b_Pt_takesAway 266 = .ok (.iconst 0, 1) := by decide +kernel
theorem d_Pt_takesAway_267 : decode b_Pt_takesAway 267 = .ok (.ireturn, 1) := by decide +kernel
theorem d_Nt_dig_0 : decode b_Nt_dig 0 = .ok (.aload_n 0, 1) := by decide +kernel
theorem d_Nt_dig_1 : decode b_Nt_dig 1 = .ok (.dup, 1) := by decide +kernel
theorem d_Nt_dig_2 : decode b_Nt_dig 2 = .ok (.getfield 48, 3) := by decide +kernel
theorem d_Nt_dig_5 : decode b_Nt_dig 5 = .ok (.iconst 1, 1) := by decide +kernel
theorem d_Nt_dig_6 : decode b_Nt_dig 6 = .ok (.iadd, 1) := by decide +kernel
theorem d_Nt_dig_7 : decode b_Nt_dig 7 = .ok (.putfield 48, 3) := by decide +kernel
theorem d_Nt_dig_10 : decode b_Nt_dig 10 = .ok (.aload_n 0, 1) := by decide +kernel
theorem d_Nt_dig_11 : decode b_Nt_dig 11 = .ok (.iconst 0, 1) := by decide +kernel
theorem d_Nt_dig_12 : decode b_Nt_dig 12 = .ok (.putfield 57, 3) := by decide +kernel
theorem d_Nt_dig_15 : decode b_Nt_dig 15 = .ok (.aload_n 0, 1) := by decide +kernel
theorem d_Nt_dig_16 : decode b_Nt_dig 16 = .ok (.iconst 0, 1) := by decide +kernel
theorem d_Nt_dig_17 : decode b_Nt_dig 17 = .ok (.putfield 60, 3) := by decide +kernel
theorem d_Nt_dig_20 : decode b_Nt_dig 20 = .ok (.aload_n 0, 1) := by decide +kernel
theorem d_Nt_dig_21 : decode b_Nt_dig 21 = .ok (.iload_n 1, 1) := by decide +kernel
theorem d_Nt_dig_22 : decode b_Nt_dig 22 = .ok (.invokevirtual 104, 3) := by decide +kernel
theorem d_Nt_dig_25 : decode b_Nt_dig 25 = .ok (.iconst 0, 1) := by decide +kernel
theorem d_Nt_dig_26 : decode b_Nt_dig 26 = .ok (.istore_n 3, 1) := by decide +kernel
theorem d_Nt_dig_27 : decode b_Nt_dig 27 = .ok (.iload_n 3, 1) := by decide +kernel
theorem d_Nt_dig_28 : decode b_Nt_dig 28 = .ok (.aload_n 0, 1) := by decide +kernel
theorem d_Nt_dig_29 : decode b_Nt_dig 29 = .ok (.getfield 51, 3) := by decide +kernel
theorem d_Nt_dig_32 : decode b_Nt_dig 32 = .ok (.if_icmp .ge 169, 3) := by decide +kernel
theorem d_Nt_dig_35 : decode b_Nt_dig 35 = .ok (.iload_n 3, 1) := by decide +kernel
theorem d_Nt_dig_36 : decode b_Nt_dig 36 = .ok (.aload_n 0, 1) := by decide +kernel
theorem d_Nt_dig_37 : decode b_Nt_dig 37 = .ok (.getfield 57, 3) := by decide +kernel
theorem d_Nt_dig_40 : decode b_Nt_dig 40 = .ok (.if_icmp .ge 161, 3) := by decide +kernel
theorem d_Nt_dig_43 : decode b_Nt_dig 43 = .ok (.iconst 0, 1) := by decide +kernel
theorem d_Nt_dig_44 : decode b_Nt_dig 44 = .ok (.istore 4, 2) := by decide +kernel
theorem d_Nt_dig_46 : decode b_Nt_dig 46 = .ok (.iload 4, 2) := by decide +kernel
theorem d_Nt_dig_48 : decode b_Nt_dig 48 = .ok (.iconst 3, 1) := by decide +kernel
theorem d_Nt_dig_49 : decode b_Nt_dig 49 = .ok (.if_icmp .ge 146, 3) := by decide +kernel
theorem d_Nt_dig_52 : decode b_Nt_dig 52 = .ok (.aload_n 0, 1) := by decide +kernel
theorem d_Nt_dig_53 : decode b_Nt_dig 53 = .ok (.getfield 33, 3) := by decide +kernel
theorem d_Nt_dig_56 : decode b_Nt_dig 56 = .ok (.iconst 3, 1) := by decide +kernel
theorem d_Nt_dig_57 : decode b_Nt_dig 57 = .ok (.aload_n 0, 1) := by decide +kernel
theorem d_Nt_dig_58 : decode b_Nt_dig 58 = .ok (.getfield 42, 3) := by decide +kernel
theorem d_Nt_dig_61 : decode b_Nt_dig 61 = .ok (.iload_n 3, 1) := by decide +kernel
theorem d_Nt_dig_62 : decode b_Nt_dig 62 = .ok (.invokevirtual 63, 3) := by decide +kernel
theorem d_Nt_dig_65 : decode b_Nt_dig 65 = .ok (.imul, 1) := by decide +kernel
theorem d_Nt_dig_66 : decode b_Nt_dig 66 = .ok (.iload 4, 2) := by decide +kernel
theorem d_Nt_dig_68 : decode b_Nt_dig 68 = .ok (.iadd, 1) := by decide +kernel
theorem d_Nt_dig_69 : decode b_Nt_dig 69 = .ok (.invokevirtual 63, 3) := by decide +kernel
theorem d_Nt_dig_72 : decode b_Nt_dig 72 = .ok (.istore 5, 2) := by decide +kernel
theorem d_Nt_dig_74 : decode b_Nt_dig 74 = .ok (.aload_n 0, 1) := by decide +kernel
theorem d_Nt_dig_75 : decode b_Nt_dig 75 = .ok (.getfield 39, 3) := by decide +kernel
theorem d_Nt_dig_78 : decode b_Nt_dig 78 = .ok (.iload 5, 2) := by decide +kernel
theorem d_Nt_dig_80 : decode b_Nt_dig 80 = .ok (.iconst 3, 1) := by decide +kernel
theorem d_Nt_dig_81 : decode b_Nt_dig 81 = .ok (.idiv, 1) := by decide +kernel
theorem d_Nt_dig_82 : decode b_Nt_dig 82 = .ok (.invokevirtual 63, 3) := by decide +kernel
theorem d_Nt_dig_85 : decode b_Nt_dig 85 = .ok (.aload_n 0, 1) := by decide +kernel
theorem d_Nt_dig_86 : decode b_Nt_dig 86 = .ok (.getfield 48, 3) := by decide +kernel
theorem d_Nt_dig_89 : decode b_Nt_dig 89 = .ok (.if_icmp .ne 6, 3) := by decide +kernel
theorem d_Nt_dig_92 : decode b_Nt_dig 92 = .ok (.goto 97, 3) := by decide +kernel
theorem d_Nt_dig_95 : decode b_Nt_dig 95 = .ok (.iload 5, 2) := by decide +kernel
theorem d_Nt_dig_97 : decode b_Nt_dig 97 = .ok (.iconst 1, 1) := by decide +kernel
theorem d_Nt_dig_98 : decode b_Nt_dig 98 = .ok (.invokestatic 67, 3) := by decide +kernel
theorem d_Nt_dig_101 : decode b_Nt_dig 101 = .ok (.istore 6, 2) := by decide +kernel
theorem d_Nt_dig_103 : decode b_Nt_dig 103 = .ok (.aload_n 0, 1) := by decide +kernel
theorem d_Nt_dig_104 : decode b_Nt_dig 104 = .ok (.iload 5, 2) := by decide +kernel
theorem d_Nt_dig_106 : decode b_Nt_dig 106 = .ok (.invokevirtual 107, 3) := by decide +kernel
theorem d_Nt_dig_109 : decode b_Nt_dig 109 = .ok (.ifCond .eq 13, 3) := by decide +kernel
theorem d_Nt_dig_112 : decode b_Nt_dig 112 = .ok (.aload_n 0, 1) := by decide +kernel
theorem d_Nt_dig_113 : decode b_Nt_dig 113 = .ok (.iload 5, 2) := by decide +kernel
theorem d_Nt_dig_115 : decode b_Nt_dig 115 = .ok (.iload_n 2, 1) := by decide +kernel
theorem d_Nt_dig_116 : decode b_Nt_dig 116 = .ok (.invokevirtual 111, 3) := by decide +kernel
theorem d_Nt_dig_119 : decode b_Nt_dig 119 = .ok (.goto 29, 3) := by decide +kernel
theorem d_Nt_dig_122 : decode b_Nt_dig 122 = .ok (.aload_n 0, 1) := by decide +kernel
theorem d_Nt_dig_123 : decode b_Nt_dig 123 = .ok (.getfield 9, 3) := by decide +kernel
theorem d_Nt_dig_126 : decode b_Nt_dig 126 = .ok (.iload_n 2, 1) := by decide +kernel
theorem d_Nt_dig_127 : decode b_Nt_dig 127 = .ok (.aload_n 0, 1) := by decide +kernel
theorem d_Nt_dig_128 : decode b_Nt_dig 128 = .ok (.iload 5, 2) := by decide +kernel
theorem d_Nt_dig_130 : decode b_Nt_dig 130 = .ok (.invokevirtual 115, 3) := by decide +kernel
theorem d_Nt_dig_133 : decode b_Nt_dig 133 = .ok (.aload_n 0, 1) := by decide +kernel
theorem d_Nt_dig_134 : decode b_Nt_dig 134 = .ok (.iload 6, 2) := by decide +kernel
theorem d_Nt_dig_136 : decode b_Nt_dig 136 = .ok (.invokevirtual 115, 3) := by decide +kernel
theorem d_Nt_dig_139 : decode b_Nt_dig 139 = .ok (.aload_n 0, 1) := by decide +kernel
theorem d_Nt_dig_140 : decode b_Nt_dig 140 = .ok (.iload 6, 2) := by decide +kernel
theorem d_Nt_dig_142 : decode b_Nt_dig 142 = .ok (.invokevirtual 118, 3) := by decide +kernel
theorem d_Nt_dig_145 : decode b_Nt_dig 145 = .ok (.invokevirtual 121, 3) := by decide +kernel
theorem d_Nt_dig_148 : decode b_Nt_dig 148 = .ok (.istore 7, 2) := by decide +kernel
theorem d_Nt_dig_150 : decode b_Nt_dig 150 = .ok (.iload 7, 2) := by decide +kernel
theorem d_Nt_dig_152 : decode b_Nt_dig 152 = .ok (.ifCond .eq 14, 3) := by decide +kernel
theorem d_Nt_dig_155 : decode b_Nt_dig 155 = .ok (.aload_n 0, 1) := by decide +kernel
theorem d_Nt_dig_156 : decode b_Nt_dig 156 = .ok (.iload 5, 2) := by decide +kernel
theorem d_Nt_dig_158 : decode b_Nt_dig 158 = .ok (.iconst 3, 1) := by decide +kernel
theorem d_Nt_dig_159 : decode b_Nt_dig 159 = .ok (.idiv, 1) := by decide +kernel
theorem d_Nt_dig_160 : decode b_Nt_dig 160 = .ok (.invokevirtual 104, 3) := by decide +kernel
theorem d_Nt_dig_163 : decode b_Nt_dig 163 = .ok (.goto 26, 3) := by decide +kernel
theorem d_Nt_dig_166 : decode b_Nt_dig 166 = .ok (.aload_n 0, 1) := by decide +kernel
theorem d_Nt_dig_167 : decode b_Nt_dig 167 = .ok (.getfield 45, 3) := by decide +kernel
theorem d_Nt_dig_170 : decode b_Nt_dig 170 = .ok (.aload_n 0, 1) := by decide +kernel
theorem d_Nt_dig_171 : decode b_Nt_dig 171 = .ok (.getfield 60, 3) := by decide +kernel
theorem d_Nt_dig_174 : decode b_Nt_dig 174 = .ok (.iload 5, 2) := by decide +kernel
theorem d_Nt_dig_176 : decode b_Nt_dig 176 = .ok (.invokevirtual 82, 3) := by decide +kernel
theorem d_Nt_dig_179 : decode b_Nt_dig 179 = .ok (.aload_n 0, 1) := by decide +kernel
theorem d_Nt_dig_180 : decode b_Nt_dig 180 = .ok (.dup, 1) := by decide +kernel
theorem d_Nt_dig_181 : decode b_Nt_dig 181 = .ok (.getfield 60, 3) := by decide +kernel
theorem d_Nt_dig_184 : decode b_Nt_dig 184 = .ok (.iconst 1, 1) := by decide +kernel
theorem d_Nt_dig_185 : decode b_Nt_dig 185 = .ok (.iadd, 1) := by decide +kernel
theorem d_Nt_dig_186 : decode b_Nt_dig 186 = .ok (.putfield 60, 3) := by decide +kernel
theorem d_Nt_dig_189 : decode b_Nt_dig 189 = .ok (.iinc 4 1, 3) := by decide +kernel
theorem d_Nt_dig_192 : decode b_Nt_dig 192 = .ok (.goto (-146), 3) := by decide +kernel
theorem d_Nt_dig_195 : decode b_Nt_dig 195 = .ok (.iinc 3 1, 3) := by decide +kernel
theorem d_Nt_dig_198 : decode b_Nt_dig 198 = .ok (.goto (-171), 3) := by decide +kernel
theorem d_Nt_dig_201 : decode b_Nt_dig 201 = .ok (.return_, 1) := by decide +kernel
theorem d_Nt_fill_0 : decode b_Nt_fill 0 = .ok (.iconst 0, 1) := by decide +kernel
theorem d_Nt_fill_1 : decode b_Nt_fill 1 = .ok (.istore_n 2, 1) := by decide +kernel
theorem d_Nt_fill_2 : decode b_Nt_fill 2 = .ok (.iload_n 2, 1) := by decide +kernel
theorem d_Nt_fill_3 : decode b_Nt_fill 3 = .ok (.aload_n 0, 1) := by decide +kernel
theorem d_Nt_fill_4 : decode b_Nt_fill 4 = .ok (.getfield 60, 3) := by decide +kernel
theorem d_Nt_fill_7 : decode b_Nt_fill 7 = .ok (.if_icmp .ge 107, 3) := by decide +kernel
theorem d_Nt_fill_10 : decode b_Nt_fill 10 = .ok (.aload_n 0, 1) := by decide +kernel
theorem d_Nt_fill_11 : decode b_Nt_fill 11 = .ok (.getfield 45, 3) := by decide +kernel
theorem d_Nt_fill_14 : decode b_Nt_fill 14 = .ok (.iload_n 2, 1) := by decide +kernel
theorem d_Nt_fill_15 : decode b_Nt_fill 15 = .ok (.invokevirtual 63, 3) := by decide +kernel
theorem d_Nt_fill_18 : decode b_Nt_fill 18 = .ok (.istore_n 3, 1) := by decide +kernel
theorem d_Nt_fill_19 : decode b_Nt_fill 19 = .ok (.iload_n 2, 1) := by decide +kernel
theorem d_Nt_fill_20 : decode b_Nt_fill 20 = .ok (.aload_n 0, 1) := by decide +kernel
theorem d_Nt_fill_21 : decode b_Nt_fill 21 = .ok (.getfield 57, 3) := by decide +kernel
theorem d_Nt_fill_24 : decode b_Nt_fill 24 = .ok (.if_icmp .ge 14, 3) := by decide +kernel
theorem d_Nt_fill_27 : decode b_Nt_fill 27 = .ok (.aload_n 0, 1) := by decide +kernel
theorem d_Nt_fill_28 : decode b_Nt_fill 28 = .ok (.getfield 42, 3) := by decide +kernel
theorem d_Nt_fill_31 : decode b_Nt_fill 31 = .ok (.iload_n 2, 1) := by decide +kernel
theorem d_Nt_fill_32 : decode b_Nt_fill 32 = .ok (.invokevirtual 63, 3) := by decide +kernel
theorem d_Nt_fill_35 : decode b_Nt_fill 35 = .ok (.goto 14, 3) := by decide +kernel
theorem d_Nt_fill_38 : decode b_Nt_fill 38 = .ok (.aload_n 0, 1) := by decide +kernel
theorem d_Nt_fill_39 : decode b_Nt_fill 39 = .ok (.dup, 1) := by decide +kernel
theorem d_Nt_fill_40 : decode b_Nt_fill 40 = .ok (.getfield 51, 3) := by decide +kernel
theorem d_Nt_fill_43 : decode b_Nt_fill 43 = .ok (.dup_x1, 1) := by decide +kernel
theorem d_Nt_fill_44 : decode b_Nt_fill 44 = .ok (.iconst 1, 1) := by decide +kernel
theorem d_Nt_fill_45 : decode b_Nt_fill 45 = .ok (.iadd, 1) := by decide +kernel
theorem d_Nt_fill_46 : decode b_Nt_fill 46 = .ok (.putfield 51, 3) := by decide +kernel
theorem d_Nt_fill_49 : decode b_Nt_fill 49 = .ok (.istore 4, 2) := by decide +kernel
theorem d_Nt_fill_51 : decode b_Nt_fill 51 = .ok (.aload_n 0, 1) := by decide +kernel
theorem d_Nt_fill_52 : decode b_Nt_fill 52 = .ok (.iload 4, 2) := by decide +kernel
theorem d_Nt_fill_54 : decode b_Nt_fill 54 = .ok (.aload_n 0, 1) := by decide +kernel
theorem d_Nt_fill_55 : decode b_Nt_fill 55 = .ok (.iload_n 3, 1) := by decide +kernel
theorem d_Nt_fill_56 : decode b_Nt_fill 56 = .ok (.invokevirtual 118, 3) := by decide +kernel
theorem d_Nt_fill_59 : decode b_Nt_fill 59 = .ok (.aload_n 0, 1) := by decide +kernel
theorem d_Nt_fill_60 : decode b_Nt_fill 60 = .ok (.iload_n 3, 1) := by decide +kernel
theorem d_Nt_fill_61 : decode b_Nt_fill 61 = .ok (.invokevirtual 115, 3) := by decide +kernel
theorem d_Nt_fill_64 : decode b_Nt_fill 64 = .ok (.iload_n 1, 1) := by decide +kernel
theorem d_Nt_fill_65 : decode b_Nt_fill 65 = .ok (.invokevirtual 74, 3) := by decide +kernel
theorem d_Nt_fill_68 : decode b_Nt_fill 68 = .ok (.aload_n 0, 1) := by decide +kernel
theorem d_Nt_fill_69 : decode b_Nt_fill 69 = .ok (.iconst 3, 1) := by decide +kernel
theorem d_Nt_fill_70 : decode b_Nt_fill 70 = .ok (.iload 4, 2) := by decide +kernel
theorem d_Nt_fill_72 : decode b_Nt_fill 72 = .ok (.imul, 1) := by decide +kernel
theorem d_Nt_fill_73 : decode b_Nt_fill 73 = .ok (.iload_n 3, 1) := by decide +kernel
theorem d_Nt_fill_74 : decode b_Nt_fill 74 = .ok (.invokevirtual 78, 3) := by decide +kernel
theorem d_Nt_fill_77 : decode b_Nt_fill 77 = .ok (.aload_n 0, 1) := by decide +kernel
theorem d_Nt_fill_78 : decode b_Nt_fill 78 = .ok (.getfield 42, 3) := by decide +kernel
theorem d_Nt_fill_81 : decode b_Nt_fill 81 = .ok (.iload_n 2, 1) := by decide +kernel
theorem d_Nt_fill_82 : decode b_Nt_fill 82 = .ok (.iload 4, 2) := by decide +kernel
theorem d_Nt_fill_84 : decode b_Nt_fill 84 = .ok (.invokevirtual 82, 3) := by decide +kernel
theorem d_Nt_fill_87 : decode b_Nt_fill 87 = .ok (.aload_n 0, 1) := by decide +kernel
theorem d_Nt_fill_88 : decode b_Nt_fill 88 = .ok (.iconst 3, 1) := by decide +kernel
theorem d_Nt_fill_89 : decode b_Nt_fill 89 = .ok (.iload 4, 2) := by decide +kernel
theorem d_Nt_fill_91 : decode b_Nt_fill 91 = .ok (.imul, 1) := by decide +kernel
theorem d_Nt_fill_92 : decode b_Nt_fill 92 = .ok (.invokevirtual 107, 3) := by decide +kernel
theorem d_Nt_fill_95 : decode b_Nt_fill 95 = .ok (.ifCond .eq 13, 3) := by decide +kernel
theorem d_Nt_fill_98 : decode b_Nt_fill 98 = .ok (.aload_n 0, 1) := by decide +kernel
theorem d_Nt_fill_99 : decode b_Nt_fill 99 = .ok (.dup, 1) := by decide +kernel
theorem d_Nt_fill_100 : decode b_Nt_fill 100 = .ok (.getfield 54, 3) := by decide +kernel
theorem d_Nt_fill_103 : decode b_Nt_fill 103 = .ok (.iconst 1, 1) := by decide +kernel
theorem d_Nt_fill_104 : decode b_Nt_fill 104 = .ok (.iadd, 1) := by decide +kernel
theorem d_Nt_fill_105 : decode b_Nt_fill 105 = .ok (.putfield 54, 3) := by decide +kernel
theorem d_Nt_fill_108 : decode b_Nt_fill 108 = .ok (.iinc 2 1, 3) := by decide +kernel
theorem d_Nt_fill_111 : decode b_Nt_fill 111 = .ok (.goto (-109), 3) := by decide +kernel
theorem d_Nt_fill_114 : decode b_Nt_fill 114 = .ok (.iconst 0, 1) := by decide +kernel
theorem d_Nt_fill_115 : decode b_Nt_fill 115 = .ok (.istore_n 2, 1) := by decide +kernel
theorem d_Nt_fill_116 : decode b_Nt_fill 116 = .ok (.iload_n 2, 1) := by decide +kernel
theorem d_Nt_fill_117 : decode b_Nt_fill 117 = .ok (.aload_n 0, 1) := by decide +kernel
theorem d_Nt_fill_118 : decode b_Nt_fill 118 = .ok (.getfield 60, 3) := by decide +kernel
theorem d_Nt_fill_121 : decode b_Nt_fill 121 = .ok (.if_icmp .ge 45, 3) := by decide +kernel
theorem d_Nt_fill_124 : decode b_Nt_fill 124 = .ok (.iconst 3, 1) := by decide +kernel
theorem d_Nt_fill_125 : decode b_Nt_fill 125 = .ok (.aload_n 0, 1) := by decide +kernel
theorem d_Nt_fill_126 : decode b_Nt_fill 126 = .ok (.getfield 42, 3) := by decide +kernel
theorem d_Nt_fill_129 : decode b_Nt_fill 129 = .ok (.iload_n 2, 1) := by decide +kernel
theorem d_Nt_fill_130 : decode b_Nt_fill 130 = .ok (.invokevirtual 63, 3) := by decide +kernel
theorem d_Nt_fill_133 : decode b_Nt_fill 133 = .ok (.imul, 1) := by decide +kernel
theorem d_Nt_fill_134 : decode b_Nt_fill 134 = .ok (.iconst 1, 1) := by decide +kernel
theorem d_Nt_fill_135 : decode b_Nt_fill 135 = .ok (.iadd, 1) := by decide +kernel
theorem d_Nt_fill_136 : decode b_Nt_fill 136 = .ok (.istore_n 3, 1) := by decide +kernel
theorem d_Nt_fill_137 : decode b_Nt_fill 137 = .ok (.aload_n 0, 1) := by decide +kernel
theorem d_Nt_fill_138 : decode b_Nt_fill 138 = .ok (.iload_n 3, 1) := by decide +kernel
theorem d_Nt_fill_139 : decode b_Nt_fill 139 = .ok (.aload_n 0, 1) := by decide +kernel
theorem d_Nt_fill_140 : decode b_Nt_fill 140 = .ok (.getfield 36, 3) := by decide +kernel
theorem d_Nt_fill_143 : decode b_Nt_fill 143 = .ok (.aload_n 0, 1) := by decide +kernel
theorem d_Nt_fill_144 : decode b_Nt_fill 144 = .ok (.aload_n 0, 1) := by decide +kernel
theorem d_Nt_fill_145 : decode b_Nt_fill 145 = .ok (.iload_n 3, 1) := by decide +kernel
theorem d_Nt_fill_146 : decode b_Nt_fill 146 = .ok (.invokevirtual 115, 3) := by decide +kernel
theorem d_Nt_fill_149 : decode b_Nt_fill 149 = .ok (.invokevirtual 85, 3) := by decide +kernel
theorem d_Nt_fill_152 : decode b_Nt_fill 152 = .ok (.invokevirtual 63, 3) := by decide +kernel
theorem d_Nt_fill_155 : decode b_Nt_fill 155 = .ok (.iconst 2, 1) := by decide +kernel
theorem d_Nt_fill_156 : decode b_Nt_fill 156 = .ok (.iadd, 1) := by decide +kernel
theorem d_Nt_fill_157 : decode b_Nt_fill 157 = .ok (.invokevirtual 78, 3) := by decide +kernel
theorem d_Nt_fill_160 : decode b_Nt_fill 160 = .ok (.iinc 2 1, 3) := by decide +kernel
theorem d_Nt_fill_163 : decode b_Nt_fill 163 = .ok (.goto (-47), 3) := by decide +kernel
theorem d_Nt_fill_166 : decode b_Nt_fill 166 = .ok (.return_, 1) := by decide +kernel
theorem d_Nt_insert_0 : decode b_Nt_insert 0 = .ok (.aload_n 0, 1) := by decide +kernel
theorem d_Nt_insert_1 : decode b_Nt_insert 1 = .ok (.aload_n 0, 1) := by decide +kernel
theorem d_Nt_insert_2 : decode b_Nt_insert 2 = .ok (.iload_n 2, 1) := by decide +kernel
theorem d_Nt_insert_3 : decode b_Nt_insert 3 = .ok (.aload_n 0, 1) := by decide +kernel
theorem d_Nt_insert_4 : decode b_Nt_insert 4 = .ok (.getfield 9, 3) := by decide +kernel
theorem d_Nt_insert_7 : decode b_Nt_insert 7 = .ok (.iload_n 1, 1) := by decide +kernel
theorem d_Nt_insert_8 : decode b_Nt_insert 8 = .ok (.invokevirtual 88, 3) := by decide +kernel
theorem d_Nt_insert_11 : decode b_Nt_insert 11 = .ok (.aload_n 0, 1) := by decide +kernel
theorem d_Nt_insert_12 : decode b_Nt_insert 12 = .ok (.getfield 9, 3) := by decide +kernel
theorem d_Nt_insert_15 : decode b_Nt_insert 15 = .ok (.iload_n 1, 1) := by decide +kernel
theorem d_Nt_insert_16 : decode b_Nt_insert 16 = .ok (.invokevirtual 91, 3) := by decide +kernel
theorem d_Nt_insert_19 : decode b_Nt_insert 19 = .ok (.invokevirtual 94, 3) := by decide +kernel
theorem d_Nt_insert_22 : decode b_Nt_insert 22 = .ok (.iconst 3, 1) := by decide +kernel
theorem d_Nt_insert_23 : decode b_Nt_insert 23 = .ok (.idiv, 1) := by decide +kernel
theorem d_Nt_insert_24 : decode b_Nt_insert 24 = .ok (.iload_n 1, 1) := by decide +kernel
theorem d_Nt_insert_25 : decode b_Nt_insert 25 = .ok (.invokevirtual 98, 3) := by decide +kernel
theorem d_Nt_insert_28 : decode b_Nt_insert 28 = .ok (.aload_n 0, 1) := by decide +kernel
theorem d_Nt_insert_29 : decode b_Nt_insert 29 = .ok (.iload_n 1, 1) := by decide +kernel
theorem d_Nt_insert_30 : decode b_Nt_insert 30 = .ok (.invokevirtual 101, 3) := by decide +kernel
theorem d_Nt_insert_33 : decode b_Nt_insert 33 = .ok (.return_, 1) := by decide +kernel
theorem d_Pn_tryToBeginNet_0 : decode b_Pn_tryToBeginNet 0 = .ok (.iload_n 1, 1) := by decide +kernel
theorem d_Pn_tryToBeginNet_1 : decode b_Pn_tryToBeginNet 1 = .ok (.iconst 2, 1) := by decide +kernel
theorem d_Pn_tryToBeginNet_2 : decode b_Pn_tryToBeginNet 2 = .ok (.if_icmp .ge 7, 3) := by decide +kernel
theorem d_Pn_tryToBeginNet_5 : decode b_Pn_tryToBeginNet 5 = .ok (.lconst 0, 1) := by decide +kernel
theorem d_Pn_tryToBeginNet_6 : decode b_Pn_tryToBeginNet 6 = .ok (.goto 28, 3) := by decide +kernel
theorem d_Pn_tryToBeginNet_9 : decode b_Pn_tryToBeginNet 9 = .ok (.aload_n 0, 1) := by decide +kernel
theorem d_Pn_tryToBeginNet_10 : decode b_Pn_tryToBeginNet 10 = .ok (.getfield 23, 3) := by decide +kernel
theorem d_Pn_tryToBeginNet_13 : decode b_Pn_tryToBeginNet 13 = .ok (.iconst 0, 1) := by decide +kernel
theorem d_Pn_tryToBeginNet_14 : decode b_Pn_tryToBeginNet 14 = .ok (.iconst 1, 1) := by decide +kernel
theorem d_Pn_tryToBeginNet_15 : decode b_Pn_tryToBeginNet 15 = .ok (.aload_n 0, 1) := by decide +kernel
theorem d_Pn_tryToBeginNet_16 : decode b_Pn_tryToBeginNet 16 = .ok (.getfield 23, 3) := by decide +kernel
theorem d_Pn_tryToBeginNet_19 : decode b_Pn_tryToBeginNet 19 = .ok (.iload_n 1, 1) := by decide +kernel
theorem d_Pn_tryToBeginNet_20 : decode b_Pn_tryToBeginNet 20 = .ok (.invokevirtual 175, 3) := by decide +kernel
theorem d_Pn_tryToBeginNet_23 : decode b_Pn_tryToBeginNet 23 = .ok (.aload_n 0, 1) := by decide +kernel
theorem d_Pn_tryToBeginNet_24 : decode b_Pn_tryToBeginNet 24 = .ok (.getfield 23, 3) := by decide +kernel
theorem d_Pn_tryToBeginNet_27 : decode b_Pn_tryToBeginNet 27 = .ok (.iload_n 1, 1) := by decide +kernel
theorem d_Pn_tryToBeginNet_28 : decode b_Pn_tryToBeginNet 28 = .ok (.invokevirtual 178, 3) := by decide +kernel
theorem d_Pn_tryToBeginNet_31 : decode b_Pn_tryToBeginNet 31 = .ok (.invokevirtual 198, 3) := by decide +kernel
theorem d_Pn_tryToBeginNet_34 : decode b_Pn_tryToBeginNet 34 = .ok (.lstore_n 2, 1) := by decide +kernel
theorem d_Pn_tryToBeginNet_35 : decode b_Pn_tryToBeginNet 35 = .ok (.lload_n 2, 1) := by decide +kernel
theorem d_Pn_tryToBeginNet_36 : decode b_Pn_tryToBeginNet 36 = .ok (.lconst 0, 1) := by decide +kernel
theorem d_Pn_tryToBeginNet_37 : decode b_Pn_tryToBeginNet 37 = .ok (.lcmp, 1) := by decide +kernel
theorem d_Pn_tryToBeginNet_38 : decode b_Pn_tryToBeginNet 38 = .ok (.ifCond .ne 4, 3) := by decide +kernel
theorem d_Pn_tryToBeginNet_41 : decode b_Pn_tryToBeginNet 41 = .ok (.return_, 1) := by decide +kernel
theorem d_Pn_tryToBeginNet_42 : decode b_Pn_tryToBeginNet 42 = .ok (.lload_n 2, 1) := by decide +kernel
theorem d_Pn_tryToBeginNet_43 : decode b_Pn_tryToBeginNet 43 = .ok (.lconst 0, 1) := by decide +kernel
theorem d_Pn_tryToBeginNet_44 : decode b_Pn_tryToBeginNet 44 = .ok (.lcmp, 1) := by decide +kernel
theorem d_Pn_tryToBeginNet_45 : decode b_Pn_tryToBeginNet 45 = .ok (.ifCond .le 16, 3) := by decide +kernel
theorem d_Pn_tryToBeginNet_48 : decode b_Pn_tryToBeginNet 48 = .ok (.aload_n 0, 1) := by decide +kernel
theorem d_Pn_tryToBeginNet_49 : decode b_Pn_tryToBeginNet 49 = .ok (.getfield 32, 3) := by decide +kernel
theorem d_Pn_tryToBeginNet_52 : decode b_Pn_tryToBeginNet 52 = .ok (.iconst 0, 1) := by decide +kernel
theorem d_Pn_tryToBeginNet_53 : decode b_Pn_tryToBeginNet 53 = .ok (.iconst 1, 1) := by decide +kernel
theorem d_Pn_tryToBeginNet_54 : decode b_Pn_tryToBeginNet 54 = .ok (.iload_n 1, 1) := by decide +kernel
theorem d_Pn_tryToBeginNet_55 : decode b_Pn_tryToBeginNet 55 = .ok (.invokevirtual 202, 3) := by decide +kernel
theorem d_Pn_tryToBeginNet_58 : decode b_Pn_tryToBeginNet 58 = .ok (.goto 13, 3) := by decide +kernel
theorem d_Pn_tryToBeginNet_61 : decode b_Pn_tryToBeginNet 61 = .ok (.aload_n 0, 1) := by decide +kernel
theorem d_Pn_tryToBeginNet_62 : decode b_Pn_tryToBeginNet 62 = .ok (.getfield 32, 3) := by decide +kernel
theorem d_Pn_tryToBeginNet_65 : decode b_Pn_tryToBeginNet 65 = .ok (.iconst 1, 1) := by decide +kernel
theorem d_Pn_tryToBeginNet_66 : decode b_Pn_tryToBeginNet 66 = .ok (.iconst 0, 1) := by decide +kernel
theorem d_Pn_tryToBeginNet_67 : decode b_Pn_tryToBeginNet 67 = .ok (.iload_n 1, 1) := by decide +kernel
theorem d_Pn_tryToBeginNet_68 : decode b_Pn_tryToBeginNet 68 = .ok (.invokevirtual 202, 3) := by decide +kernel
theorem d_Pn_tryToBeginNet_71 : decode b_Pn_tryToBeginNet 71 = .ok (.iconst 2, 1) := by decide +kernel
theorem d_Pn_tryToBeginNet_72 : decode b_Pn_tryToBeginNet 72 = .ok (.istore 4, 2) := by decide +kernel
theorem d_Pn_tryToBeginNet_74 : decode b_Pn_tryToBeginNet 74 = .ok (.iload 4, 2) := by decide +kernel
theorem d_Pn_tryToBeginNet_76 : decode b_Pn_tryToBeginNet 76 = .ok (.iload_n 1, 1) := by decide +kernel
theorem d_Pn_tryToBeginNet_77 : decode b_Pn_tryToBeginNet 77 = .ok (.if_icmp .ge 45, 3) := by decide +kernel
theorem d_Pn_tryToBeginNet_80 : decode b_Pn_tryToBeginNet 80 = .ok (.aload_n 0, 1) := by decide +kernel
theorem d_Pn_tryToBeginNet_81 : decode b_Pn_tryToBeginNet 81 = .ok (.getfield 32, 3) := by decide +kernel
theorem d_Pn_tryToBeginNet_84 : decode b_Pn_tryToBeginNet 84 = .ok (.iload 4, 2) := by decide +kernel
theorem d_Pn_tryToBeginNet_86 : decode b_Pn_tryToBeginNet 86 = .ok (.aload_n 0, 1) := by decide +kernel
theorem d_Pn_tryToBeginNet_87 : decode b_Pn_tryToBeginNet 87 = .ok (.getfield 23, 3) := by decide +kernel
theorem d_Pn_tryToBeginNet_90 : decode b_Pn_tryToBeginNet 90 = .ok (.iload 4, 2) := by decide +kernel
theorem d_Pn_tryToBeginNet_92 : decode b_Pn_tryToBeginNet 92 = .ok (.aload_n 0, 1) := by decide +kernel
theorem d_Pn_tryToBeginNet_93 : decode b_Pn_tryToBeginNet 93 = .ok (.getfield 23, 3) := by decide +kernel
theorem d_Pn_tryToBeginNet_96 : decode b_Pn_tryToBeginNet 96 = .ok (.iload 4, 2) := by decide +kernel
theorem d_Pn_tryToBeginNet_98 : decode b_Pn_tryToBeginNet 98 = .ok (.invokevirtual 175, 3) := by decide +kernel
theorem d_Pn_tryToBeginNet_101 : decode b_Pn_tryToBeginNet 101 = .ok (.aload_n 0, 1) := by decide +kernel
theorem d_Pn_tryToBeginNet_102 : decode b_Pn_tryToBeginNet 102 = .ok (.getfield 23, 3) := by decide +kernel
theorem d_Pn_tryToBeginNet_105 : decode b_Pn_tryToBeginNet 105 = .ok (.iload 4, 2) := by decide +kernel
theorem d_Pn_tryToBeginNet_107 : decode b_Pn_tryToBeginNet 107 = .ok (.invokevirtual 178, 3) := by decide +kernel
theorem d_Pn_tryToBeginNet_110 : decode b_Pn_tryToBeginNet 110 = .ok (.invokevirtual 74, 3) := by decide +kernel
theorem d_Pn_tryToBeginNet_113 : decode b_Pn_tryToBeginNet 113 = .ok (.invokevirtual 108, 3) := by decide +kernel
theorem d_Pn_tryToBeginNet_116 : decode b_Pn_tryToBeginNet 116 = .ok (.iinc 4 1, 3) := by decide +kernel
theorem d_Pn_tryToBeginNet_119 : decode b_Pn_tryToBeginNet 119 = .ok (.goto (-45), 3) := by decide +kernel
theorem d_Pn_tryToBeginNet_122 : decode b_Pn_tryToBeginNet 122 = .ok (.return_, 1) := by decide +kernel
theorem d_Ar_fill_0 : decode b_Ar_fill 0 = .ok (.iconst 0, 1) := by decide +kernel
theorem d_Ar_fill_1 : decode b_Ar_fill 1 = .ok (.istore_n 2, 1) := by decide +kernel
theorem d_Ar_fill_2 : decode b_Ar_fill 2 = .ok (.aload_n 0, 1) := by decide +kernel
theorem d_Ar_fill_3 : decode b_Ar_fill 3 = .ok (.arraylength, 1) := by decide +kernel
theorem d_Ar_fill_4 : decode b_Ar_fill 4 = .ok (.istore_n 3, 1) := by decide +kernel
theorem d_Ar_fill_5 : decode b_Ar_fill 5 = .ok (.iload_n 2, 1) := by decide +kernel
theorem d_Ar_fill_6 : decode b_Ar_fill 6 = .ok (.iload_n 3, 1) := by decide +kernel
theorem d_Ar_fill_7 : decode b_Ar_fill 7 = .ok (.if_icmp .ge 13, 3) := by decide +kernel
theorem d_Ar_fill_10 : decode b_Ar_fill 10 = .ok (.aload_n 0, 1) := by decide +kernel
theorem d_Ar_fill_11 : decode b_Ar_fill 11 = .ok (.iload_n 2, 1) := by decide +kernel
theorem d_Ar_fill_12 : decode b_Ar_fill 12 = .ok (.iload_n 1, 1) := by decide +kernel
theorem d_Ar_fill_13 : decode b_Ar_fill 13 = .ok (.iastore, 1) := by decide +kernel
theorem d_Ar_fill_14 : decode b_Ar_fill 14 = .ok (.iinc 2 1, 3) := by decide +kernel
theorem d_Ar_fill_17 : decode b_Ar_fill 17 = .ok (.goto (-12), 3) := by decide +kernel
theorem d_Ar_fill_20 : decode b_Ar_fill 20 = .ok (.return_, 1) := by decide +kernel
theorem d_Pn_forgetFound_0 : decode b_Pn_forgetFound 0 = .ok (.aload_n 0, 1) := by decide +kernel
theorem d_Pn_forgetFound_1 : decode b_Pn_forgetFound 1 = .ok (.getfield 52, 3) := by decide +kernel
theorem d_Pn_forgetFound_4 : decode b_Pn_forgetFound 4 = .ok (.iconst (-1), 1) := by decide +kernel
theorem d_Pn_forgetFound_5 : decode b_Pn_forgetFound 5 = .ok (.invokestatic 210, 3) := by decide +kernel
theorem d_Pn_forgetFound_8 : decode b_Pn_forgetFound 8 = .ok (.return_, 1) := by decide +kernel
theorem d_Rl_forget_0 : decode b_Rl_forget 0 = .ok (.aload_n 0, 1) := by decide +kernel
theorem d_Rl_forget_1 : decode b_Rl_forget 1 = .ok (.iconst 0, 1) := by decide +kernel
theorem d_Rl_forget_2 : decode b_Rl_forget 2 = .ok (.putfield 38, 3) := by decide +kernel
theorem d_Rl_forget_5 : decode b_Rl_forget 5 = .ok (.return_, 1) := by decide +kernel
theorem d_Ol_forget_0 : decode b_Ol_forget 0 = .ok (.aload_n 0, 1) := by decide +kernel
theorem d_Ol_forget_1 : decode b_Ol_forget 1 = .ok (.iconst 0, 1) := by decide +kernel
theorem d_Ol_forget_2 : decode b_Ol_forget 2 = .ok (.putfield 37, 3) := by decide +kernel
theorem d_Ol_forget_5 : decode b_Ol_forget 5 = .ok (.return_, 1) := by decide +kernel
theorem d_Pn_forgetAnswers_0 : decode b_Pn_forgetAnswers 0 = .ok (.aload_n 0, 1) := by decide +kernel
theorem d_Pn_forgetAnswers_1 : decode b_Pn_forgetAnswers 1 = .ok (.invokevirtual 158, 3) := by decide +kernel
theorem d_Pn_forgetAnswers_4 : decode b_Pn_forgetAnswers 4 = .ok (.aload_n 0, 1) := by decide +kernel
theorem d_Pn_forgetAnswers_5 : decode b_Pn_forgetAnswers 5 = .ok (.getfield 41, 3) := by decide +kernel
theorem d_Pn_forgetAnswers_8 : decode b_Pn_forgetAnswers 8 = .ok (.invokevirtual 206, 3) := by decide +kernel
theorem d_Pn_forgetAnswers_11 : decode b_Pn_forgetAnswers 11 = .ok (.aload_n 0, 1) := by decide +kernel
theorem d_Pn_forgetAnswers_12 : decode b_Pn_forgetAnswers 12 = .ok (.getfield 48, 3) := by decide +kernel
theorem d_Pn_forgetAnswers_15 : decode b_Pn_forgetAnswers 15 = .ok (.invokevirtual 209, 3) := by decide +kernel
theorem d_Pn_forgetAnswers_18 : decode b_Pn_forgetAnswers 18 = .ok (.return_, 1) := by decide +kernel
theorem d_Pn_add_0 : decode b_Pn_add 0 = .ok (.iload_n 1, 1) := by decide +kernel
theorem d_Pn_add_1 : decode b_Pn_add 1 = .ok (.iload_n 2, 1) := by decide +kernel
theorem d_Pn_add_2 : decode b_Pn_add 2 = .ok (.invokestatic 67, 3) := by decide +kernel
theorem d_Pn_add_5 : decode b_Pn_add 5 = .ok (.aload_n 0, 1) := by decide +kernel
theorem d_Pn_add_6 : decode b_Pn_add 6 = .ok (.getfield 23, 3) := by decide +kernel
theorem d_Pn_add_9 : decode b_Pn_add 9 = .ok (.aload_n 0, 1) := by decide +kernel
theorem d_Pn_add_10 : decode b_Pn_add 10 = .ok (.getfield 23, 3) := by decide +kernel
theorem d_Pn_add_13 : decode b_Pn_add 13 = .ok (.getfield 71, 3) := by decide +kernel
theorem d_Pn_add_16 : decode b_Pn_add 16 = .ok (.iload_n 1, 1) := by decide +kernel
theorem d_Pn_add_17 : decode b_Pn_add 17 = .ok (.iload_n 2, 1) := by decide +kernel
theorem d_Pn_add_18 : decode b_Pn_add 18 = .ok (.invokevirtual 74, 3) := by decide +kernel
theorem d_Pn_add_21 : decode b_Pn_add 21 = .ok (.istore_n 3, 1) := by decide +kernel
theorem d_Pn_add_22 : decode b_Pn_add 22 = .ok (.aload_n 0, 1) := by decide +kernel
theorem d_Pn_add_23 : decode b_Pn_add 23 = .ok (.getfield 23, 3) := by decide +kernel
theorem d_Pn_add_26 : decode b_Pn_add 26 = .ok (.iload_n 3, 1) := by decide +kernel
theorem d_Pn_add_27 : decode b_Pn_add 27 = .ok (.iload_n 1, 1) := by decide +kernel
theorem d_Pn_add_28 : decode b_Pn_add 28 = .ok (.iload_n 2, 1) := by decide +kernel
theorem d_Pn_add_29 : decode b_Pn_add 29 = .ok (.invokevirtual 78, 3) := by decide +kernel
theorem d_Pn_add_32 : decode b_Pn_add 32 = .ok (.ifCond .eq 5, 3) := by decide +kernel
theorem d_Pn_add_35 : decode b_Pn_add 35 = .ok (.iconst (-1), 1) := by decide +kernel
theorem d_Pn_add_36 : decode b_Pn_add 36 = .ok (.ireturn, 1) := by decide +kernel
theorem d_Pn_add_37 : decode b_Pn_add 37 = .ok (.aload_n 0, 1) := by decide +kernel
theorem d_Pn_add_38 : decode b_Pn_add 38 = .ok (.getfield 23, 3) := by decide +kernel
theorem d_Pn_add_41 : decode b_Pn_add 41 = .ok (.invokevirtual 82, 3) := by decide +kernel
theorem d_Pn_add_44 : decode b_Pn_add 44 = .ok (.ifCond .eq 13, 3) := by decide +kernel
theorem d_Pn_add_47 : decode b_Pn_add 47 = .ok (.new 86, 3) := by decide +kernel
theorem d_Pn_add_50 : decode b_Pn_add 50 = .ok (.dup, 1) := by decide +kernel
theorem d_Pn_add_51 : decode b_Pn_add 51 = .ok (.ldc 88, 2) := by decide +kernel
theorem d_Pn_add_53 : decode b_Pn_add 53 = .ok (.invokespecial 90, 3) := by decide +kernel
theorem d_Pn_add_56 : decode b_Pn_add 56 = .ok (.athrow, 1) := by decide +kernel
theorem d_Pn_add_57 : decode b_Pn_add 57 = .ok (.aload_n 0, 1) := by decide +kernel
theorem d_Pn_add_58 : decode b_Pn_add 58 = .ok (.aload_n 0, 1) := by decide +kernel
theorem d_Pn_add_59 : decode b_Pn_add 59 = .ok (.getfield 23, 3) := by decide +kernel
theorem d_Pn_add_62 : decode b_Pn_add 62 = .ok (.getfield 71, 3) := by decide +kernel
theorem d_Pn_add_65 : decode b_Pn_add 65 = .ok (.iconst 1, 1) := by decide +kernel
theorem d_Pn_add_66 : decode b_Pn_add 66 = .ok (.iadd, 1) := by decide +kernel
theorem d_Pn_add_67 : decode b_Pn_add 67 = .ok (.invokevirtual 93, 3) := by decide +kernel
theorem d_Pn_add_70 : decode b_Pn_add 70 = .ok (.aload_n 0, 1) := by decide +kernel
theorem d_Pn_add_71 : decode b_Pn_add 71 = .ok (.getfield 23, 3) := by decide +kernel
theorem d_Pn_add_74 : decode b_Pn_add 74 = .ok (.iload_n 1, 1) := by decide +kernel
theorem d_Pn_add_75 : decode b_Pn_add 75 = .ok (.iload_n 2, 1) := by decide +kernel
theorem d_Pn_add_76 : decode b_Pn_add 76 = .ok (.invokevirtual 96, 3) := by decide +kernel
theorem d_Pn_add_79 : decode b_Pn_add 79 = .ok (.istore 4, 2) := by decide +kernel
theorem d_Pn_add_81 : decode b_Pn_add 81 = .ok (.aload_n 0, 1) := by decide +kernel
theorem d_Pn_add_82 : decode b_Pn_add 82 = .ok (.iload_n 3, 1) := by decide +kernel
theorem d_Pn_add_83 : decode b_Pn_add 83 = .ok (.iload 4, 2) := by decide +kernel
theorem d_Pn_add_85 : decode b_Pn_add 85 = .ok (.invokevirtual 99, 3) := by decide +kernel
theorem d_Pn_add_88 : decode b_Pn_add 88 = .ok (.aload_n 0, 1) := by decide +kernel
theorem d_Pn_add_89 : decode b_Pn_add 89 = .ok (.getfield 32, 3) := by decide +kernel
theorem d_Pn_add_92 : decode b_Pn_add 92 = .ok (.invokevirtual 102, 3) := by decide +kernel
theorem d_Pn_add_95 : decode b_Pn_add 95 = .ok (.ifCond .eq 12, 3) := by decide +kernel
theorem d_Pn_add_98 : decode b_Pn_add 98 = .ok (.aload_n 0, 1) := by decide +kernel
theorem d_Pn_add_99 : decode b_Pn_add 99 = .ok (.iload 4, 2) := by decide +kernel
theorem d_Pn_add_101 : decode b_Pn_add 101 = .ok (.invokevirtual 105, 3) := by decide +kernel
theorem d_Pn_add_104 : decode b_Pn_add 104 = .ok (.goto 13, 3) := by decide +kernel
theorem d_Pn_add_107 : decode b_Pn_add 107 = .ok (.aload_n 0, 1) := by decide +kernel
theorem d_Pn_add_108 : decode b_Pn_add 108 = .ok (.getfield 32, 3) := by decide +kernel
theorem d_Pn_add_111 : decode b_Pn_add 111 = .ok (.iload 4, 2) := by decide +kernel
theorem d_Pn_add_113 : decode b_Pn_add 113 = .ok (.iload_n 3, 1) := by decide +kernel
theorem d_Pn_add_114 : decode b_Pn_add 114 = .ok (.invokevirtual 108, 3) := by decide +kernel
theorem d_Pn_add_117 : decode b_Pn_add 117 = .ok (.aload_n 0, 1) := by decide +kernel
theorem d_Pn_add_118 : decode b_Pn_add 118 = .ok (.invokevirtual 111, 3) := by decide +kernel
theorem d_Pn_add_121 : decode b_Pn_add 121 = .ok (.iload 4, 2) := by decide +kernel
theorem d_Pn_add_123 : decode b_Pn_add 123 = .ok (.ireturn, 1) := by decide +kernel
theorem d_Nt_removeAll_0 : decode b_Nt_removeAll 0 = .ok (.aload_n 0, 1) := by decide +kernel
theorem d_Nt_removeAll_1 : decode b_Nt_removeAll 1 = .ok (.iconst 0, 1) := by decide +kernel
theorem d_Nt_removeAll_2 : decode b_Nt_removeAll 2 = .ok (.putfield 51, 3) := by decide +kernel
theorem d_Nt_removeAll_5 : decode b_Nt_removeAll 5 = .ok (.aload_n 0, 1) := by decide +kernel
theorem d_Nt_removeAll_6 : decode b_Nt_removeAll 6 = .ok (.iconst 0, 1) := by decide +kernel
theorem d_Nt_removeAll_7 : decode b_Nt_removeAll 7 = .ok (.putfield 54, 3) := by decide +kernel
theorem d_Nt_removeAll_10 : decode b_Nt_removeAll 10 = .ok (.return_, 1) := by decide +kernel
theorem d_Pn_clear_0 : decode b_Pn_clear 0 = .ok (.aload_n 0, 1) := by decide +kernel
theorem d_Pn_clear_1 : decode b_Pn_clear 1 = .ok (.getfield 23, 3) := by decide +kernel
theorem d_Pn_clear_4 : decode b_Pn_clear 4 = .ok (.getfield 71, 3) := by decide +kernel
theorem d_Pn_clear_7 : decode b_Pn_clear 7 = .ok (.istore_n 1, 1) := by decide +kernel
theorem d_Pn_clear_8 : decode b_Pn_clear 8 = .ok (.aload_n 0, 1) := by decide +kernel
theorem d_Pn_clear_9 : decode b_Pn_clear 9 = .ok (.getfield 23, 3) := by decide +kernel
theorem d_Pn_clear_12 : decode b_Pn_clear 12 = .ok (.iconst 0, 1) := by decide +kernel
theorem d_Pn_clear_13 : decode b_Pn_clear 13 = .ok (.putfield 71, 3) := by decide +kernel
theorem d_Pn_clear_16 : decode b_Pn_clear 16 = .ok (.aload_n 0, 1) := by decide +kernel
theorem d_Pn_clear_17 : decode b_Pn_clear 17 = .ok (.getfield 32, 3) := by decide +kernel
theorem d_Pn_clear_20 : decode b_Pn_clear 20 = .ok (.invokevirtual 114, 3) := by decide +kernel
theorem d_Pn_clear_23 : decode b_Pn_clear 23 = .ok (.aload_n 0, 1) := by decide +kernel
theorem d_Pn_clear_24 : decode b_Pn_clear 24 = .ok (.iconst (-1), 1) := by decide +kernel
theorem d_Pn_clear_25 : decode b_Pn_clear 25 = .ok (.putfield 60, 3) := by decide +kernel
theorem d_Pn_clear_28 : decode b_Pn_clear 28 = .ok (.aload_n 0, 1) := by decide +kernel
theorem d_Pn_clear_29 : decode b_Pn_clear 29 = .ok (.iconst (-1), 1) := by decide +kernel
theorem d_Pn_clear_30 : decode b_Pn_clear 30 = .ok (.putfield 64, 3) := by decide +kernel
theorem d_Pn_clear_33 : decode b_Pn_clear 33 = .ok (.aload_n 0, 1) := by decide +kernel
theorem d_Pn_clear_34 : decode b_Pn_clear 34 = .ok (.invokevirtual 111, 3) := by decide +kernel
theorem d_Pn_clear_37 : decode b_Pn_clear 37 = .ok (.iload_n 1, 1) := by decide +kernel
theorem d_Pn_clear_38 : decode b_Pn_clear 38 = .ok (.ireturn, 1) := by decide +kernel
theorem d_Pn_find_0 : decode b_Pn_find 0 = .ok (.iload_n 1, 1) := by decide +kernel
theorem d_Pn_find_1 : decode b_Pn_find 1 = .ok (.iload_n 2, 1) := by decide +kernel
theorem d_Pn_find_2 : decode b_Pn_find 2 = .ok (.invokestatic 67, 3) := by decide +kernel
theorem d_Pn_find_5 : decode b_Pn_find 5 = .ok (.aload_n 0, 1) := by decide +kernel
theorem d_Pn_find_6 : decode b_Pn_find 6 = .ok (.getfield 23, 3) := by decide +kernel
theorem d_Pn_find_9 : decode b_Pn_find 9 = .ok (.aload_n 0, 1) := by decide +kernel
theorem d_Pn_find_10 : decode b_Pn_find 10 = .ok (.getfield 23, 3) := by decide +kernel
theorem d_Pn_find_13 : decode b_Pn_find 13 = .ok (.getfield 71, 3) := by decide +kernel
theorem d_Pn_find_16 : decode b_Pn_find 16 = .ok (.iload_n 1, 1) := by decide +kernel
theorem d_Pn_find_17 : decode b_Pn_find 17 = .ok (.iload_n 2, 1) := by decide +kernel
theorem d_Pn_find_18 : decode b_Pn_find 18 = .ok (.invokevirtual 74, 3) := by decide +kernel
theorem d_Pn_find_21 : decode b_Pn_find 21 = .ok (.istore_n 3, 1) := by decide +kernel
theorem d_Pn_find_22 : decode b_Pn_find 22 = .ok (.aload_n 0, 1) := by decide +kernel
theorem d_Pn_find_23 : decode b_Pn_find 23 = .ok (.getfield 23, 3) := by decide +kernel
theorem d_Pn_find_26 : decode b_Pn_find 26 = .ok (.iload_n 3, 1) := by decide +kernel
theorem d_Pn_find_27 : decode b_Pn_find 27 = .ok (.iload_n 1, 1) := by decide +kernel
theorem d_Pn_find_28 : decode b_Pn_find 28 = .ok (.iload_n 2, 1) := by decide +kernel
theorem d_Pn_find_29 : decode b_Pn_find 29 = .ok (.invokevirtual 78, 3) := by decide +kernel
theorem d_Pn_find_32 : decode b_Pn_find 32 = .ok (.ifCond .eq 7, 3) := by decide +kernel
theorem d_Pn_find_35 : decode b_Pn_find 35 = .ok (.iload_n 3, 1) := by decide +kernel
theorem d_Pn_find_36 : decode b_Pn_find 36 = .ok (.goto 4, 3) := by decide +kernel
theorem d_Pn_find_39 : decode b_Pn_find 39 = .ok (.iconst (-1), 1) := by decide +kernel
theorem d_Pn_find_40 : decode b_Pn_find 40 = .ok (.ireturn, 1) := by decide +kernel
theorem d_Nt_solidCount_0 : decode b_Nt_solidCount 0 = .ok (.aload_n 0, 1) := by decide +kernel
theorem d_Nt_solidCount_1 : decode b_Nt_solidCount 1 = .ok (.getfield 51, 3) := by decide +kernel
theorem d_Nt_solidCount_4 : decode b_Nt_solidCount 4 = .ok (.aload_n 0, 1) := by decide +kernel
theorem d_Nt_solidCount_5 : decode b_Nt_solidCount 5 = .ok (.getfield 54, 3) := by decide +kernel
theorem d_Nt_solidCount_8 : decode b_Nt_solidCount 8 = .ok (.isub, 1) := by decide +kernel
theorem d_Nt_solidCount_9 : decode b_Nt_solidCount 9 = .ok (.ireturn, 1) := by decide +kernel
theorem d_Nt_edgeCount_0 : decode b_Nt_edgeCount 0 = .ok (.iconst 3, 1) := by decide +kernel
theorem d_Nt_edgeCount_1 : decode b_Nt_edgeCount 1 = .ok (.aload_n 0, 1) := by decide +kernel
theorem d_Nt_edgeCount_2 : decode b_Nt_edgeCount 2 = .ok (.getfield 51, 3) := by decide +kernel
theorem d_Nt_edgeCount_5 : decode b_Nt_edgeCount 5 = .ok (.imul, 1) := by decide +kernel
theorem d_Nt_edgeCount_6 : decode b_Nt_edgeCount 6 = .ok (.ireturn, 1) := by decide +kernel
theorem d_Nt_lowestFirst_0 : decode b_Nt_lowestFirst 0 = .ok (.iload_n 1, 1) := by decide +kernel
theorem d_Nt_lowestFirst_1 : decode b_Nt_lowestFirst 1 = .ok (.istore_n 2, 1) := by decide +kernel
theorem d_Nt_lowestFirst_2 : decode b_Nt_lowestFirst 2 = .ok (.iconst 1, 1) := by decide +kernel
theorem d_Nt_lowestFirst_3 : decode b_Nt_lowestFirst 3 = .ok (.istore_n 3, 1) := by decide +kernel
theorem d_Nt_lowestFirst_4 : decode b_Nt_lowestFirst 4 = .ok (.iload_n 3, 1) := by decide +kernel
theorem d_Nt_lowestFirst_5 : decode b_Nt_lowestFirst 5 = .ok (.iconst 3, 1) := by decide +kernel
theorem d_Nt_lowestFirst_6 : decode b_Nt_lowestFirst 6 = .ok (.if_icmp .ge 33, 3) := by decide +kernel
theorem d_Nt_lowestFirst_9 : decode b_Nt_lowestFirst 9 = .ok (.iload_n 1, 1) := by decide +kernel
theorem d_Nt_lowestFirst_10 : decode b_Nt_lowestFirst 10 = .ok (.iload_n 3, 1) := by decide +kernel
theorem d_Nt_lowestFirst_11 : decode b_Nt_lowestFirst 11 = .ok (.invokestatic 67, 3) := by decide +kernel
theorem d_Nt_lowestFirst_14 : decode b_Nt_lowestFirst 14 = .ok (.istore 4, 2) := by decide +kernel
theorem d_Nt_lowestFirst_16 : decode b_Nt_lowestFirst 16 = .ok (.aload_n 0, 1) := by decide +kernel
theorem d_Nt_lowestFirst_17 : decode b_Nt_lowestFirst 17 = .ok (.iload 4, 2) := by decide +kernel
theorem d_Nt_lowestFirst_19 : decode b_Nt_lowestFirst 19 = .ok (.invokevirtual 115, 3) := by decide +kernel
theorem d_Nt_lowestFirst_22 : decode b_Nt_lowestFirst 22 = .ok (.aload_n 0, 1) := by decide +kernel
theorem d_Nt_lowestFirst_23 : decode b_Nt_lowestFirst 23 = .ok (.iload_n 2, 1) := by decide +kernel
theorem d_Nt_lowestFirst_24 : decode b_Nt_lowestFirst 24 = .ok (.invokevirtual 115, 3) := by decide +kernel
theorem d_Nt_lowestFirst_27 : decode b_Nt_lowestFirst 27 = .ok (.if_icmp .ge 6, 3) := by decide +kernel
theorem d_Nt_lowestFirst_30 : decode b_Nt_lowestFirst 30 = .ok (.iload 4, 2) := by decide +kernel
theorem d_Nt_lowestFirst_32 : decode b_Nt_lowestFirst 32 = .ok (.istore_n 2, 1) := by decide +kernel
theorem d_Nt_lowestFirst_33 : decode b_Nt_lowestFirst 33 = .ok (.iinc 3 1, 3) := by decide +kernel
theorem d_Nt_lowestFirst_36 : decode b_Nt_lowestFirst 36 = .ok (.goto (-32), 3) := by decide +kernel
theorem d_Nt_lowestFirst_39 : decode b_Nt_lowestFirst 39 = .ok (.iload_n 2, 1) := by decide +kernel
theorem d_Nt_lowestFirst_40 : decode b_Nt_lowestFirst 40 = .ok (.ireturn, 1) := by decide +kernel
theorem d_Rl_gather_0 : decode b_Rl_gather 0 = .ok (.iconst 0, 1) := by decide +kernel
theorem d_Rl_gather_1 : decode b_Rl_gather 1 = .ok (.istore_n 1, 1) := by decide +kernel
theorem d_Rl_gather_2 : decode b_Rl_gather 2 = .ok (.iconst 0, 1) := by decide +kernel
theorem d_Rl_gather_3 : decode b_Rl_gather 3 = .ok (.istore_n 2, 1) := by decide +kernel
theorem d_Rl_gather_4 : decode b_Rl_gather 4 = .ok (.iload_n 2, 1) := by decide +kernel
theorem d_Rl_gather_5 : decode b_Rl_gather 5 = .ok (.aload_n 0, 1) := by decide +kernel
theorem d_Rl_gather_6 : decode b_Rl_gather 6 = .ok (.getfield 13, 3) := by decide +kernel
theorem d_Rl_gather_9 : decode b_Rl_gather 9 = .ok (.invokevirtual 60, 3) := by decide +kernel
theorem d_Rl_gather_12 : decode b_Rl_gather 12 = .ok (.if_icmp .ge 39, 3) := by decide +kernel
theorem d_Rl_gather_15 : decode b_Rl_gather 15 = .ok (.aload_n 0, 1) := by decide +kernel
theorem d_Rl_gather_16 : decode b_Rl_gather 16 = .ok (.getfield 13, 3) := by decide +kernel
theorem d_Rl_gather_19 : decode b_Rl_gather 19 = .ok (.iload_n 2, 1) := by decide +kernel
theorem d_Rl_gather_20 : decode b_Rl_gather 20 = .ok (.invokevirtual 65, 3) := by decide +kernel
theorem d_Rl_gather_23 : decode b_Rl_gather 23 = .ok (.ifCond .ne 22, 3) := by decide +kernel
theorem d_Rl_gather_26 : decode b_Rl_gather 26 = .ok (.aload_n 0, 1) := by decide +kernel
theorem d_Rl_gather_27 : decode b_Rl_gather 27 = .ok (.getfield 28, 3) := by decide +kernel
theorem d_Rl_gather_30 : decode b_Rl_gather 30 = .ok (.iload_n 1, 1) := by decide +kernel
theorem d_Rl_gather_31 : decode b_Rl_gather 31 = .ok (.aload_n 0, 1) := by decide +kernel
theorem d_Rl_gather_32 : decode b_Rl_gather 32 = .ok (.getfield 13, 3) := by decide +kernel
theorem d_Rl_gather_35 : decode b_Rl_gather 35 = .ok (.iload_n 2, 1) := by decide +kernel
theorem d_Rl_gather_36 : decode b_Rl_gather 36 = .ok (.invokevirtual 69, 3) := by decide +kernel
theorem d_Rl_gather_39 : decode b_Rl_gather 39 = .ok (.invokevirtual 72, 3) := by decide +kernel
theorem d_Rl_gather_42 : decode b_Rl_gather 42 = .ok (.iinc 1 1, 3) := by decide +kernel
theorem d_Rl_gather_45 : decode b_Rl_gather 45 = .ok (.iinc 2 3, 3) := by decide +kernel
theorem d_Rl_gather_48 : decode b_Rl_gather 48 = .ok (.goto (-44), 3) := by decide +kernel
theorem d_Rl_gather_51 : decode b_Rl_gather 51 = .ok (.iload_n 1, 1) := by decide +kernel
theorem d_Rl_gather_52 : decode b_Rl_gather 52 = .ok (.ireturn, 1) := by decide +kernel
theorem d_Rl_sortInto_0 : decode b_Rl_sortInto 0 = .ok (.iconst 0, 1) := by decide +kernel
theorem d_Rl_sortInto_1 : decode b_Rl_sortInto 1 = .ok (.istore 5, 2) := by decide +kernel
theorem d_Rl_sortInto_3 : decode b_Rl_sortInto 3 = .ok (.iload 5, 2) := by decide +kernel
theorem d_Rl_sortInto_5 : decode b_Rl_sortInto 5 = .ok (.aload_n 0, 1) := by decide +kernel
theorem d_Rl_sortInto_6 : decode b_Rl_sortInto 6 = .ok (.getfield 7, 3) := by decide +kernel
theorem d_Rl_sortInto_9 : decode b_Rl_sortInto 9 = .ok (.getfield 76, 3) := by decide +kernel
theorem d_Rl_sortInto_12 : decode b_Rl_sortInto 12 = .ok (.if_icmp .gt 19, 3) := by decide +kernel
theorem d_Rl_sortInto_15 : decode b_Rl_sortInto 15 = .ok (.aload_n 0, 1) := by decide +kernel
theorem d_Rl_sortInto_16 : decode b_Rl_sortInto 16 = .ok (.getfield 35, 3) := by decide +kernel
theorem d_Rl_sortInto_19 : decode b_Rl_sortInto 19 = .ok (.iload 5, 2) := by decide +kernel
theorem d_Rl_sortInto_21 : decode b_Rl_sortInto 21 = .ok (.iconst 0, 1) := by decide +kernel
theorem d_Rl_sortInto_22 : decode b_Rl_sortInto 22 = .ok (.invokevirtual 72, 3) := by decide +kernel
theorem d_Rl_sortInto_25 : decode b_Rl_sortInto 25 = .ok (.iinc 5 1, 3) := by decide +kernel
theorem d_Rl_sortInto_28 : decode b_Rl_sortInto 28 = .ok (.goto (-25), 3) := by decide +kernel
theorem d_Rl_sortInto_31 : decode b_Rl_sortInto 31 = .ok (.iconst 0, 1) := by decide +kernel
theorem d_Rl_sortInto_32 : decode b_Rl_sortInto 32 = .ok (.istore 5, 2) := by decide +kernel
theorem d_Rl_sortInto_34 : decode b_Rl_sortInto 34 = .ok (.iload 5, 2) := by decide +kernel
theorem d_Rl_sortInto_36 : decode b_Rl_sortInto 36 = .ok (.iload_n 3, 1) := by decide +kernel
theorem d_Rl_sortInto_37 : decode b_Rl_sortInto 37 = .ok (.if_icmp .ge 53, 3) := by decide +kernel
theorem d_Rl_sortInto_40 : decode b_Rl_sortInto 40 = .ok (.aload_n 0, 1) := by decide +kernel
theorem d_Rl_sortInto_41 : decode b_Rl_sortInto 41 = .ok (.getfield 13, 3) := by decide +kernel
theorem d_Rl_sortInto_44 : decode b_Rl_sortInto 44 = .ok (.aload_n 1, 1) := by decide +kernel
theorem d_Rl_sortInto_45 : decode b_Rl_sortInto 45 = .ok (.iload 5, 2) := by decide +kernel
theorem d_Rl_sortInto_47 : decode b_Rl_sortInto 47 = .ok (.invokevirtual 48, 3) := by decide +kernel
theorem d_Rl_sortInto_50 : decode b_Rl_sortInto 50 = .ok (.iload 4, 2) := by decide +kernel
theorem d_Rl_sortInto_52 : decode b_Rl_sortInto 52 = .ok (.invokestatic 79, 3) := by decide +kernel
theorem d_Rl_sortInto_55 : decode b_Rl_sortInto 55 = .ok (.invokevirtual 83, 3) := by decide +kernel
theorem d_Rl_sortInto_58 : decode b_Rl_sortInto 58 = .ok (.istore 6, 2) := by decide +kernel
theorem d_Rl_sortInto_60 : decode b_Rl_sortInto 60 = .ok (.aload_n 0, 1) := by decide +kernel
theorem d_Rl_sortInto_61 : decode b_Rl_sortInto 61 = .ok (.getfield 35, 3) := by decide +kernel
theorem d_Rl_sortInto_64 : decode b_Rl_sortInto 64 = .ok (.iload 6, 2) := by decide +kernel
theorem d_Rl_sortInto_66 : decode b_Rl_sortInto 66 = .ok (.iconst 1, 1) := by decide +kernel
theorem d_Rl_sortInto_67 : decode b_Rl_sortInto 67 = .ok (.iadd, 1) := by decide +kernel
theorem d_Rl_sortInto_68 : decode b_Rl_sortInto 68 = .ok (.aload_n 0, 1) := by decide +kernel
theorem d_Rl_sortInto_69 : decode b_Rl_sortInto 69 = .ok (.getfield 35, 3) := by decide +kernel
theorem d_Rl_sortInto_72 : decode b_Rl_sortInto 72 = .ok (.iload 6, 2) := by decide +kernel
theorem d_Rl_sortInto_74 : decode b_Rl_sortInto 74 = .ok (.iconst 1, 1) := by decide +kernel
theorem d_Rl_sortInto_75 : decode b_Rl_sortInto 75 = .ok (.iadd, 1) := by decide +kernel
theorem d_Rl_sortInto_76 : decode b_Rl_sortInto 76 = .ok (.invokevirtual 48, 3) := by decide +kernel
theorem d_Rl_sortInto_79 : decode b_Rl_sortInto 79 = .ok (.iconst 1, 1) := by decide +kernel
theorem d_Rl_sortInto_80 : decode b_Rl_sortInto 80 = .ok (.iadd, 1) := by decide +kernel
theorem d_Rl_sortInto_81 : decode b_Rl_sortInto 81 = .ok (.invokevirtual 72, 3) := by decide +kernel
theorem d_Rl_sortInto_84 : decode b_Rl_sortInto 84 = .ok (.iinc 5 1, 3) := by decide +kernel
theorem d_Rl_sortInto_87 : decode b_Rl_sortInto 87 = .ok (.goto (-53), 3) := by decide +kernel
theorem d_Rl_sortInto_90 : decode b_Rl_sortInto 90 = .ok (.iconst 1, 1) := by decide +kernel
theorem d_Rl_sortInto_91 : decode b_Rl_sortInto 91 = .ok (.istore 5, 2) := by decide +kernel
theorem d_Rl_sortInto_93 : decode b_Rl_sortInto 93 = .ok (.iload 5, 2) := by decide +kernel
theorem d_Rl_sortInto_95 : decode b_Rl_sortInto 95 = .ok (.aload_n 0, 1) := by decide +kernel
theorem d_Rl_sortInto_96 : decode b_Rl_sortInto 96 = .ok (.getfield 7, 3) := by decide +kernel
theorem d_Rl_sortInto_99 : decode b_Rl_sortInto 99 = .ok (.getfield 76, 3) := by decide +kernel
theorem d_Rl_sortInto_102 : decode b_Rl_sortInto 102 = .ok (.if_icmp .ge 39, 3) := by decide +kernel
theorem d_Rl_sortInto_105 : decode b_Rl_sortInto 105 = .ok (.aload_n 0, 1) := by decide +kernel
theorem d_Rl_sortInto_106 : decode b_Rl_sortInto 106 = .ok (.getfield 35, 3) := by decide +kernel
theorem d_Rl_sortInto_109 : decode b_Rl_sortInto 109 = .ok (.iload 5, 2) := by decide +kernel
theorem d_Rl_sortInto_111 : decode b_Rl_sortInto 111 = .ok (.aload_n 0, 1) := by decide +kernel
theorem d_Rl_sortInto_112 : decode b_Rl_sortInto 112 = .ok (.getfield 35, 3) := by decide +kernel
theorem d_Rl_sortInto_115 : decode b_Rl_sortInto 115 = .ok (.iload 5, 2) := by decide +kernel
theorem d_Rl_sortInto_117 : decode b_Rl_sortInto 117 = .ok (.invokevirtual 48, 3) := by decide +kernel
theorem d_Rl_sortInto_120 : decode b_Rl_sortInto 120 = .ok (.aload_n 0, 1) := by decide +kernel
theorem d_Rl_sortInto_121 : decode b_Rl_sortInto 121 = .ok (.getfield 35, 3) := by decide +kernel
theorem d_Rl_sortInto_124 : decode b_Rl_sortInto 124 = .ok (.iload 5, 2) := by decide +kernel
theorem d_Rl_sortInto_126 : decode b_Rl_sortInto 126 = .ok (.iconst 1, 1) := by decide +kernel
theorem d_Rl_sortInto_127 : decode b_Rl_sortInto 127 = .ok (.isub, 1) := by decide +kernel
theorem d_Rl_sortInto_128 : decode b_Rl_sortInto 128 = .ok (.invokevirtual 48, 3) := by decide +kernel
theorem d_Rl_sortInto_131 : decode b_Rl_sortInto 131 = .ok (.iadd, 1) := by decide +kernel
theorem d_Rl_sortInto_132 : decode b_Rl_sortInto 132 = .ok (.invokevirtual 72, 3) := by decide +kernel
theorem d_Rl_sortInto_135 : decode b_Rl_sortInto 135 = .ok (.iinc 5 1, 3) := by decide +kernel
theorem d_Rl_sortInto_138 : decode b_Rl_sortInto 138 = .ok (.goto (-45), 3) := by decide +kernel
theorem d_Rl_sortInto_141 : decode b_Rl_sortInto 141 = .ok (.iconst 0, 1) := by decide +kernel
theorem d_Rl_sortInto_142 : decode b_Rl_sortInto 142 = .ok (.istore 5, 2) := by decide +kernel
theorem d_Rl_sortInto_144 : decode b_Rl_sortInto 144 = .ok (.iload 5, 2) := by decide +kernel
theorem d_Rl_sortInto_146 : decode b_Rl_sortInto 146 = .ok (.iload_n 3, 1) := by decide +kernel
theorem d_Rl_sortInto_147 : decode b_Rl_sortInto 147 = .ok (.if_icmp .ge 65, 3) := by decide +kernel
theorem d_Rl_sortInto_150 : decode b_Rl_sortInto 150 = .ok (.aload_n 1, 1) := by decide +kernel
theorem d_Rl_sortInto_151 : decode b_Rl_sortInto 151 = .ok (.iload 5, 2) := by decide +kernel
theorem d_Rl_sortInto_153 : decode b_Rl_sortInto 153 = .ok (.invokevirtual 48, 3) := by decide +kernel
theorem d_Rl_sortInto_156 : decode b_Rl_sortInto 156 = .ok (.istore 6, 2) := by decide +kernel
theorem d_Rl_sortInto_158 : decode b_Rl_sortInto 158 = .ok (.aload_n 0, 1) := by decide +kernel
theorem d_Rl_sortInto_159 : decode b_Rl_sortInto 159 = .ok (.getfield 13, 3) := by decide +kernel
theorem d_Rl_sortInto_162 : decode b_Rl_sortInto 162 = .ok (.iload 6, 2) := by decide +kernel
theorem d_Rl_sortInto_164 : decode b_Rl_sortInto 164 = .ok (.iload 4, 2) := by decide +kernel
theorem d_Rl_sortInto_166 : decode b_Rl_sortInto 166 = .ok (.invokestatic 79, 3) := by decide +kernel
theorem d_Rl_sortInto_169 : decode b_Rl_sortInto 169 = .ok (.invokevirtual 83, 3) := by decide +kernel
theorem d_Rl_sortInto_172 : decode b_Rl_sortInto 172 = .ok (.istore 7, 2) := by decide +kernel
theorem d_Rl_sortInto_174 : decode b_Rl_sortInto 174 = .ok (.aload_n 0, 1) := by decide +kernel
theorem d_Rl_sortInto_175 : decode b_Rl_sortInto 175 = .ok (.getfield 35, 3) := by decide +kernel
theorem d_Rl_sortInto_178 : decode b_Rl_sortInto 178 = .ok (.iload 7, 2) := by decide +kernel
theorem d_Rl_sortInto_180 : decode b_Rl_sortInto 180 = .ok (.invokevirtual 48, 3) := by decide +kernel
theorem d_Rl_sortInto_183 : decode b_Rl_sortInto 183 = .ok (.istore 8, 2) := by decide +kernel
theorem d_Rl_sortInto_185 : decode b_Rl_sortInto 185 = .ok (.aload_n 2, 1) := by decide +kernel
theorem d_Rl_sortInto_186 : decode b_Rl_sortInto 186 = .ok (.iload 8, 2) := by decide +kernel
theorem d_Rl_sortInto_188 : decode b_Rl_sortInto 188 = .ok (.iload 6, 2) := by decide +kernel
theorem d_Rl_sortInto_190 : decode b_Rl_sortInto 190 = .ok (.invokevirtual 72, 3) := by decide +kernel
theorem d_Rl_sortInto_193 : decode b_Rl_sortInto 193 = .ok (.aload_n 0, 1) := by decide +kernel
theorem d_Rl_sortInto_194 : decode b_Rl_sortInto 194 = .ok (.getfield 35, 3) := by decide +kernel
theorem d_Rl_sortInto_197 : decode b_Rl_sortInto 197 = .ok (.iload 7, 2) := by decide +kernel
theorem d_Rl_sortInto_199 : decode b_Rl_sortInto 199 = .ok (.iload 8, 2) := by decide +kernel
theorem d_Rl_sortInto_201 : decode b_Rl_sortInto 201 = .ok (.iconst 1, 1) := by decide +kernel
theorem d_Rl_sortInto_202 : decode b_Rl_sortInto 202 = .ok (.iadd, 1) := by decide +kernel
theorem d_Rl_sortInto_203 : decode b_Rl_sortInto 203 = .ok (.invokevirtual 72, 3) := by decide +kernel
theorem d_Rl_sortInto_206 : decode b_Rl_sortInto 206 = .ok (.iinc 5 1, 3) := by decide +kernel
theorem d_Rl_sortInto_209 : decode b_Rl_sortInto 209 = .ok (.goto (-65), 3) := by decide +kernel
theorem d_Rl_sortInto_212 : decode b_Rl_sortInto 212 = .ok (.return_, 1) := by decide +kernel
theorem d_Rl_sortAll_0 : decode b_Rl_sortAll 0 = .ok (.aload_n 0, 1) := by decide +kernel
theorem d_Rl_sortAll_1 : decode b_Rl_sortAll 1 = .ok (.invokevirtual 52, 3) := by decide +kernel
theorem d_Rl_sortAll_4 : decode b_Rl_sortAll 4 = .ok (.istore_n 1, 1) := by decide +kernel
theorem d_Rl_sortAll_5 : decode b_Rl_sortAll 5 = .ok (.aload_n 0, 1) := by decide +kernel
theorem d_Rl_sortAll_6 : decode b_Rl_sortAll 6 = .ok (.aload_n 0, 1) := by decide +kernel
theorem d_Rl_sortAll_7 : decode b_Rl_sortAll 7 = .ok (.getfield 28, 3) := by decide +kernel
theorem d_Rl_sortAll_10 : decode b_Rl_sortAll 10 = .ok (.aload_n 0, 1) := by decide +kernel
theorem d_Rl_sortAll_11 : decode b_Rl_sortAll 11 = .ok (.getfield 32, 3) := by decide +kernel
theorem d_Rl_sortAll_14 : decode b_Rl_sortAll 14 = .ok (.iload_n 1, 1) := by decide +kernel
theorem d_Rl_sortAll_15 : decode b_Rl_sortAll 15 = .ok (.iconst 1, 1) := by decide +kernel
theorem d_Rl_sortAll_16 : decode b_Rl_sortAll 16 = .ok (.invokevirtual 56, 3) := by decide +kernel
theorem d_Rl_sortAll_19 : decode b_Rl_sortAll 19 = .ok (.aload_n 0, 1) := by decide +kernel
theorem d_Rl_sortAll_20 : decode b_Rl_sortAll 20 = .ok (.aload_n 0, 1) := by decide +kernel
theorem d_Rl_sortAll_21 : decode b_Rl_sortAll 21 = .ok (.getfield 32, 3) := by decide +kernel
theorem d_Rl_sortAll_24 : decode b_Rl_sortAll 24 = .ok (.aload_n 0, 1) := by decide +kernel
theorem d_Rl_sortAll_25 : decode b_Rl_sortAll 25 = .ok (.getfield 28, 3) := by decide +kernel
theorem d_Rl_sortAll_28 : decode b_Rl_sortAll 28 = .ok (.iload_n 1, 1) := by decide +kernel
theorem d_Rl_sortAll_29 : decode b_Rl_sortAll 29 = .ok (.iconst 0, 1) := by decide +kernel
theorem d_Rl_sortAll_30 : decode b_Rl_sortAll 30 = .ok (.invokevirtual 56, 3) := by decide +kernel
theorem d_Rl_sortAll_33 : decode b_Rl_sortAll 33 = .ok (.aload_n 0, 1) := by decide +kernel
theorem d_Rl_sortAll_34 : decode b_Rl_sortAll 34 = .ok (.iconst 1, 1) := by decide +kernel
theorem d_Rl_sortAll_35 : decode b_Rl_sortAll 35 = .ok (.putfield 38, 3) := by decide +kernel
theorem d_Rl_sortAll_38 : decode b_Rl_sortAll 38 = .ok (.return_, 1) := by decide +kernel
theorem d_Rl_edge_0 : decode b_Rl_edge 0 = .ok (.aload_n 0, 1) := by decide +kernel
theorem d_Rl_edge_1 : decode b_Rl_edge 1 = .ok (.getfield 38, 3) := by decide +kernel
theorem d_Rl_edge_4 : decode b_Rl_edge 4 = .ok (.ifCond .ne 7, 3) := by decide +kernel
theorem d_Rl_edge_7 : decode b_Rl_edge 7 = .ok (.aload_n 0, 1) := by decide +kernel
theorem d_Rl_edge_8 : decode b_Rl_edge 8 = .ok (.invokevirtual 45, 3) := by decide +kernel
theorem d_Rl_edge_11 : decode b_Rl_edge 11 = .ok (.aload_n 0, 1) := by decide +kernel
theorem d_Rl_edge_12 : decode b_Rl_edge 12 = .ok (.getfield 28, 3) := by decide +kernel
theorem d_Rl_edge_15 : decode b_Rl_edge 15 = .ok (.iload_n 1, 1) := by decide +kernel
theorem d_Rl_edge_16 : decode b_Rl_edge 16 = .ok (.invokevirtual 48, 3) := by decide +kernel
theorem d_Rl_edge_19 : decode b_Rl_edge 19 = .ok (.ireturn, 1) := by decide +kernel
theorem d_Pn_triangle_0 : decode b_Pn_triangle 0 = .ok (.iload_n 1, 1) := by decide +kernel
theorem d_Pn_triangle_1 : decode b_Pn_triangle 1 = .ok (.ifCond .lt 23, 3) := by decide +kernel
theorem d_Pn_triangle_4 : decode b_Pn_triangle 4 = .ok (.iload_n 1, 1) := by decide +kernel
theorem d_Pn_triangle_5 : decode b_Pn_triangle 5 = .ok (.aload_n 0, 1) := by decide +kernel
theorem d_Pn_triangle_6 : decode b_Pn_triangle 6 = .ok (.getfield 32, 3) := by decide +kernel
theorem d_Pn_triangle_9 : decode b_Pn_triangle 9 = .ok (.invokevirtual 117, 3) := by decide +kernel
theorem d_Pn_triangle_12 : decode b_Pn_triangle 12 = .ok (.if_icmp .ge 12, 3) := by decide +kernel
theorem d_Pn_triangle_15 : decode b_Pn_triangle 15 = .ok (.iload_n 2, 1) := by decide +kernel
theorem d_Pn_triangle_16 : decode b_Pn_triangle 16 = .ok (.ifCond .lt 8, 3) := by decide +kernel
theorem d_Pn_triangle_19 : decode b_Pn_triangle 19 = .ok (.iload_n 2, 1) := by decide +kernel
theorem d_Pn_triangle_20 : decode b_Pn_triangle 20 = .ok (.iconst 2, 1) := by decide +kernel
theorem d_Pn_triangle_21 : decode b_Pn_triangle 21 = .ok (.if_icmp .le 13, 3) := by decide +kernel
theorem d_Pn_triangle_24 : decode b_Pn_triangle 24 = .ok (.new 121, 3) := by decide +kernel
theorem d_Pn_triangle_27 : decode b_Pn_triangle 27 = .ok (.dup, 1) := by decide +kernel
theorem d_Pn_triangle_28 : decode b_Pn_triangle 28 = .ok (.ldc 123, 2) := by decide +kernel
theorem d_Pn_triangle_30 : decode b_Pn_triangle 30 = .ok (.invokespecial 125, 3) := by decide +kernel
theorem d_Pn_triangle_33 : decode b_Pn_triangle 33 = .ok (.athrow, 1) := by decide +kernel
theorem d_Pn_triangle_34 : decode b_Pn_triangle 34 = .ok (.aload_n 0, 1) := by decide +kernel
theorem d_Pn_triangle_35 : decode b_Pn_triangle 35 = .ok (.getfield 32, 3) := by decide +kernel
theorem d_Pn_triangle_38 : decode b_Pn_triangle 38 = .ok (.aload_n 0, 1) := by decide +kernel
theorem d_Pn_triangle_39 : decode b_Pn_triangle 39 = .ok (.getfield 41, 3) := by decide +kernel
theorem d_Pn_triangle_42 : decode b_Pn_triangle 42 = .ok (.iload_n 1, 1) := by decide +kernel
theorem d_Pn_triangle_43 : decode b_Pn_triangle 43 = .ok (.invokevirtual 126, 3) := by decide +kernel
theorem d_Pn_triangle_46 : decode b_Pn_triangle 46 = .ok (.iload_n 2, 1) := by decide +kernel
theorem d_Pn_triangle_47 : decode b_Pn_triangle 47 = .ok (.invokestatic 130, 3) := by decide +kernel
theorem d_Pn_triangle_50 : decode b_Pn_triangle 50 = .ok (.invokevirtual 133, 3) := by decide +kernel
theorem d_Pn_triangle_53 : decode b_Pn_triangle 53 = .ok (.ireturn, 1) := by decide +kernel
theorem d_Pn_checkNumber_0 : decode b_Pn_checkNumber 0 = .ok (.iload_n 1, 1) := by decide +kernel
theorem d_Pn_checkNumber_1 : decode b_Pn_checkNumber 1 = .ok (.ifCond .lt 14, 3) := by decide +kernel
theorem d_Pn_checkNumber_4 : decode b_Pn_checkNumber 4 = .ok (.iload_n 1, 1) := by decide +kernel
theorem d_Pn_checkNumber_5 : decode b_Pn_checkNumber 5 = .ok (.aload_n 0, 1) := by decide +kernel
theorem d_Pn_checkNumber_6 : decode b_Pn_checkNumber 6 = .ok (.getfield 23, 3) := by decide +kernel
theorem d_Pn_checkNumber_9 : decode b_Pn_checkNumber 9 = .ok (.getfield 71, 3) := by decide +kernel
theorem d_Pn_checkNumber_12 : decode b_Pn_checkNumber 12 = .ok (.if_icmp .lt 13, 3) := by decide +kernel
theorem d_Pn_checkNumber_15 : decode b_Pn_checkNumber 15 = .ok (.new 121, 3) := by decide +kernel
theorem d_Pn_checkNumber_18 : decode b_Pn_checkNumber 18 = .ok (.dup, 1) := by decide +kernel
theorem d_Pn_checkNumber_19 : decode b_Pn_checkNumber 19 = .ok (.ldc 188, 2) := by decide +kernel
theorem d_Pn_checkNumber_21 : decode b_Pn_checkNumber 21 = .ok (.invokespecial 125, 3) := by decide +kernel
theorem d_Pn_checkNumber_24 : decode b_Pn_checkNumber 24 = .ok (.athrow, 1) := by decide +kernel
theorem d_Pn_checkNumber_25 : decode b_Pn_checkNumber 25 = .ok (.return_, 1) := by decide +kernel
theorem d_Nt_leftOf_0 : decode b_Nt_leftOf 0 = .ok (.aload_n 0, 1) := by decide +kernel
theorem d_Nt_leftOf_1 : decode b_Nt_leftOf 1 = .ok (.getfield 33, 3) := by decide +kernel
theorem d_Nt_leftOf_4 : decode b_Nt_leftOf 4 = .ok (.iload_n 1, 1) := by decide +kernel
theorem d_Nt_leftOf_5 : decode b_Nt_leftOf 5 = .ok (.iconst 2, 1) := by decide +kernel
theorem d_Nt_leftOf_6 : decode b_Nt_leftOf 6 = .ok (.invokestatic 67, 3) := by decide +kernel
theorem d_Nt_leftOf_9 : decode b_Nt_leftOf 9 = .ok (.invokevirtual 63, 3) := by decide +kernel
theorem d_Nt_leftOf_12 : decode b_Nt_leftOf 12 = .ok (.ireturn, 1) := by decide +kernel
theorem d_Nt_degree_0 : decode b_Nt_degree 0 = .ok (.aload_n 0, 1) := by decide +kernel
theorem d_Nt_degree_1 : decode b_Nt_degree 1 = .ok (.getfield 36, 3) := by decide +kernel
theorem d_Nt_degree_4 : decode b_Nt_degree 4 = .ok (.aload_n 0, 1) := by decide +kernel
theorem d_Nt_degree_5 : decode b_Nt_degree 5 = .ok (.iload_n 1, 1) := by decide +kernel
theorem d_Nt_degree_6 : decode b_Nt_degree 6 = .ok (.invokevirtual 85, 3) := by decide +kernel
theorem d_Nt_degree_9 : decode b_Nt_degree 9 = .ok (.invokevirtual 63, 3) := by decide +kernel
theorem d_Nt_degree_12 : decode b_Nt_degree 12 = .ok (.istore_n 2, 1) := by decide +kernel
theorem d_Nt_degree_13 : decode b_Nt_degree 13 = .ok (.iload_n 2, 1) := by decide +kernel
theorem d_Nt_degree_14 : decode b_Nt_degree 14 = .ok (.istore_n 3, 1) := by decide +kernel
theorem d_Nt_degree_15 : decode b_Nt_degree 15 = .ok (.iconst 0, 1) := by decide +kernel
theorem d_Nt_degree_16 : decode b_Nt_degree 16 = .ok (.istore 4, 2) := by decide +kernel
theorem d_Nt_degree_18 : decode b_Nt_degree 18 = .ok (.iconst 0, 1) := by decide +kernel
theorem d_Nt_degree_19 : decode b_Nt_degree 19 = .ok (.istore 5, 2) := by decide +kernel
theorem d_Nt_degree_21 : decode b_Nt_degree 21 = .ok (.iload 5, 2) := by decide +kernel
theorem d_Nt_degree_23 : decode b_Nt_degree 23 = .ok (.aload_n 0, 1) := by decide +kernel
theorem d_Nt_degree_24 : decode b_Nt_degree 24 = .ok (.getfield 21, 3) := by decide +kernel
theorem d_Nt_degree_27 : decode b_Nt_degree 27 = .ok (.if_icmp .gt 38, 3) := by decide +kernel
theorem d_Nt_degree_30 : decode b_Nt_degree 30 = .ok (.aload_n 0, 1) := by decide +kernel
theorem d_Nt_degree_31 : decode b_Nt_degree 31 = .ok (.iload_n 3, 1) := by decide +kernel
theorem d_Nt_degree_32 : decode b_Nt_degree 32 = .ok (.invokevirtual 118, 3) := by decide +kernel
theorem d_Nt_degree_35 : decode b_Nt_degree 35 = .ok (.aload_n 0, 1) := by decide +kernel
theorem d_Nt_degree_36 : decode b_Nt_degree 36 = .ok (.getfield 21, 3) := by decide +kernel
theorem d_Nt_degree_39 : decode b_Nt_degree 39 = .ok (.if_icmp .eq 6, 3) := by decide +kernel
theorem d_Nt_degree_42 : decode b_Nt_degree 42 = .ok (.iinc 4 1, 3) := by decide +kernel
theorem d_Nt_degree_45 : decode b_Nt_degree 45 = .ok (.aload_n 0, 1) := by decide +kernel
theorem d_Nt_degree_46 : decode b_Nt_degree 46 = .ok (.iload_n 3, 1) := by decide +kernel
theorem d_Nt_degree_47 : decode b_Nt_degree 47 = .ok (.invokevirtual 138, 3) := by decide +kernel
theorem d_Nt_degree_50 : decode b_Nt_degree 50 = .ok (.istore_n 3, 1) := by decide +kernel
theorem d_Nt_degree_51 : decode b_Nt_degree 51 = .ok (.iload_n 3, 1) := by decide +kernel
theorem d_Nt_degree_52 : decode b_Nt_degree 52 = .ok (.iload_n 2, 1) := by decide +kernel
theorem d_Nt_degree_53 : decode b_Nt_degree 53 = .ok (.if_icmp .ne 6, 3) := by decide +kernel
theorem d_Nt_degree_56 : decode b_Nt_degree 56 = .ok (.goto 9, 3) := by decide +kernel
theorem d_Nt_degree_59 : decode b_Nt_degree 59 = .ok (.iinc 5 1, 3) := by decide +kernel
theorem d_Nt_degree_62 : decode b_Nt_degree 62 = .ok (.goto (-41), 3) := by decide +kernel
theorem d_Nt_degree_65 : decode b_Nt_degree 65 = .ok (.iload 4, 2) := by decide +kernel
theorem d_Nt_degree_67 : decode b_Nt_degree 67 = .ok (.ireturn, 1) := by decide +kernel
theorem d_Pt_isBelow_0 : decode b_Pt_isBelow 0 = .ok (.aload_n 0, 1) := by decide +kernel
theorem d_Pt_isBelow_1 : decode b_Pt_isBelow 1 = .ok (.getfield 23, 3) := by decide +kernel
theorem d_Pt_isBelow_4 : decode b_Pt_isBelow 4 = .ok (.iload_n 1, 1) := by decide +kernel
theorem d_Pt_isBelow_5 : decode b_Pt_isBelow 5 = .ok (.invokevirtual 44, 3) := by decide +kernel
theorem d_Pt_isBelow_8 : decode b_Pt_isBelow 8 = .ok (.iload_n 2, 1) := by decide +kernel
theorem d_Pt_isBelow_9 : decode b_Pt_isBelow 9 = .ok (.if_icmp .lt 27, 3) := by decide +kernel
theorem d_Pt_isBelow_12 : decode b_Pt_isBelow 12 = .ok (.aload_n 0, 1) := by decide +kernel
theorem d_Pt_isBelow_13 : decode b_Pt_isBelow 13 = .ok (.getfield 23, 3) := by decide +kernel
theorem d_Pt_isBelow_16 : decode b_Pt_isBelow 16 = .ok (.iload_n 1, 1) := by decide +kernel
theorem d_Pt_isBelow_17 : decode b_Pt_isBelow 17 = .ok (.invokevirtual 44, 3) := by decide +kernel
theorem d_Pt_isBelow_20 : decode b_Pt_isBelow 20 = .ok (.iload_n 2, 1) := by decide +kernel
theorem d_Pt_isBelow_21 : decode b_Pt_isBelow 21 = .ok (.if_icmp .ne 19, 3) := by decide +kernel
theorem d_Pt_isBelow_24 : decode b_Pt_isBelow 24 = .ok (.aload_n 0, 1) := by decide +kernel
theorem d_Pt_isBelow_25 : decode b_Pt_isBelow 25 = .ok (.getfield 27, 3) := by decide +kernel
theorem d_Pt_isBelow_28 : decode b_Pt_isBelow 28 = .ok (.iload_n 1, 1) := by decide +kernel
theorem d_Pt_isBelow_29 : decode b_Pt_isBelow 29 = .ok (.invokevirtual 44, 3) := by decide +kernel
theorem d_Pt_isBelow_32 : decode b_Pt_isBelow 32 = .ok (.iload_n 3, 1) := by decide +kernel
theorem d_Pt_isBelow_33 : decode b_Pt_isBelow 33 = .ok (.if_icmp .ge 7, 3) := by decide +kernel
theorem d_Pt_isBelow_36 : decode b_Pt_isBelow 36 = .ok (.iconst 1, 1) := by decide +kernel
theorem d_Pt_isBelow_37 : decode b_Pt_isBelow 37 = .ok (.goto 4, 3) := by decide +kernel
theorem d_Pt_isBelow_40 : decode b_Pt_isBelow 40 = .ok (.iconst 0, 1) := by decide +kernel
theorem d_Pt_isBelow_41 : decode b_Pt_isBelow 41 = .ok (.ireturn, 1) := by decide +kernel
theorem d_Pt_greatestBelow_0 : decode b_Pt_greatestBelow 0 = .ok (.iconst (-1), 1) := by decide +kernel
theorem d_Pt_greatestBelow_1 : decode b_Pt_greatestBelow 1 = .ok (.istore_n 3, 1) := by decide +kernel
theorem d_Pt_greatestBelow_2 : decode b_Pt_greatestBelow 2 = .ok (.iconst 0, 1) := by decide +kernel
theorem d_Pt_greatestBelow_3 : decode b_Pt_greatestBelow 3 = .ok (.istore 4, 2) := by decide +kernel
theorem d_Pt_greatestBelow_5 : decode b_Pt_greatestBelow 5 = .ok (.iload 4, 2) := by decide +kernel
theorem d_Pt_greatestBelow_7 : decode b_Pt_greatestBelow 7 = .ok (.aload_n 0, 1) := by decide +kernel
theorem d_Pt_greatestBelow_8 : decode b_Pt_greatestBelow 8 = .ok (.getfield 15, 3) := by decide +kernel
theorem d_Pt_greatestBelow_11 : decode b_Pt_greatestBelow 11 = .ok (.if_icmp .ge 38, 3) := by decide +kernel
theorem d_Pt_greatestBelow_14 : decode b_Pt_greatestBelow 14 = .ok (.aload_n 0, 1) := by decide +kernel
theorem d_Pt_greatestBelow_15 : decode b_Pt_greatestBelow 15 = .ok (.iload 4, 2) := by decide +kernel
theorem d_Pt_greatestBelow_17 : decode b_Pt_greatestBelow 17 = .ok (.iload_n 1, 1) := by decide +kernel
theorem d_Pt_greatestBelow_18 : decode b_Pt_greatestBelow 18 = .ok (.iload_n 2, 1) := by decide +kernel
theorem d_Pt_greatestBelow_19 : decode b_Pt_greatestBelow 19 = .ok (.invokevirtual 60, 3) := by decide +kernel
theorem d_Pt_greatestBelow_22 : decode b_Pt_greatestBelow 22 = .ok (.ifCond .eq 21, 3) := by decide +kernel
theorem d_Pt_greatestBelow_25 : decode b_Pt_greatestBelow 25 = .ok (.iload_n 3, 1) := by decide +kernel
theorem d_Pt_greatestBelow_26 : decode b_Pt_greatestBelow 26 = .ok (.iconst (-1), 1) := by decide +kernel
theorem d_Pt_greatestBelow_27 : decode b_Pt_greatestBelow 27 = .ok (.if_icmp .eq 13, 3) := by decide +kernel
theorem d_Pt_greatestBelow_30 : decode b_Pt_greatestBelow 30 = .ok (.aload_n 0, 1) := by decide +kernel
theorem d_Pt_greatestBelow_31 : decode b_Pt_greatestBelow 31 = .ok (.iload_n 3, 1) := by decide +kernel
theorem d_Pt_greatestBelow_32 : decode b_Pt_greatestBelow 32 = .ok (.iload 4, 2) := by decide +kernel
theorem d_Pt_greatestBelow_34 : decode b_Pt_greatestBelow 34 = .ok (.invokevirtual 56, 3) := by decide +kernel
theorem d_Pt_greatestBelow_37 : decode b_Pt_greatestBelow 37 = .ok (.ifCond .eq 6, 3) := by decide +kernel
theorem d_Pt_greatestBelow_40 : decode b_Pt_greatestBelow 40 = .ok (.iload 4, 2) := by decide +kernel
theorem d_Pt_greatestBelow_42 : decode b_Pt_greatestBelow 42 = .ok (.istore_n 3, 1) := by decide +kernel
theorem d_Pt_greatestBelow_43 : decode b_Pt_greatestBelow 43 = .ok (.iinc 4 1, 3) := by decide +kernel
theorem d_Pt_greatestBelow_46 : decode b_Pt_greatestBelow 46 = .ok (.goto (-41), 3) := by decide +kernel
theorem d_Pt_greatestBelow_49 : decode b_Pt_greatestBelow 49 = .ok (.iload_n 3, 1) := by decide +kernel
theorem d_Pt_greatestBelow_50 : decode b_Pt_greatestBelow 50 = .ok (.ireturn, 1) := by decide +kernel
theorem d_Pt_isAbove_0 : decode b_Pt_isAbove 0 = .ok (.aload_n 0, 1) := by decide +kernel
theorem d_Pt_isAbove_1 : decode b_Pt_isAbove 1 = .ok (.getfield 23, 3) := by decide +kernel
theorem d_Pt_isAbove_4 : decode b_Pt_isAbove 4 = .ok (.iload_n 1, 1) := by decide +kernel
theorem d_Pt_isAbove_5 : decode b_Pt_isAbove 5 = .ok (.invokevirtual 44, 3) := by decide +kernel
theorem d_Pt_isAbove_8 : decode b_Pt_isAbove 8 = .ok (.iload_n 2, 1) := by decide +kernel
theorem d_Pt_isAbove_9 : decode b_Pt_isAbove 9 = .ok (.if_icmp .gt 27, 3) := by decide +kernel
theorem d_Pt_isAbove_12 : decode b_Pt_isAbove 12 = .ok (.aload_n 0, 1) := by decide +kernel
theorem d_Pt_isAbove_13 : decode b_Pt_isAbove 13 = .ok (.getfield 23, 3) := by decide +kernel
theorem d_Pt_isAbove_16 : decode b_Pt_isAbove 16 = .ok (.iload_n 1, 1) := by decide +kernel
theorem d_Pt_isAbove_17 : decode b_Pt_isAbove 17 = .ok (.invokevirtual 44, 3) := by decide +kernel
theorem d_Pt_isAbove_20 : decode b_Pt_isAbove 20 = .ok (.iload_n 2, 1) := by decide +kernel
theorem d_Pt_isAbove_21 : decode b_Pt_isAbove 21 = .ok (.if_icmp .ne 19, 3) := by decide +kernel
theorem d_Pt_isAbove_24 : decode b_Pt_isAbove 24 = .ok (.aload_n 0, 1) := by decide +kernel
theorem d_Pt_isAbove_25 : decode b_Pt_isAbove 25 = .ok (.getfield 27, 3) := by decide +kernel
theorem d_Pt_isAbove_28 : decode b_Pt_isAbove 28 = .ok (.iload_n 1, 1) := by decide +kernel
theorem d_Pt_isAbove_29 : decode b_Pt_isAbove 29 = .ok (.invokevirtual 44, 3) := by decide +kernel
theorem d_Pt_isAbove_32 : decode b_Pt_isAbove 32 = .ok (.iload_n 3, 1) := by decide +kernel
theorem d_Pt_isAbove_33 : decode b_Pt_isAbove 33 = .ok (.if_icmp .le 7, 3) := by decide +kernel
theorem d_Pt_isAbove_36 : decode b_Pt_isAbove 36 = .ok (.iconst 1, 1) := by decide +kernel
theorem d_Pt_isAbove_37 : decode b_Pt_isAbove 37 = .ok (.goto 4, 3) := by decide +kernel
theorem d_Pt_isAbove_40 : decode b_Pt_isAbove 40 = .ok (.iconst 0, 1) := by decide +kernel
theorem d_Pt_isAbove_41 : decode b_Pt_isAbove 41 = .ok (.ireturn, 1) := by decide +kernel
theorem d_Pt_leastAbove_0 : decode b_Pt_leastAbove 0 = .ok (.iconst (-1), 1) := by decide +kernel
theorem d_Pt_leastAbove_1 : decode b_Pt_leastAbove 1 = .ok (.istore_n 3, 1) := by decide +kernel
theorem d_Pt_leastAbove_2 : decode b_Pt_leastAbove 2 = .ok (.iconst 0, 1) := by decide +kernel
theorem d_Pt_leastAbove_3 : decode b_Pt_leastAbove 3 = .ok (.istore 4, 2) := by decide +kernel
theorem d_Pt_leastAbove_5 : decode b_Pt_leastAbove 5 = .ok (.iload 4, 2) := by decide +kernel
theorem d_Pt_leastAbove_7 : decode b_Pt_leastAbove 7 = .ok (.aload_n 0, 1) := by decide +kernel
theorem d_Pt_leastAbove_8 : decode b_Pt_leastAbove 8 = .ok (.getfield 15, 3) := by decide +kernel
theorem d_Pt_leastAbove_11 : decode b_Pt_leastAbove 11 = .ok (.if_icmp .ge 38, 3) := by decide +kernel
theorem d_Pt_leastAbove_14 : decode b_Pt_leastAbove 14 = .ok (.aload_n 0, 1) := by decide +kernel
theorem d_Pt_leastAbove_15 : decode b_Pt_leastAbove 15 = .ok (.iload 4, 2) := by decide +kernel
theorem d_Pt_leastAbove_17 : decode b_Pt_leastAbove 17 = .ok (.iload_n 1, 1) := by decide +kernel
theorem d_Pt_leastAbove_18 : decode b_Pt_leastAbove 18 = .ok (.iload_n 2, 1) := by decide +kernel
theorem d_Pt_leastAbove_19 : decode b_Pt_leastAbove 19 = .ok (.invokevirtual 52, 3) := by decide +kernel
theorem d_Pt_leastAbove_22 : decode b_Pt_leastAbove 22 = .ok (.ifCond .eq 21, 3) := by decide +kernel
theorem d_Pt_leastAbove_25 : decode b_Pt_leastAbove 25 = .ok (.iload_n 3, 1) := by decide +kernel
theorem d_Pt_leastAbove_26 : decode b_Pt_leastAbove 26 = .ok (.iconst (-1), 1) := by decide +kernel
theorem d_Pt_leastAbove_27 : decode b_Pt_leastAbove 27 = .ok (.if_icmp .eq 13, 3) := by decide +kernel
theorem d_Pt_leastAbove_30 : decode b_Pt_leastAbove 30 = .ok (.aload_n 0, 1) := by decide +kernel
theorem d_Pt_leastAbove_31 : decode b_Pt_leastAbove 31 = .ok (.iload 4, 2) := by decide +kernel
theorem d_Pt_leastAbove_33 : decode b_Pt_leastAbove 33 = .ok (.iload_n 3, 1) := by decide +kernel
theorem d_Pt_leastAbove_34 : decode b_Pt_leastAbove 34 = .ok (.invokevirtual 56, 3) := by decide +kernel
theorem d_Pt_leastAbove_37 : decode b_Pt_leastAbove 37 = .ok (.ifCond .eq 6, 3) := by decide +kernel
theorem d_Pt_leastAbove_40 : decode b_Pt_leastAbove 40 = .ok (.iload 4, 2) := by decide +kernel
theorem d_Pt_leastAbove_42 : decode b_Pt_leastAbove 42 = .ok (.istore_n 3, 1) := by decide +kernel
theorem d_Pt_leastAbove_43 : decode b_Pt_leastAbove 43 = .ok (.iinc 4 1, 3) := by decide +kernel
theorem d_Pt_leastAbove_46 : decode b_Pt_leastAbove 46 = .ok (.goto (-41), 3) := by decide +kernel
theorem d_Pt_leastAbove_49 : decode b_Pt_leastAbove 49 = .ok (.iload_n 3, 1) := by decide +kernel
theorem d_Pt_leastAbove_50 : decode b_Pt_leastAbove 50 = .ok (.ireturn, 1) := by decide +kernel
theorem d_Pn_neighbourCount_0 : decode b_Pn_neighbourCount 0 = .ok (.aload_n 0, 1) := by decide +kernel
theorem d_Pn_neighbourCount_1 : decode b_Pn_neighbourCount 1 = .ok (.getfield 32, 3) := by decide +kernel
theorem d_Pn_neighbourCount_4 : decode b_Pn_neighbourCount 4 = .ok (.invokevirtual 102, 3) := by decide +kernel
theorem d_Pn_neighbourCount_7 : decode b_Pn_neighbourCount 7 = .ok (.ifCond .ne 12, 3) := by decide +kernel
theorem d_Pn_neighbourCount_10 : decode b_Pn_neighbourCount 10 = .ok (.aload_n 0, 1) := by decide +kernel
theorem d_Pn_neighbourCount_11 : decode b_Pn_neighbourCount 11 = .ok (.getfield 32, 3) := by decide +kernel
theorem d_Pn_neighbourCount_14 : decode b_Pn_neighbourCount 14 = .ok (.iload_n 1, 1) := by decide +kernel
theorem d_Pn_neighbourCount_15 : decode b_Pn_neighbourCount 15 = .ok (.invokevirtual 216, 3) := by decide +kernel
theorem d_Pn_neighbourCount_18 : decode b_Pn_neighbourCount 18 = .ok (.ireturn, 1) := by decide +kernel
theorem d_Pn_neighbourCount_19 : decode b_Pn_neighbourCount 19 = .ok (.aload_n 0, 1) := by decide +kernel
theorem d_Pn_neighbourCount_20 : decode b_Pn_neighbourCount 20 = .ok (.getfield 23, 3) := by decide +kernel
theorem d_Pn_neighbourCount_23 : decode b_Pn_neighbourCount 23 = .ok (.aload_n 0, 1) := by decide +kernel
theorem d_Pn_neighbourCount_24 : decode b_Pn_neighbourCount 24 = .ok (.getfield 23, 3) := by decide +kernel
theorem d_Pn_neighbourCount_27 : decode b_Pn_neighbourCount 27 = .ok (.iload_n 1, 1) := by decide +kernel
theorem d_Pn_neighbourCount_28 : decode b_Pn_neighbourCount 28 = .ok (.invokevirtual 175, 3) := by decide +kernel
theorem d_Pn_neighbourCount_31 : decode b_Pn_neighbourCount 31 = .ok (.aload_n 0, 1) := by decide +kernel
theorem d_Pn_neighbourCount_32 : decode b_Pn_neighbourCount 32 = .ok (.getfield 23, 3) := by decide +kernel
theorem d_Pn_neighbourCount_35 : decode b_Pn_neighbourCount 35 = .ok (.iload_n 1, 1) := by decide +kernel
theorem d_Pn_neighbourCount_36 : decode b_Pn_neighbourCount 36 = .ok (.invokevirtual 178, 3) := by decide +kernel
theorem d_Pn_neighbourCount_39 : decode b_Pn_neighbourCount 39 = .ok (.invokevirtual 219, 3) := by decide +kernel
theorem d_Pn_neighbourCount_42 : decode b_Pn_neighbourCount 42 = .ok (.iconst (-1), 1) := by decide +kernel
theorem d_Pn_neighbourCount_43 : decode b_Pn_neighbourCount 43 = .ok (.if_icmp .ne 7, 3) := by decide +kernel
theorem d_Pn_neighbourCount_46 : decode b_Pn_neighbourCount 46 = .ok (.iconst 0, 1) := by decide +kernel
theorem d_Pn_neighbourCount_47 : decode b_Pn_neighbourCount 47 = .ok (.goto 4, 3) := by decide +kernel
theorem d_Pn_neighbourCount_50 : decode b_Pn_neighbourCount 50 = .ok (.iconst 1, 1) := by decide +kernel
theorem d_Pn_neighbourCount_51 : decode b_Pn_neighbourCount 51 = .ok (.istore_n 2, 1) := by decide +kernel
theorem d_Pn_neighbourCount_52 : decode b_Pn_neighbourCount 52 = .ok (.aload_n 0, 1) := by decide +kernel
theorem d_Pn_neighbourCount_53 : decode b_Pn_neighbourCount 53 = .ok (.getfield 23, 3) := by decide +kernel
theorem d_Pn_neighbourCount_56 : decode b_Pn_neighbourCount 56 = .ok (.aload_n 0, 1) := by decide +kernel
theorem d_Pn_neighbourCount_57 : decode b_Pn_neighbourCount 57 = .ok (.getfield 23, 3) := by decide +kernel
theorem d_Pn_neighbourCount_60 : decode b_Pn_neighbourCount 60 = .ok (.iload_n 1, 1) := by decide +kernel
theorem d_Pn_neighbourCount_61 : decode b_Pn_neighbourCount 61 = .ok (.invokevirtual 175, 3) := by decide +kernel
theorem d_Pn_neighbourCount_64 : decode b_Pn_neighbourCount 64 = .ok (.aload_n 0, 1) := by decide +kernel
theorem d_Pn_neighbourCount_65 : decode b_Pn_neighbourCount 65 = .ok (.getfield 23, 3) := by decide +kernel
theorem d_Pn_neighbourCount_68 : decode b_Pn_neighbourCount 68 = .ok (.iload_n 1, 1) := by decide +kernel
theorem d_Pn_neighbourCount_69 : decode b_Pn_neighbourCount 69 = .ok (.invokevirtual 178, 3) := by decide +kernel
theorem d_Pn_neighbourCount_72 : decode b_Pn_neighbourCount 72 = .ok (.invokevirtual 222, 3) := by decide +kernel
theorem d_Pn_neighbourCount_75 : decode b_Pn_neighbourCount 75 = .ok (.iconst (-1), 1) := by decide +kernel
theorem d_Pn_neighbourCount_76 : decode b_Pn_neighbourCount 76 = .ok (.if_icmp .ne 7, 3) := by decide +kernel
theorem d_Pn_neighbourCount_79 : decode b_Pn_neighbourCount 79 = .ok (.iload_n 2, 1) := by decide +kernel
theorem d_Pn_neighbourCount_80 : decode b_Pn_neighbourCount 80 = .ok (.goto 6, 3) := by decide +kernel
theorem d_Pn_neighbourCount_83 : decode b_Pn_neighbourCount 83 = .ok (.iload_n 2, 1) := by decide +kernel
theorem d_Pn_neighbourCount_84 : decode b_Pn_neighbourCount 84 = .ok (.iconst 1, 1) := by decide +kernel
theorem d_Pn_neighbourCount_85 : decode b_Pn_neighbourCount 85 = .ok (.iadd, 1) := by decide +kernel
theorem d_Pn_neighbourCount_86 : decode b_Pn_neighbourCount 86 = .ok (.ireturn, 1) := by decide +kernel
theorem d_Pn_neighbours_0 : decode b_Pn_neighbours 0 = .ok (.aload_n 0, 1) := by decide +kernel
theorem d_Pn_neighbours_1 : decode b_Pn_neighbours 1 = .ok (.iload_n 1, 1) := by decide +kernel
theorem d_Pn_neighbours_2 : decode b_Pn_neighbours 2 = .ok (.invokevirtual 136, 3) := by decide +kernel
theorem d_Pn_neighbours_5 : decode b_Pn_neighbours 5 = .ok (.aload_n 0, 1) := by decide +kernel
theorem d_Pn_neighbours_6 : decode b_Pn_neighbours 6 = .ok (.iload_n 1, 1) := by decide +kernel
theorem d_Pn_neighbours_7 : decode b_Pn_neighbours 7 = .ok (.invokevirtual 139, 3) := by decide +kernel
theorem d_Pn_neighbours_10 : decode b_Pn_neighbours 10 = .ok (.ireturn, 1) := by decide +kernel
theorem d_Pn_neighbourOnLine_0 : decode b_Pn_neighbourOnLine 0 = .ok (.aload_n 0, 1) := by decide +kernel
theorem d_Pn_neighbourOnLine_1 : decode b_Pn_neighbourOnLine 1 = .ok (.getfield 23, 3) := by decide +kernel
theorem d_Pn_neighbourOnLine_4 : decode b_Pn_neighbourOnLine 4 = .ok (.aload_n 0, 1) := by decide +kernel
theorem d_Pn_neighbourOnLine_5 : decode b_Pn_neighbourOnLine 5 = .ok (.getfield 23, 3) := by decide +kernel
theorem d_Pn_neighbourOnLine_8 : decode b_Pn_neighbourOnLine 8 = .ok (.iload_n 1, 1) := by decide +kernel
theorem d_Pn_neighbourOnLine_9 : decode b_Pn_neighbourOnLine 9 = .ok (.invokevirtual 175, 3) := by decide +kernel
theorem d_Pn_neighbourOnLine_12 : decode b_Pn_neighbourOnLine 12 = .ok (.aload_n 0, 1) := by decide +kernel
theorem d_Pn_neighbourOnLine_13 : decode b_Pn_neighbourOnLine 13 = .ok (.getfield 23, 3) := by decide +kernel
theorem d_Pn_neighbourOnLine_16 : decode b_Pn_neighbourOnLine 16 = .ok (.iload_n 1, 1) := by decide +kernel
theorem d_Pn_neighbourOnLine_17 : decode b_Pn_neighbourOnLine 17 = .ok (.invokevirtual 178, 3) := by decide +kernel
theorem d_Pn_neighbourOnLine_20 : decode b_Pn_neighbourOnLine 20 = .ok (.invokevirtual 219, 3) := by decide +kernel
theorem d_Pn_neighbourOnLine_23 : decode b_Pn_neighbourOnLine 23 = .ok (.istore_n 3, 1) := by decide +kernel
theorem d_Pn_neighbourOnLine_24 : decode b_Pn_neighbourOnLine 24 = .ok (.aload_n 0, 1) := by decide +kernel
theorem d_Pn_neighbourOnLine_25 : decode b_Pn_neighbourOnLine 25 = .ok (.getfield 23, 3) := by decide +kernel
theorem d_Pn_neighbourOnLine_28 : decode b_Pn_neighbourOnLine 28 = .ok (.aload_n 0, 1) := by decide +kernel
theorem d_Pn_neighbourOnLine_29 : decode b_Pn_neighbourOnLine 29 = .ok (.getfield 23, 3) := by decide +kernel
theorem d_Pn_neighbourOnLine_32 : decode b_Pn_neighbourOnLine 32 = .ok (.iload_n 1, 1) := by decide +kernel
theorem d_Pn_neighbourOnLine_33 : decode b_Pn_neighbourOnLine 33 = .ok (.invokevirtual 175, 3) := by decide +kernel
theorem d_Pn_neighbourOnLine_36 : decode b_Pn_neighbourOnLine 36 = .ok (.aload_n 0, 1) := by decide +kernel
theorem d_Pn_neighbourOnLine_37 : decode b_Pn_neighbourOnLine 37 = .ok (.getfield 23, 3) := by decide +kernel
theorem d_Pn_neighbourOnLine_40 : decode b_Pn_neighbourOnLine 40 = .ok (.iload_n 1, 1) := by decide +kernel
theorem d_Pn_neighbourOnLine_41 : decode b_Pn_neighbourOnLine 41 = .ok (.invokevirtual 178, 3) := by decide +kernel
theorem d_Pn_neighbourOnLine_44 : decode b_Pn_neighbourOnLine 44 = .ok (.invokevirtual 222, 3) := by decide +kernel
theorem d_Pn_neighbourOnLine_47 : decode b_Pn_neighbourOnLine 47 = .ok (.istore 4, 2) := by decide +kernel
theorem d_Pn_neighbourOnLine_49 : decode b_Pn_neighbourOnLine 49 = .ok (.iload_n 3, 1) := by decide +kernel
theorem d_Pn_neighbourOnLine_50 : decode b_Pn_neighbourOnLine 50 = .ok (.iconst (-1), 1) := by decide +kernel
theorem d_Pn_neighbourOnLine_51 : decode b_Pn_neighbourOnLine 51 = .ok (.if_icmp .eq 9, 3) := by decide +kernel
theorem d_Pn_neighbourOnLine_54 : decode b_Pn_neighbourOnLine 54 = .ok (.iload 4, 2) := by decide +kernel
theorem d_Pn_neighbourOnLine_56 : decode b_Pn_neighbourOnLine 56 = .ok (.iconst (-1), 1) := by decide +kernel
theorem d_Pn_neighbourOnLine_57 : decode b_Pn_neighbourOnLine 57 = .ok (.if_icmp .ne 10, 3) := by decide +kernel
theorem d_Pn_neighbourOnLine_60 : decode b_Pn_neighbourOnLine 60 = .ok (.iload_n 3, 1) := by decide +kernel
theorem d_Pn_neighbourOnLine_61 : decode b_Pn_neighbourOnLine 61 = .ok (.iload 4, 2) := by decide +kernel
theorem d_Pn_neighbourOnLine_63 : decode b_Pn_neighbourOnLine 63 = .ok (.invokestatic 17, 3) := by decide +kernel
theorem d_Pn_neighbourOnLine_66 : decode b_Pn_neighbourOnLine 66 = .ok (.ireturn, 1) := by decide +kernel
theorem d_Pn_neighbourOnLine_67 : decode b_Pn_neighbourOnLine 67 = .ok (.iload_n 2, 1) := by decide +kernel
theorem d_Pn_neighbourOnLine_68 : decode b_Pn_neighbourOnLine 68 = .ok (.ifCond .ne 12, 3) := by decide +kernel
theorem d_Pn_neighbourOnLine_71 : decode b_Pn_neighbourOnLine 71 = .ok (.iload_n 3, 1) := by decide +kernel
theorem d_Pn_neighbourOnLine_72 : decode b_Pn_neighbourOnLine 72 = .ok (.iload 4, 2) := by decide +kernel
theorem d_Pn_neighbourOnLine_74 : decode b_Pn_neighbourOnLine 74 = .ok (.invokestatic 11, 3) := by decide +kernel
theorem d_Pn_neighbourOnLine_77 : decode b_Pn_neighbourOnLine 77 = .ok (.goto 9, 3) := by decide +kernel
theorem d_Pn_neighbourOnLine_80 : decode b_Pn_neighbourOnLine 80 = .ok (.iload_n 3, 1) := by decide +kernel
theorem d_Pn_neighbourOnLine_81 : decode b_Pn_neighbourOnLine 81 = .ok (.iload 4, 2) := by decide +kernel
theorem d_Pn_neighbourOnLine_83 : decode b_Pn_neighbourOnLine 83 = .ok (.invokestatic 17, 3) := by decide +kernel
theorem d_Pn_neighbourOnLine_86 : decode b_Pn_neighbourOnLine 86 = .ok (.ireturn, 1) := by decide +kernel
theorem d_Nt_lowestFrom_0 : decode b_Nt_lowestFrom 0 = .ok (.aload_n 0, 1) := by decide +kernel
theorem d_Nt_lowestFrom_1 : decode b_Nt_lowestFrom 1 = .ok (.getfield 36, 3) := by decide +kernel
theorem d_Nt_lowestFrom_4 : decode b_Nt_lowestFrom 4 = .ok (.aload_n 0, 1) := by decide +kernel
theorem d_Nt_lowestFrom_5 : decode b_Nt_lowestFrom 5 = .ok (.iload_n 1, 1) := by decide +kernel
theorem d_Nt_lowestFrom_6 : decode b_Nt_lowestFrom 6 = .ok (.invokevirtual 85, 3) := by decide +kernel
theorem d_Nt_lowestFrom_9 : decode b_Nt_lowestFrom 9 = .ok (.invokevirtual 63, 3) := by decide +kernel
theorem d_Nt_lowestFrom_12 : decode b_Nt_lowestFrom 12 = .ok (.istore_n 2, 1) := by decide +kernel
theorem d_Nt_lowestFrom_13 : decode b_Nt_lowestFrom 13 = .ok (.iload_n 2, 1) := by decide +kernel
theorem d_Nt_lowestFrom_14 : decode b_Nt_lowestFrom 14 = .ok (.istore_n 3, 1) := by decide +kernel
theorem d_Nt_lowestFrom_15 : decode b_Nt_lowestFrom 15 = .ok (.iload_n 2, 1) := by decide +kernel
theorem d_Nt_lowestFrom_16 : decode b_Nt_lowestFrom 16 = .ok (.istore 4, 2) := by decide +kernel
theorem d_Nt_lowestFrom_18 : decode b_Nt_lowestFrom 18 = .ok (.iconst 0, 1) := by decide +kernel
theorem d_Nt_lowestFrom_19 : decode b_Nt_lowestFrom 19 = .ok (.istore 5, 2) := by decide +kernel
theorem d_Nt_lowestFrom_21 : decode b_Nt_lowestFrom 21 = .ok (.iload 5, 2) := by decide +kernel
theorem d_Nt_lowestFrom_23 : decode b_Nt_lowestFrom 23 = .ok (.aload_n 0, 1) := by decide +kernel
theorem d_Nt_lowestFrom_24 : decode b_Nt_lowestFrom 24 = .ok (.getfield 21, 3) := by decide +kernel
theorem d_Nt_lowestFrom_27 : decode b_Nt_lowestFrom 27 = .ok (.if_icmp .gt 43, 3) := by decide +kernel
theorem d_Nt_lowestFrom_30 : decode b_Nt_lowestFrom 30 = .ok (.aload_n 0, 1) := by decide +kernel
theorem d_Nt_lowestFrom_31 : decode b_Nt_lowestFrom 31 = .ok (.iload 4, 2) := by decide +kernel
theorem d_Nt_lowestFrom_33 : decode b_Nt_lowestFrom 33 = .ok (.invokevirtual 118, 3) := by decide +kernel
theorem d_Nt_lowestFrom_36 : decode b_Nt_lowestFrom 36 = .ok (.aload_n 0, 1) := by decide +kernel
theorem d_Nt_lowestFrom_37 : decode b_Nt_lowestFrom 37 = .ok (.iload_n 3, 1) := by decide +kernel
theorem d_Nt_lowestFrom_38 : decode b_Nt_lowestFrom 38 = .ok (.invokevirtual 118, 3) := by decide +kernel
theorem d_Nt_lowestFrom_41 : decode b_Nt_lowestFrom 41 = .ok (.if_icmp .ge 6, 3) := by decide +kernel
theorem d_Nt_lowestFrom_44 : decode b_Nt_lowestFrom 44 = .ok (.iload 4, 2) := by decide +kernel
theorem d_Nt_lowestFrom_46 : decode b_Nt_lowestFrom 46 = .ok (.istore_n 3, 1) := by decide +kernel
theorem d_Nt_lowestFrom_47 : decode b_Nt_lowestFrom 47 = .ok (.aload_n 0, 1) := by decide +kernel
theorem d_Nt_lowestFrom_48 : decode b_Nt_lowestFrom 48 = .ok (.iload 4, 2) := by decide +kernel
theorem d_Nt_lowestFrom_50 : decode b_Nt_lowestFrom 50 = .ok (.invokevirtual 138, 3) := by decide +kernel
theorem d_Nt_lowestFrom_53 : decode b_Nt_lowestFrom 53 = .ok (.istore 4, 2) := by decide +kernel
theorem d_Nt_lowestFrom_55 : decode b_Nt_lowestFrom 55 = .ok (.iload 4, 2) := by decide +kernel
theorem d_Nt_lowestFrom_57 : decode b_Nt_lowestFrom 57 = .ok (.iload_n 2, 1) := by decide +kernel
theorem d_Nt_lowestFrom_58 : decode b_Nt_lowestFrom 58 = .ok (.if_icmp .ne 6, 3) := by decide +kernel
theorem d_Nt_lowestFrom_61 : decode b_Nt_lowestFrom 61 = .ok (.goto 9, 3) := by decide +kernel
theorem d_Nt_lowestFrom_64 : decode b_Nt_lowestFrom 64 = .ok (.iinc 5 1, 3) := by decide +kernel
theorem d_Nt_lowestFrom_67 : decode b_Nt_lowestFrom 67 = .ok (.goto (-46), 3) := by decide +kernel
theorem d_Nt_lowestFrom_70 : decode b_Nt_lowestFrom 70 = .ok (.iload_n 3, 1) := by decide +kernel
theorem d_Nt_lowestFrom_71 : decode b_Nt_lowestFrom 71 = .ok (.ireturn, 1) := by decide +kernel
theorem d_Nt_leftRound_0 : decode b_Nt_leftRound 0 = .ok (.aload_n 0, 1) := by decide +kernel
theorem d_Nt_leftRound_1 : decode b_Nt_leftRound 1 = .ok (.iload_n 1, 1) := by decide +kernel
theorem d_Nt_leftRound_2 : decode b_Nt_leftRound 2 = .ok (.invokevirtual 141, 3) := by decide +kernel
theorem d_Nt_leftRound_5 : decode b_Nt_leftRound 5 = .ok (.istore_n 3, 1) := by decide +kernel
theorem d_Nt_leftRound_6 : decode b_Nt_leftRound 6 = .ok (.iload_n 2, 1) := by decide +kernel
theorem d_Nt_leftRound_7 : decode b_Nt_leftRound 7 = .ok (.istore 4, 2) := by decide +kernel
theorem d_Nt_leftRound_9 : decode b_Nt_leftRound 9 = .ok (.iconst 0, 1) := by decide +kernel
theorem d_Nt_leftRound_10 : decode b_Nt_leftRound 10 = .ok (.istore 5, 2) := by decide +kernel
theorem d_Nt_leftRound_12 : decode b_Nt_leftRound 12 = .ok (.iload 5, 2) := by decide +kernel
theorem d_Nt_leftRound_14 : decode b_Nt_leftRound 14 = .ok (.aload_n 0, 1) := by decide +kernel
theorem d_Nt_leftRound_15 : decode b_Nt_leftRound 15 = .ok (.getfield 21, 3) := by decide +kernel
theorem d_Nt_leftRound_18 : decode b_Nt_leftRound 18 = .ok (.if_icmp .gt 35, 3) := by decide +kernel
theorem d_Nt_leftRound_21 : decode b_Nt_leftRound 21 = .ok (.iload 4, 2) := by decide +kernel
theorem d_Nt_leftRound_23 : decode b_Nt_leftRound 23 = .ok (.ifCond .le 30, 3) := by decide +kernel
theorem d_Nt_leftRound_26 : decode b_Nt_leftRound 26 = .ok (.aload_n 0, 1) := by decide +kernel
theorem d_Nt_leftRound_27 : decode b_Nt_leftRound 27 = .ok (.iload_n 3, 1) := by decide +kernel
theorem d_Nt_leftRound_28 : decode b_Nt_leftRound 28 = .ok (.invokevirtual 138, 3) := by decide +kernel
theorem d_Nt_leftRound_31 : decode b_Nt_leftRound 31 = .ok (.istore_n 3, 1) := by decide +kernel
theorem d_Nt_leftRound_32 : decode b_Nt_leftRound 32 = .ok (.aload_n 0, 1) := by decide +kernel
theorem d_Nt_leftRound_33 : decode b_Nt_leftRound 33 = .ok (.iload_n 3, 1) := by decide +kernel
theorem d_Nt_leftRound_34 : decode b_Nt_leftRound 34 = .ok (.invokevirtual 118, 3) := by decide +kernel
theorem d_Nt_leftRound_37 : decode b_Nt_leftRound 37 = .ok (.aload_n 0, 1) := by decide +kernel
theorem d_Nt_leftRound_38 : decode b_Nt_leftRound 38 = .ok (.getfield 21, 3) := by decide +kernel
theorem d_Nt_leftRound_41 : decode b_Nt_leftRound 41 = .ok (.if_icmp .eq 6, 3) := by decide +kernel
theorem d_Nt_leftRound_44 : decode b_Nt_leftRound 44 = .ok (.iinc 4 (-1), 3) := by decide +kernel
theorem d_Nt_leftRound_47 : decode b_Nt_leftRound 47 = .ok (.iinc 5 1, 3) := by decide +kernel
theorem d_Nt_leftRound_50 : decode b_Nt_leftRound 50 = .ok (.goto (-38), 3) := by decide +kernel
theorem d_Nt_leftRound_53 : decode b_Nt_leftRound 53 = .ok (.aload_n 0, 1) := by decide +kernel
theorem d_Nt_leftRound_54 : decode b_Nt_leftRound 54 = .ok (.iload_n 3, 1) := by decide +kernel
theorem d_Nt_leftRound_55 : decode b_Nt_leftRound 55 = .ok (.invokevirtual 118, 3) := by decide +kernel
theorem d_Nt_leftRound_58 : decode b_Nt_leftRound 58 = .ok (.ireturn, 1) := by decide +kernel
theorem d_Pn_neighbour_0 : decode b_Pn_neighbour 0 = .ok (.aload_n 0, 1) := by decide +kernel
theorem d_Pn_neighbour_1 : decode b_Pn_neighbour 1 = .ok (.iload_n 1, 1) := by decide +kernel
theorem d_Pn_neighbour_2 : decode b_Pn_neighbour 2 = .ok (.invokevirtual 136, 3) := by decide +kernel
theorem d_Pn_neighbour_5 : decode b_Pn_neighbour 5 = .ok (.iload_n 2, 1) := by decide +kernel
theorem d_Pn_neighbour_6 : decode b_Pn_neighbour 6 = .ok (.ifCond .lt 12, 3) := by decide +kernel
theorem d_Pn_neighbour_9 : decode b_Pn_neighbour 9 = .ok (.iload_n 2, 1) := by decide +kernel
theorem d_Pn_neighbour_10 : decode b_Pn_neighbour 10 = .ok (.aload_n 0, 1) := by decide +kernel
theorem d_Pn_neighbour_11 : decode b_Pn_neighbour 11 = .ok (.iload_n 1, 1) := by decide +kernel
theorem d_Pn_neighbour_12 : decode b_Pn_neighbour 12 = .ok (.invokevirtual 139, 3) := by decide +kernel
theorem d_Pn_neighbour_15 : decode b_Pn_neighbour 15 = .ok (.if_icmp .lt 13, 3) := by decide +kernel
theorem d_Pn_neighbour_18 : decode b_Pn_neighbour 18 = .ok (.new 121, 3) := by decide +kernel
theorem d_Pn_neighbour_21 : decode b_Pn_neighbour 21 = .ok (.dup, 1) := by decide +kernel
theorem d_Pn_neighbour_22 : decode b_Pn_neighbour 22 = .ok (.ldc 142, 2) := by decide +kernel
theorem d_Pn_neighbour_24 : decode b_Pn_neighbour 24 = .ok (.invokespecial 125, 3) := by decide +kernel
theorem d_Pn_neighbour_27 : decode b_Pn_neighbour 27 = .ok (.athrow, 1) := by decide +kernel
theorem d_Pn_neighbour_28 : decode b_Pn_neighbour 28 = .ok (.aload_n 0, 1) := by decide +kernel
theorem d_Pn_neighbour_29 : decode b_Pn_neighbour 29 = .ok (.getfield 32, 3) := by decide +kernel
theorem d_Pn_neighbour_32 : decode b_Pn_neighbour 32 = .ok (.invokevirtual 102, 3) := by decide +kernel
theorem d_Pn_neighbour_35 : decode b_Pn_neighbour 35 = .ok (.ifCond .eq 12, 3) := by decide +kernel
theorem d_Pn_neighbour_38 : decode b_Pn_neighbour 38 = .ok (.aload_n 0, 1) := by decide +kernel
theorem d_Pn_neighbour_39 : decode b_Pn_neighbour 39 = .ok (.iload_n 1, 1) := by decide +kernel
theorem d_Pn_neighbour_40 : decode b_Pn_neighbour 40 = .ok (.iload_n 2, 1) := by decide +kernel
theorem d_Pn_neighbour_41 : decode b_Pn_neighbour 41 = .ok (.invokevirtual 144, 3) := by decide +kernel
theorem d_Pn_neighbour_44 : decode b_Pn_neighbour 44 = .ok (.goto 12, 3) := by decide +kernel
theorem d_Pn_neighbour_47 : decode b_Pn_neighbour 47 = .ok (.aload_n 0, 1) := by decide +kernel
theorem d_Pn_neighbour_48 : decode b_Pn_neighbour 48 = .ok (.getfield 32, 3) := by decide +kernel
theorem d_Pn_neighbour_51 : decode b_Pn_neighbour 51 = .ok (.iload_n 1, 1) := by decide +kernel
theorem d_Pn_neighbour_52 : decode b_Pn_neighbour 52 = .ok (.iload_n 2, 1) := by decide +kernel
theorem d_Pn_neighbour_53 : decode b_Pn_neighbour 53 = .ok (.invokevirtual 147, 3) := by decide +kernel
theorem d_Pn_neighbour_56 : decode b_Pn_neighbour 56 = .ok (.ireturn, 1) := by decide +kernel
theorem d_Ol_put_0 : decode b_Ol_put 0 = .ok (.aload_n 0, 1) := by decide +kernel
theorem d_Ol_put_1 : decode b_Ol_put 1 = .ok (.getfield 30, 3) := by decide +kernel
theorem d_Ol_put_4 : decode b_Ol_put 4 = .ok (.aload_n 0, 1) := by decide +kernel
theorem d_Ol_put_5 : decode b_Ol_put 5 = .ok (.getfield 34, 3) := by decide +kernel
theorem d_Ol_put_8 : decode b_Ol_put 8 = .ok (.iload_n 1, 1) := by decide +kernel
theorem d_Ol_put_9 : decode b_Ol_put 9 = .ok (.invokevirtual 99, 3) := by decide +kernel
theorem d_Ol_put_12 : decode b_Ol_put 12 = .ok (.aload_n 0, 1) := by decide +kernel
theorem d_Ol_put_13 : decode b_Ol_put 13 = .ok (.dup, 1) := by decide +kernel
theorem d_Ol_put_14 : decode b_Ol_put 14 = .ok (.getfield 34, 3) := by decide +kernel
theorem d_Ol_put_17 : decode b_Ol_put 17 = .ok (.iconst 1, 1) := by decide +kernel
theorem d_Ol_put_18 : decode b_Ol_put 18 = .ok (.iadd, 1) := by decide +kernel
theorem d_Ol_put_19 : decode b_Ol_put 19 = .ok (.putfield 34, 3) := by decide +kernel
theorem d_Ol_put_22 : decode b_Ol_put 22 = .ok (.return_, 1) := by decide +kernel
theorem d_Ol_drawLine_0 : decode b_Ol_drawLine 0 = .ok (.aload_n 0, 1) := by decide +kernel
theorem d_Ol_drawLine_1 : decode b_Ol_drawLine 1 = .ok (.getfield 9, 3) := by decide +kernel
theorem d_Ol_drawLine_4 : decode b_Ol_drawLine 4 = .ok (.ldc 63, 2) := by decide +kernel
theorem d_Ol_drawLine_6 : decode b_Ol_drawLine 6 = .ok (.iconst 0, 1) := by decide +kernel
theorem d_Ol_drawLine_7 : decode b_Ol_drawLine 7 = .ok (.invokevirtual 64, 3) := by decide +kernel
theorem d_Ol_drawLine_10 : decode b_Ol_drawLine 10 = .ok (.istore_n 1, 1) := by decide +kernel
theorem d_Ol_drawLine_11 : decode b_Ol_drawLine 11 = .ok (.aload_n 0, 1) := by decide +kernel
theorem d_Ol_drawLine_12 : decode b_Ol_drawLine 12 = .ok (.getfield 9, 3) := by decide +kernel
theorem d_Ol_drawLine_15 : decode b_Ol_drawLine 15 = .ok (.ldc 68, 2) := by decide +kernel
theorem d_Ol_drawLine_17 : decode b_Ol_drawLine 17 = .ok (.iconst 0, 1) := by decide +kernel
theorem d_Ol_drawLine_18 : decode b_Ol_drawLine 18 = .ok (.invokevirtual 69, 3) := by decide +kernel
theorem d_Ol_drawLine_21 : decode b_Ol_drawLine 21 = .ok (.istore_n 2, 1) := by decide +kernel
theorem d_Ol_drawLine_22 : decode b_Ol_drawLine 22 = .ok (.iload_n 1, 1) := by decide +kernel
theorem d_Ol_drawLine_23 : decode b_Ol_drawLine 23 = .ok (.iconst (-1), 1) := by decide +kernel
theorem d_Ol_drawLine_24 : decode b_Ol_drawLine 24 = .ok (.if_icmp .eq 8, 3) := by decide +kernel
theorem d_Ol_drawLine_27 : decode b_Ol_drawLine 27 = .ok (.aload_n 0, 1) := by decide +kernel
theorem d_Ol_drawLine_28 : decode b_Ol_drawLine 28 = .ok (.iload_n 1, 1) := by decide +kernel
theorem d_Ol_drawLine_29 : decode b_Ol_drawLine 29 = .ok (.invokevirtual 72, 3) := by decide +kernel
theorem d_Ol_drawLine_32 : decode b_Ol_drawLine 32 = .ok (.iload_n 2, 1) := by decide +kernel
theorem d_Ol_drawLine_33 : decode b_Ol_drawLine 33 = .ok (.iload_n 1, 1) := by decide +kernel
theorem d_Ol_drawLine_34 : decode b_Ol_drawLine 34 = .ok (.if_icmp .eq 8, 3) := by decide +kernel
theorem d_Ol_drawLine_37 : decode b_Ol_drawLine 37 = .ok (.aload_n 0, 1) := by decide +kernel
theorem d_Ol_drawLine_38 : decode b_Ol_drawLine 38 = .ok (.iload_n 2, 1) := by decide +kernel
theorem d_Ol_drawLine_39 : decode b_Ol_drawLine 39 = .ok (.invokevirtual 72, 3) := by decide +kernel
theorem d_Ol_drawLine_42 : decode b_Ol_drawLine 42 = .ok (.return_, 1) := by decide +kernel
theorem d_Nt_wayToGhost_0 : decode b_Nt_wayToGhost 0 = .ok (.aload_n 0, 1) := by decide +kernel
theorem d_Nt_wayToGhost_1 : decode b_Nt_wayToGhost 1 = .ok (.getfield 36, 3) := by decide +kernel
theorem d_Nt_wayToGhost_4 : decode b_Nt_wayToGhost 4 = .ok (.aload_n 0, 1) := by decide +kernel
theorem d_Nt_wayToGhost_5 : decode b_Nt_wayToGhost 5 = .ok (.iload_n 1, 1) := by decide +kernel
theorem d_Nt_wayToGhost_6 : decode b_Nt_wayToGhost 6 = .ok (.invokevirtual 85, 3) := by decide +kernel
theorem d_Nt_wayToGhost_9 : decode b_Nt_wayToGhost 9 = .ok (.invokevirtual 63, 3) := by decide +kernel
theorem d_Nt_wayToGhost_12 : decode b_Nt_wayToGhost 12 = .ok (.istore_n 2, 1) := by decide +kernel
theorem d_Nt_wayToGhost_13 : decode b_Nt_wayToGhost 13 = .ok (.iconst 0, 1) := by decide +kernel
theorem d_Nt_wayToGhost_14 : decode b_Nt_wayToGhost 14 = .ok (.istore_n 3, 1) := by decide +kernel
theorem d_Nt_wayToGhost_15 : decode b_Nt_wayToGhost 15 = .ok (.iload_n 3, 1) := by decide +kernel
theorem d_Nt_wayToGhost_16 : decode b_Nt_wayToGhost 16 = .ok (.aload_n 0, 1) := by decide +kernel
theorem d_Nt_wayToGhost_17 : decode b_Nt_wayToGhost 17 = .ok (.getfield 21, 3) := by decide +kernel
theorem d_Nt_wayToGhost_20 : decode b_Nt_wayToGhost 20 = .ok (.if_icmp .gt 27, 3) := by decide +kernel
theorem d_Nt_wayToGhost_23 : decode b_Nt_wayToGhost 23 = .ok (.aload_n 0, 1) := by decide +kernel
theorem d_Nt_wayToGhost_24 : decode b_Nt_wayToGhost 24 = .ok (.iload_n 2, 1) := by decide +kernel
theorem d_Nt_wayToGhost_25 : decode b_Nt_wayToGhost 25 = .ok (.invokevirtual 118, 3) := by decide +kernel
theorem d_Nt_wayToGhost_28 : decode b_Nt_wayToGhost 28 = .ok (.aload_n 0, 1) := by decide +kernel
theorem d_Nt_wayToGhost_29 : decode b_Nt_wayToGhost 29 = .ok (.getfield 21, 3) := by decide +kernel
theorem d_Nt_wayToGhost_32 : decode b_Nt_wayToGhost 32 = .ok (.if_icmp .eq 15, 3) := by decide +kernel
theorem d_Nt_wayToGhost_35 : decode b_Nt_wayToGhost 35 = .ok (.aload_n 0, 1) := by decide +kernel
theorem d_Nt_wayToGhost_36 : decode b_Nt_wayToGhost 36 = .ok (.iload_n 2, 1) := by decide +kernel
theorem d_Nt_wayToGhost_37 : decode b_Nt_wayToGhost 37 = .ok (.invokevirtual 138, 3) := by decide +kernel
theorem d_Nt_wayToGhost_40 : decode b_Nt_wayToGhost 40 = .ok (.istore_n 2, 1) := by decide +kernel
theorem d_Nt_wayToGhost_41 : decode b_Nt_wayToGhost 41 = .ok (.iinc 3 1, 3) := by decide +kernel
theorem d_Nt_wayToGhost_44 : decode b_Nt_wayToGhost 44 = .ok (.goto (-29), 3) := by decide +kernel
theorem d_Nt_wayToGhost_47 : decode b_Nt_wayToGhost 47 = .ok (.iload_n 2, 1) := by decide +kernel
theorem d_Nt_wayToGhost_48 : decode b_Nt_wayToGhost 48 = .ok (.ireturn, 1) := by decide +kernel
theorem d_Nt_nextWayToGhost_0 : decode b_Nt_nextWayToGhost 0 = .ok (.aload_n 0, 1) := by decide +kernel
theorem d_Nt_nextWayToGhost_1 : decode b_Nt_nextWayToGhost 1 = .ok (.getfield 33, 3) := by decide +kernel
theorem d_Nt_nextWayToGhost_4 : decode b_Nt_nextWayToGhost 4 = .ok (.iload_n 1, 1) := by decide +kernel
theorem d_Nt_nextWayToGhost_5 : decode b_Nt_nextWayToGhost 5 = .ok (.iconst 1, 1) := by decide +kernel
theorem d_Nt_nextWayToGhost_6 : decode b_Nt_nextWayToGhost 6 = .ok (.invokestatic 67, 3) := by decide +kernel
theorem d_Nt_nextWayToGhost_9 : decode b_Nt_nextWayToGhost 9 = .ok (.invokevirtual 63, 3) := by decide +kernel
theorem d_Nt_nextWayToGhost_12 : decode b_Nt_nextWayToGhost 12 = .ok (.ireturn, 1) := by decide +kernel
theorem d_Ol_isCorner_0 : decode b_Ol_isCorner 0 = .ok (.aload_n 0, 1) := by decide +kernel
theorem d_Ol_isCorner_1 : decode b_Ol_isCorner 1 = .ok (.getfield 9, 3) := by decide +kernel
theorem d_Ol_isCorner_4 : decode b_Ol_isCorner 4 = .ok (.iload_n 1, 1) := by decide +kernel
theorem d_Ol_isCorner_5 : decode b_Ol_isCorner 5 = .ok (.iload_n 2, 1) := by decide +kernel
theorem d_Ol_isCorner_6 : decode b_Ol_isCorner 6 = .ok (.aload_n 0, 1) := by decide +kernel
theorem d_Ol_isCorner_7 : decode b_Ol_isCorner 7 = .ok (.getfield 9, 3) := by decide +kernel
theorem d_Ol_isCorner_10 : decode b_Ol_isCorner 10 = .ok (.iload_n 3, 1) := by decide +kernel
theorem d_Ol_isCorner_11 : decode b_Ol_isCorner 11 = .ok (.invokevirtual 89, 3) := by decide +kernel
theorem d_Ol_isCorner_14 : decode b_Ol_isCorner 14 = .ok (.aload_n 0, 1) := by decide +kernel
theorem d_Ol_isCorner_15 : decode b_Ol_isCorner 15 = .ok (.getfield 9, 3) := by decide +kernel
theorem d_Ol_isCorner_18 : decode b_Ol_isCorner 18 = .ok (.iload_n 3, 1) := by decide +kernel
theorem d_Ol_isCorner_19 : decode b_Ol_isCorner 19 = .ok (.invokevirtual 92, 3) := by decide +kernel
theorem d_Ol_isCorner_22 : decode b_Ol_isCorner 22 = .ok (.invokevirtual 95, 3) := by decide +kernel
theorem d_Ol_isCorner_25 : decode b_Ol_isCorner 25 = .ok (.lconst 0, 1) := by decide +kernel
theorem d_Ol_isCorner_26 : decode b_Ol_isCorner 26 = .ok (.lcmp, 1) := by decide +kernel
theorem d_Ol_isCorner_27 : decode b_Ol_isCorner 27 = .ok (.ifCond .eq 7, 3) := by decide +kernel
theorem d_Ol_isCorner_30 : decode b_Ol_isCorner 30 = .ok (.iconst 1, 1) := by decide +kernel
theorem d_Ol_isCorner_31 : decode b_Ol_isCorner 31 = .ok (.goto 4, 3) := by decide +kernel
theorem d_Ol_isCorner_34 : decode b_Ol_isCorner 34 = .ok (.iconst 0, 1) := by decide +kernel
theorem d_Ol_isCorner_35 : decode b_Ol_isCorner 35 = .ok (.ireturn, 1) := by decide +kernel
theorem d_Ol_drawRound_0 : decode b_Ol_drawRound 0 = .ok (.aload_n 0, 1) := by decide +kernel
theorem d_Ol_drawRound_1 : decode b_Ol_drawRound 1 = .ok (.getfield 15, 3) := by decide +kernel
theorem d_Ol_drawRound_4 : decode b_Ol_drawRound 4 = .ok (.aload_n 0, 1) := by decide +kernel
theorem d_Ol_drawRound_5 : decode b_Ol_drawRound 5 = .ok (.getfield 9, 3) := by decide +kernel
theorem d_Ol_drawRound_8 : decode b_Ol_drawRound 8 = .ok (.ldc 63, 2) := by decide +kernel
theorem d_Ol_drawRound_10 : decode b_Ol_drawRound 10 = .ok (.iconst 0, 1) := by decide +kernel
theorem d_Ol_drawRound_11 : decode b_Ol_drawRound 11 = .ok (.invokevirtual 64, 3) := by decide +kernel
theorem d_Ol_drawRound_14 : decode b_Ol_drawRound 14 = .ok (.invokevirtual 75, 3) := by decide +kernel
theorem d_Ol_drawRound_17 : decode b_Ol_drawRound 17 = .ok (.istore_n 1, 1) := by decide +kernel
theorem d_Ol_drawRound_18 : decode b_Ol_drawRound 18 = .ok (.iload_n 1, 1) := by decide +kernel
theorem d_Ol_drawRound_19 : decode b_Ol_drawRound 19 = .ok (.istore_n 2, 1) := by decide +kernel
theorem d_Ol_drawRound_20 : decode b_Ol_drawRound 20 = .ok (.iconst (-1), 1) := by decide +kernel
theorem d_Ol_drawRound_21 : decode b_Ol_drawRound 21 = .ok (.istore_n 3, 1) := by decide +kernel
theorem d_Ol_drawRound_22 : decode b_Ol_drawRound 22 = .ok (.iconst 0, 1) := by decide +kernel
theorem d_Ol_drawRound_23 : decode b_Ol_drawRound 23 = .ok (.istore 4, 2) := by decide +kernel
theorem d_Ol_drawRound_25 : decode b_Ol_drawRound 25 = .ok (.iload 4, 2) := by decide +kernel
theorem d_Ol_drawRound_27 : decode b_Ol_drawRound 27 = .ok (.aload_n 0, 1) := by decide +kernel
theorem d_Ol_drawRound_28 : decode b_Ol_drawRound 28 = .ok (.getfield 9, 3) := by decide +kernel
theorem d_Ol_drawRound_31 : decode b_Ol_drawRound 31 = .ok (.getfield 78, 3) := by decide +kernel
theorem d_Ol_drawRound_34 : decode b_Ol_drawRound 34 = .ok (.if_icmp .ge 73, 3) := by decide +kernel
theorem d_Ol_drawRound_37 : decode b_Ol_drawRound 37 = .ok (.aload_n 0, 1) := by decide +kernel
theorem d_Ol_drawRound_38 : decode b_Ol_drawRound 38 = .ok (.getfield 15, 3) := by decide +kernel
theorem d_Ol_drawRound_41 : decode b_Ol_drawRound 41 = .ok (.iload_n 2, 1) := by decide +kernel
theorem d_Ol_drawRound_42 : decode b_Ol_drawRound 42 = .ok (.invokevirtual 79, 3) := by decide +kernel
theorem d_Ol_drawRound_45 : decode b_Ol_drawRound 45 = .ok (.istore 5, 2) := by decide +kernel
theorem d_Ol_drawRound_47 : decode b_Ol_drawRound 47 = .ok (.aload_n 0, 1) := by decide +kernel
theorem d_Ol_drawRound_48 : decode b_Ol_drawRound 48 = .ok (.getfield 15, 3) := by decide +kernel
theorem d_Ol_drawRound_51 : decode b_Ol_drawRound 51 = .ok (.iload_n 2, 1) := by decide +kernel
theorem d_Ol_drawRound_52 : decode b_Ol_drawRound 52 = .ok (.invokevirtual 82, 3) := by decide +kernel
theorem d_Ol_drawRound_55 : decode b_Ol_drawRound 55 = .ok (.istore 6, 2) := by decide +kernel
theorem d_Ol_drawRound_57 : decode b_Ol_drawRound 57 = .ok (.iload_n 3, 1) := by decide +kernel
theorem d_Ol_drawRound_58 : decode b_Ol_drawRound 58 = .ok (.iconst (-1), 1) := by decide +kernel
theorem d_Ol_drawRound_59 : decode b_Ol_drawRound 59 = .ok (.if_icmp .eq 22, 3) := by decide +kernel
theorem d_Ol_drawRound_62 : decode b_Ol_drawRound 62 = .ok (.aload_n 0, 1) := by decide +kernel
theorem d_Ol_drawRound_63 : decode b_Ol_drawRound 63 = .ok (.iload_n 3, 1) := by decide +kernel
theorem d_Ol_drawRound_64 : decode b_Ol_drawRound 64 = .ok (.iload 6, 2) := by decide +kernel
theorem d_Ol_drawRound_66 : decode b_Ol_drawRound 66 = .ok (.aload_n 0, 1) := by decide +kernel
theorem d_Ol_drawRound_67 : decode b_Ol_drawRound 67 = .ok (.getfield 15, 3) := by decide +kernel
theorem d_Ol_drawRound_70 : decode b_Ol_drawRound 70 = .ok (.iload 5, 2) := by decide +kernel
theorem d_Ol_drawRound_72 : decode b_Ol_drawRound 72 = .ok (.invokevirtual 82, 3) := by decide +kernel
theorem d_Ol_drawRound_75 : decode b_Ol_drawRound 75 = .ok (.invokevirtual 85, 3) := by decide +kernel
theorem d_Ol_drawRound_78 : decode b_Ol_drawRound 78 = .ok (.ifCond .eq 9, 3) := by decide +kernel
theorem d_Ol_drawRound_81 : decode b_Ol_drawRound 81 = .ok (.aload_n 0, 1) := by decide +kernel
theorem d_Ol_drawRound_82 : decode b_Ol_drawRound 82 = .ok (.iload 6, 2) := by decide +kernel
theorem d_Ol_drawRound_84 : decode b_Ol_drawRound 84 = .ok (.invokevirtual 72, 3) := by decide +kernel
theorem d_Ol_drawRound_87 : decode b_Ol_drawRound 87 = .ok (.iload 6, 2) := by decide +kernel
theorem d_Ol_drawRound_89 : decode b_Ol_drawRound 89 = .ok (.istore_n 3, 1) := by decide +kernel
theorem d_Ol_drawRound_90 : decode b_Ol_drawRound 90 = .ok (.iload 5, 2) := by decide +kernel
theorem d_Ol_drawRound_92 : decode b_Ol_drawRound 92 = .ok (.istore_n 2, 1) := by decide +kernel
theorem d_Ol_drawRound_93 : decode b_Ol_drawRound 93 = .ok (.iload_n 2, 1) := by decide +kernel
theorem d_Ol_drawRound_94 : decode b_Ol_drawRound 94 = .ok (.iload_n 1, 1) := by decide +kernel
theorem d_Ol_drawRound_95 : decode b_Ol_drawRound 95 = .ok (.if_icmp .ne 6, 3) := by decide +kernel
theorem d_Ol_drawRound_98 : decode b_Ol_drawRound 98 = .ok (.goto 9, 3) := by decide +kernel
theorem d_Ol_drawRound_101 : decode b_Ol_drawRound 101 = .ok (.iinc 4 1, 3) := by decide +kernel
theorem d_Ol_drawRound_104 : decode b_Ol_drawRound 104 = .ok (.goto (-79), 3) := by decide +kernel
theorem d_Ol_drawRound_107 : decode b_Ol_drawRound 107 = .ok (.return_, 1) := by decide +kernel
theorem d_Ol_draw_0 : decode b_Ol_draw 0 = .ok (.aload_n 0, 1) := by decide +kernel
theorem d_Ol_draw_1 : decode b_Ol_draw 1 = .ok (.getfield 37, 3) := by decide +kernel
theorem d_Ol_draw_4 : decode b_Ol_draw 4 = .ok (.ifCond .eq 4, 3) := by decide +kernel
theorem d_Ol_draw_7 : decode b_Ol_draw 7 = .ok (.return_, 1) := by decide +kernel
theorem d_Ol_draw_8 : decode b_Ol_draw 8 = .ok (.aload_n 0, 1) := by decide +kernel
theorem d_Ol_draw_9 : decode b_Ol_draw 9 = .ok (.iconst 0, 1) := by decide +kernel
theorem d_Ol_draw_10 : decode b_Ol_draw 10 = .ok (.putfield 34, 3) := by decide +kernel
theorem d_Ol_draw_13 : decode b_Ol_draw 13 = .ok (.aload_n 0, 1) := by decide +kernel
theorem d_Ol_draw_14 : decode b_Ol_draw 14 = .ok (.getfield 15, 3) := by decide +kernel
theorem d_Ol_draw_17 : decode b_Ol_draw 17 = .ok (.invokevirtual 51, 3) := by decide +kernel
theorem d_Ol_draw_20 : decode b_Ol_draw 20 = .ok (.ifCond .eq 10, 3) := by decide +kernel
theorem d_Ol_draw_23 : decode b_Ol_draw 23 = .ok (.aload_n 0, 1) := by decide +kernel
theorem d_Ol_draw_24 : decode b_Ol_draw 24 = .ok (.invokevirtual 57, 3) := by decide +kernel
theorem d_Ol_draw_27 : decode b_Ol_draw 27 = .ok (.goto 7, 3) := by decide +kernel
theorem d_Ol_draw_30 : decode b_Ol_draw 30 = .ok (.aload_n 0, 1) := by decide +kernel
theorem d_Ol_draw_31 : decode b_Ol_draw 31 = .ok (.invokevirtual 60, 3) := by decide +kernel
theorem d_Ol_draw_34 : decode b_Ol_draw 34 = .ok (.aload_n 0, 1) := by decide +kernel
theorem d_Ol_draw_35 : decode b_Ol_draw 35 = .ok (.iconst 1, 1) := by decide +kernel
theorem d_Ol_draw_36 : decode b_Ol_draw 36 = .ok (.putfield 37, 3) := by decide +kernel
theorem d_Ol_draw_39 : decode b_Ol_draw 39 = .ok (.return_, 1) := by decide +kernel
theorem d_Ol_many_0 : decode b_Ol_many 0 = .ok (.aload_n 0, 1) := by decide +kernel
theorem d_Ol_many_1 : decode b_Ol_many 1 = .ok (.invokevirtual 44, 3) := by decide +kernel
theorem d_Ol_many_4 : decode b_Ol_many 4 = .ok (.aload_n 0, 1) := by decide +kernel
theorem d_Ol_many_5 : decode b_Ol_many 5 = .ok (.getfield 34, 3) := by decide +kernel
theorem d_Ol_many_8 : decode b_Ol_many 8 = .ok (.ireturn, 1) := by decide +kernel
theorem d_Ol_at_0 : decode b_Ol_at 0 = .ok (.aload_n 0, 1) := by decide +kernel
theorem d_Ol_at_1 : decode b_Ol_at 1 = .ok (.invokevirtual 44, 3) := by decide +kernel
theorem d_Ol_at_4 : decode b_Ol_at 4 = .ok (.aload_n 0, 1) := by decide +kernel
theorem d_Ol_at_5 : decode b_Ol_at 5 = .ok (.getfield 30, 3) := by decide +kernel
theorem d_Ol_at_8 : decode b_Ol_at 8 = .ok (.iload_n 1, 1) := by decide +kernel
theorem d_Ol_at_9 : decode b_Ol_at 9 = .ok (.invokevirtual 47, 3) := by decide +kernel
theorem d_Ol_at_12 : decode b_Ol_at 12 = .ok (.ireturn, 1) := by decide +kernel
theorem d_Pn_corner_0 : decode b_Pn_corner 0 = .ok (.iload_n 1, 1) := by decide +kernel
theorem d_Pn_corner_1 : decode b_Pn_corner 1 = .ok (.ifCond .lt 14, 3) := by decide +kernel
theorem d_Pn_corner_4 : decode b_Pn_corner 4 = .ok (.iload_n 1, 1) := by decide +kernel
theorem d_Pn_corner_5 : decode b_Pn_corner 5 = .ok (.aload_n 0, 1) := by decide +kernel
theorem d_Pn_corner_6 : decode b_Pn_corner 6 = .ok (.getfield 48, 3) := by decide +kernel
theorem d_Pn_corner_9 : decode b_Pn_corner 9 = .ok (.invokevirtual 150, 3) := by decide +kernel
theorem d_Pn_corner_12 : decode b_Pn_corner 12 = .ok (.if_icmp .lt 13, 3) := by decide +kernel
theorem d_Pn_corner_15 : decode b_Pn_corner 15 = .ok (.new 121, 3) := by decide +kernel
theorem d_Pn_corner_18 : decode b_Pn_corner 18 = .ok (.dup, 1) := by decide +kernel
theorem d_Pn_corner_19 : decode b_Pn_corner 19 = .ok (.ldc 153, 2) := by decide +kernel
theorem d_Pn_corner_21 : decode b_Pn_corner 21 = .ok (.invokespecial 125, 3) := by decide +kernel
theorem d_Pn_corner_24 : decode b_Pn_corner 24 = .ok (.athrow, 1) := by decide +kernel
theorem d_Pn_corner_25 : decode b_Pn_corner 25 = .ok (.aload_n 0, 1) := by decide +kernel
theorem d_Pn_corner_26 : decode b_Pn_corner 26 = .ok (.getfield 48, 3) := by decide +kernel
theorem d_Pn_corner_29 : decode b_Pn_corner 29 = .ok (.iload_n 1, 1) := by decide +kernel
theorem d_Pn_corner_30 : decode b_Pn_corner 30 = .ok (.invokevirtual 155, 3) := by decide +kernel
theorem d_Pn_corner_33 : decode b_Pn_corner 33 = .ok (.ireturn, 1) := by decide +kernel
theorem d_Pn_foundBetween_0 : decode b_Pn_foundBetween 0 = .ok (.aload_n 0, 1) := by decide +kernel
theorem d_Pn_foundBetween_1 : decode b_Pn_foundBetween 1 = .ok (.getfield 52, 3) := by decide +kernel
theorem d_Pn_foundBetween_4 : decode b_Pn_foundBetween 4 = .ok (.iconst 0, 1) := by decide +kernel
theorem d_Pn_foundBetween_5 : decode b_Pn_foundBetween 5 = .ok (.iload_n 1, 1) := by decide +kernel
theorem d_Pn_foundBetween_6 : decode b_Pn_foundBetween 6 = .ok (.iload_n 2, 1) := by decide +kernel
theorem d_Pn_foundBetween_7 : decode b_Pn_foundBetween 7 = .ok (.invokestatic 11, 3) := by decide +kernel
theorem d_Pn_foundBetween_10 : decode b_Pn_foundBetween 10 = .ok (.iastore, 1) := by decide +kernel
theorem d_Pn_foundBetween_11 : decode b_Pn_foundBetween 11 = .ok (.aload_n 0, 1) := by decide +kernel
theorem d_Pn_foundBetween_12 : decode b_Pn_foundBetween 12 = .ok (.getfield 52, 3) := by decide +kernel
theorem d_Pn_foundBetween_15 : decode b_Pn_foundBetween 15 = .ok (.iconst 1, 1) := by decide +kernel
theorem d_Pn_foundBetween_16 : decode b_Pn_foundBetween 16 = .ok (.iload_n 1, 1) := by decide +kernel
theorem d_Pn_foundBetween_17 : decode b_Pn_foundBetween 17 = .ok (.iload_n 2, 1) := by decide +kernel
theorem d_Pn_foundBetween_18 : decode b_Pn_foundBetween 18 = .ok (.invokestatic 17, 3) := by decide +kernel
theorem d_Pn_foundBetween_21 : decode b_Pn_foundBetween 21 = .ok (.iastore, 1) := by decide +kernel
theorem d_Pn_foundBetween_22 : decode b_Pn_foundBetween 22 = .ok (.iconst 2, 1) := by decide +kernel
theorem d_Pn_foundBetween_23 : decode b_Pn_foundBetween 23 = .ok (.ireturn, 1) := by decide +kernel
theorem d_Pn_locateOnLine_0 : decode b_Pn_locateOnLine 0 = .ok (.aload_n 0, 1) := by decide +kernel
theorem d_Pn_locateOnLine_1 : decode b_Pn_locateOnLine 1 = .ok (.getfield 23, 3) := by decide +kernel
theorem d_Pn_locateOnLine_4 : decode b_Pn_locateOnLine 4 = .ok (.getfield 71, 3) := by decide +kernel
theorem d_Pn_locateOnLine_7 : decode b_Pn_locateOnLine 7 = .ok (.iconst 2, 1) := by decide +kernel
theorem d_Pn_locateOnLine_8 : decode b_Pn_locateOnLine 8 = .ok (.if_icmp .lt 19, 3) := by decide +kernel
theorem d_Pn_locateOnLine_11 : decode b_Pn_locateOnLine 11 = .ok (.aload_n 0, 1) := by decide +kernel
theorem d_Pn_locateOnLine_12 : decode b_Pn_locateOnLine 12 = .ok (.getfield 23, 3) := by decide +kernel
theorem d_Pn_locateOnLine_15 : decode b_Pn_locateOnLine 15 = .ok (.iconst 0, 1) := by decide +kernel
theorem d_Pn_locateOnLine_16 : decode b_Pn_locateOnLine 16 = .ok (.iconst 1, 1) := by decide +kernel
theorem d_Pn_locateOnLine_17 : decode b_Pn_locateOnLine 17 = .ok (.iload_n 1, 1) := by decide +kernel
theorem d_Pn_locateOnLine_18 : decode b_Pn_locateOnLine 18 = .ok (.iload_n 2, 1) := by decide +kernel
theorem d_Pn_locateOnLine_19 : decode b_Pn_locateOnLine 19 = .ok (.invokevirtual 198, 3) := by decide +kernel
theorem d_Pn_locateOnLine_22 : decode b_Pn_locateOnLine 22 = .ok (.lconst 0, 1) := by decide +kernel
theorem d_Pn_locateOnLine_23 : decode b_Pn_locateOnLine 23 = .ok (.lcmp, 1) := by decide +kernel
theorem d_Pn_locateOnLine_24 : decode b_Pn_locateOnLine 24 = .ok (.ifCond .eq 5, 3) := by decide +kernel
theorem d_Pn_locateOnLine_27 : decode b_Pn_locateOnLine 27 = .ok (.iconst 0, 1) := by decide +kernel
theorem d_Pn_locateOnLine_28 : decode b_Pn_locateOnLine 28 = .ok (.ireturn, 1) := by decide +kernel
theorem d_Pn_locateOnLine_29 : decode b_Pn_locateOnLine 29 = .ok (.aload_n 0, 1) := by decide +kernel
theorem d_Pn_locateOnLine_30 : decode b_Pn_locateOnLine 30 = .ok (.getfield 23, 3) := by decide +kernel
theorem d_Pn_locateOnLine_33 : decode b_Pn_locateOnLine 33 = .ok (.iload_n 1, 1) := by decide +kernel
theorem d_Pn_locateOnLine_34 : decode b_Pn_locateOnLine 34 = .ok (.iload_n 2, 1) := by decide +kernel
theorem d_Pn_locateOnLine_35 : decode b_Pn_locateOnLine 35 = .ok (.invokevirtual 219, 3) := by decide +kernel
theorem d_Pn_locateOnLine_38 : decode b_Pn_locateOnLine 38 = .ok (.istore_n 3, 1) := by decide +kernel
theorem d_Pn_locateOnLine_39 : decode b_Pn_locateOnLine 39 = .ok (.aload_n 0, 1) := by decide +kernel
theorem d_Pn_locateOnLine_40 : decode b_Pn_locateOnLine 40 = .ok (.getfield 23, 3) := by decide +kernel
theorem d_Pn_locateOnLine_43 : decode b_Pn_locateOnLine 43 = .ok (.iload_n 1, 1) := by decide +kernel
theorem d_Pn_locateOnLine_44 : decode b_Pn_locateOnLine 44 = .ok (.iload_n 2, 1) := by decide +kernel
theorem d_Pn_locateOnLine_45 : decode b_Pn_locateOnLine 45 = .ok (.invokevirtual 222, 3) := by decide +kernel
theorem d_Pn_locateOnLine_48 : decode b_Pn_locateOnLine 48 = .ok (.istore 4, 2) := by decide +kernel
theorem d_Pn_locateOnLine_50 : decode b_Pn_locateOnLine 50 = .ok (.iload_n 3, 1) := by decide +kernel
theorem d_Pn_locateOnLine_51 : decode b_Pn_locateOnLine 51 = .ok (.iconst (-1), 1) := by decide +kernel
theorem d_Pn_locateOnLine_52 : decode b_Pn_locateOnLine 52 = .ok (.if_icmp .eq 9, 3) := by decide +kernel
theorem d_Pn_locateOnLine_55 : decode b_Pn_locateOnLine 55 = .ok (.iload 4, 2) := by decide +kernel
theorem d_Pn_locateOnLine_57 : decode b_Pn_locateOnLine 57 = .ok (.iconst (-1), 1) := by decide +kernel
theorem d_Pn_locateOnLine_58 : decode b_Pn_locateOnLine 58 = .ok (.if_icmp .ne 7, 3) := by decide +kernel
theorem d_Pn_locateOnLine_61 : decode b_Pn_locateOnLine 61 = .ok (.iconst 0, 1) := by decide +kernel
theorem d_Pn_locateOnLine_62 : decode b_Pn_locateOnLine 62 = .ok (.goto 10, 3) := by decide +kernel
theorem d_Pn_locateOnLine_65 : decode b_Pn_locateOnLine 65 = .ok (.aload_n 0, 1) := by decide +kernel
theorem d_Pn_locateOnLine_66 : decode b_Pn_locateOnLine 66 = .ok (.iload_n 3, 1) := by decide +kernel
theorem d_Pn_locateOnLine_67 : decode b_Pn_locateOnLine 67 = .ok (.iload 4, 2) := by decide +kernel
theorem d_Pn_locateOnLine_69 : decode b_Pn_locateOnLine 69 = .ok (.invokevirtual 225, 3) := by decide +kernel
theorem d_Pn_locateOnLine_72 : decode b_Pn_locateOnLine 72 = .ok (.ireturn, 1) := by decide +kernel
theorem d_Pn_locateInNet_0 : decode b_Pn_locateInNet 0 = .ok (.aload_n 0, 1) := by decide +kernel
theorem d_Pn_locateInNet_1 : decode b_Pn_locateInNet 1 = .ok (.getfield 32, 3) := by decide +kernel
theorem d_Pn_locateInNet_4 : decode b_Pn_locateInNet 4 = .ok (.iload_n 1, 1) := by decide +kernel
theorem d_Pn_locateInNet_5 : decode b_Pn_locateInNet 5 = .ok (.iload_n 2, 1) := by decide +kernel
theorem d_Pn_locateInNet_6 : decode b_Pn_locateInNet 6 = .ok (.iload_n 3, 1) := by decide +kernel
theorem d_Pn_locateInNet_7 : decode b_Pn_locateInNet 7 = .ok (.invokevirtual 228, 3) := by decide +kernel
theorem d_Pn_locateInNet_10 : decode b_Pn_locateInNet 10 = .ok (.istore 4, 2) := by decide +kernel
theorem d_Pn_locateInNet_12 : decode b_Pn_locateInNet 12 = .ok (.aload_n 0, 1) := by decide +kernel
theorem d_Pn_locateInNet_13 : decode b_Pn_locateInNet 13 = .ok (.getfield 32, 3) := by decide +kernel
theorem d_Pn_locateInNet_16 : decode b_Pn_locateInNet 16 = .ok (.iload 4, 2) := by decide +kernel
theorem d_Pn_locateInNet_18 : decode b_Pn_locateInNet 18 = .ok (.invokevirtual 231, 3) := by decide +kernel
theorem d_Pn_locateInNet_21 : decode b_Pn_locateInNet 21 = .ok (.ifCond .eq 5, 3) := by decide +kernel
theorem d_Pn_locateInNet_24 : decode b_Pn_locateInNet 24 = .ok (.iconst 0, 1) := by decide +kernel
theorem d_Pn_locateInNet_25 : decode b_Pn_locateInNet 25 = .ok (.ireturn, 1) := by decide +kernel
theorem d_Pn_locateInNet_26 : decode b_Pn_locateInNet 26 = .ok (.iconst 0, 1) := by decide +kernel
theorem d_Pn_locateInNet_27 : decode b_Pn_locateInNet 27 = .ok (.istore 5, 2) := by decide +kernel
theorem d_Pn_locateInNet_29 : decode b_Pn_locateInNet 29 = .ok (.iload 5, 2) := by decide +kernel
theorem d_Pn_locateInNet_31 : decode b_Pn_locateInNet 31 = .ok (.iconst 3, 1) := by decide +kernel
theorem d_Pn_locateInNet_32 : decode b_Pn_locateInNet 32 = .ok (.if_icmp .ge 73, 3) := by decide +kernel
theorem d_Pn_locateInNet_35 : decode b_Pn_locateInNet 35 = .ok (.iload 4, 2) := by decide +kernel
theorem d_Pn_locateInNet_37 : decode b_Pn_locateInNet 37 = .ok (.iload 5, 2) := by decide +kernel
theorem d_Pn_locateInNet_39 : decode b_Pn_locateInNet 39 = .ok (.invokestatic 130, 3) := by decide +kernel
theorem d_Pn_locateInNet_42 : decode b_Pn_locateInNet 42 = .ok (.istore 6, 2) := by decide +kernel
theorem d_Pn_locateInNet_44 : decode b_Pn_locateInNet 44 = .ok (.aload_n 0, 1) := by decide +kernel
theorem d_Pn_locateInNet_45 : decode b_Pn_locateInNet 45 = .ok (.getfield 23, 3) := by decide +kernel
theorem d_Pn_locateInNet_48 : decode b_Pn_locateInNet 48 = .ok (.aload_n 0, 1) := by decide +kernel
theorem d_Pn_locateInNet_49 : decode b_Pn_locateInNet 49 = .ok (.getfield 32, 3) := by decide +kernel
theorem d_Pn_locateInNet_52 : decode b_Pn_locateInNet 52 = .ok (.iload 6, 2) := by decide +kernel
theorem d_Pn_locateInNet_54 : decode b_Pn_locateInNet 54 = .ok (.invokevirtual 133, 3) := by decide +kernel
theorem d_Pn_locateInNet_57 : decode b_Pn_locateInNet 57 = .ok (.aload_n 0, 1) := by decide +kernel
theorem d_Pn_locateInNet_58 : decode b_Pn_locateInNet 58 = .ok (.getfield 32, 3) := by decide +kernel
theorem d_Pn_locateInNet_61 : decode b_Pn_locateInNet 61 = .ok (.iload 6, 2) := by decide +kernel
theorem d_Pn_locateInNet_63 : decode b_Pn_locateInNet 63 = .ok (.invokevirtual 235, 3) := by decide +kernel
theorem d_Pn_locateInNet_66 : decode b_Pn_locateInNet 66 = .ok (.iload_n 2, 1) := by decide +kernel
theorem d_Pn_locateInNet_67 : decode b_Pn_locateInNet 67 = .ok (.iload_n 3, 1) := by decide +kernel
theorem d_Pn_locateInNet_68 : decode b_Pn_locateInNet 68 = .ok (.invokevirtual 198, 3) := by decide +kernel
theorem d_Pn_locateInNet_71 : decode b_Pn_locateInNet 71 = .ok (.lconst 0, 1) := by decide +kernel
theorem d_Pn_locateInNet_72 : decode b_Pn_locateInNet 72 = .ok (.lcmp, 1) := by decide +kernel
theorem d_Pn_locateInNet_73 : decode b_Pn_locateInNet 73 = .ok (.ifCond .ne 26, 3) := by decide +kernel
theorem d_Pn_locateInNet_76 : decode b_Pn_locateInNet 76 = .ok (.aload_n 0, 1) := by decide +kernel
theorem d_Pn_locateInNet_77 : decode b_Pn_locateInNet 77 = .ok (.aload_n 0, 1) := by decide +kernel
theorem d_Pn_locateInNet_78 : decode b_Pn_locateInNet 78 = .ok (.getfield 32, 3) := by decide +kernel
theorem d_Pn_locateInNet_81 : decode b_Pn_locateInNet 81 = .ok (.iload 6, 2) := by decide +kernel
theorem d_Pn_locateInNet_83 : decode b_Pn_locateInNet 83 = .ok (.invokevirtual 133, 3) := by decide +kernel
theorem d_Pn_locateInNet_86 : decode b_Pn_locateInNet 86 = .ok (.aload_n 0, 1) := by decide +kernel
theorem d_Pn_locateInNet_87 : decode b_Pn_locateInNet 87 = .ok (.getfield 32, 3) := by decide +kernel
theorem d_Pn_locateInNet_90 : decode b_Pn_locateInNet 90 = .ok (.iload 6, 2) := by decide +kernel
theorem d_Pn_locateInNet_92 : decode b_Pn_locateInNet 92 = .ok (.invokevirtual 235, 3) := by decide +kernel
theorem d_Pn_locateInNet_95 : decode b_Pn_locateInNet 95 = .ok (.invokevirtual 225, 3) := by decide +kernel
theorem d_Pn_locateInNet_98 : decode b_Pn_locateInNet 98 = .ok (.ireturn, 1) := by decide +kernel
theorem d_Pn_locateInNet_99 : decode b_Pn_locateInNet 99 = .ok (.iinc 5 1, 3) := by decide +kernel
theorem d_Pn_locateInNet_102 : decode b_Pn_locateInNet 102 = .ok (.goto (-73), 3) := by decide +kernel
theorem d_Pn_locateInNet_105 : decode b_Pn_locateInNet 105 = .ok (.aload_n 0, 1) := by decide +kernel
theorem d_Pn_locateInNet_106 : decode b_Pn_locateInNet 106 = .ok (.getfield 32, 3) := by decide +kernel
theorem d_Pn_locateInNet_109 : decode b_Pn_locateInNet 109 = .ok (.iload 4, 2) := by decide +kernel
theorem d_Pn_locateInNet_111 : decode b_Pn_locateInNet 111 = .ok (.invokevirtual 238, 3) := by decide +kernel
theorem d_Pn_locateInNet_114 : decode b_Pn_locateInNet 114 = .ok (.istore 5, 2) := by decide +kernel
theorem d_Pn_locateInNet_116 : decode b_Pn_locateInNet 116 = .ok (.iconst 0, 1) := by decide +kernel
theorem d_Pn_locateInNet_117 : decode b_Pn_locateInNet 117 = .ok (.istore 6, 2) := by decide +kernel
theorem d_Pn_locateInNet_119 : decode b_Pn_locateInNet 119 = .ok (.iload 6, 2) := by decide +kernel
theorem d_Pn_locateInNet_121 : decode b_Pn_locateInNet 121 = .ok (.aload_n 0, 1) := by decide +kernel
theorem d_Pn_locateInNet_122 : decode b_Pn_locateInNet 122 = .ok (.getfield 52, 3) := by decide +kernel
theorem d_Pn_locateInNet_125 : decode b_Pn_locateInNet 125 = .ok (.arraylength, 1) := by decide +kernel
theorem d_Pn_locateInNet_126 : decode b_Pn_locateInNet 126 = .ok (.if_icmp .ge 30, 3) := by decide +kernel
theorem d_Pn_locateInNet_129 : decode b_Pn_locateInNet 129 = .ok (.aload_n 0, 1) := by decide +kernel
theorem d_Pn_locateInNet_130 : decode b_Pn_locateInNet 130 = .ok (.getfield 52, 3) := by decide +kernel
theorem d_Pn_locateInNet_133 : decode b_Pn_locateInNet 133 = .ok (.iload 6, 2) := by decide +kernel
theorem d_Pn_locateInNet_135 : decode b_Pn_locateInNet 135 = .ok (.aload_n 0, 1) := by decide +kernel
theorem d_Pn_locateInNet_136 : decode b_Pn_locateInNet 136 = .ok (.getfield 32, 3) := by decide +kernel
theorem d_Pn_locateInNet_139 : decode b_Pn_locateInNet 139 = .ok (.iload 5, 2) := by decide +kernel
theorem d_Pn_locateInNet_141 : decode b_Pn_locateInNet 141 = .ok (.iload 6, 2) := by decide +kernel
theorem d_Pn_locateInNet_143 : decode b_Pn_locateInNet 143 = .ok (.invokestatic 130, 3) := by decide +kernel
theorem d_Pn_locateInNet_146 : decode b_Pn_locateInNet 146 = .ok (.invokevirtual 133, 3) := by decide +kernel
theorem d_Pn_locateInNet_149 : decode b_Pn_locateInNet 149 = .ok (.iastore, 1) := by decide +kernel
theorem d_Pn_locateInNet_150 : decode b_Pn_locateInNet 150 = .ok (.iinc 6 1, 3) := by decide +kernel
theorem d_Pn_locateInNet_153 : decode b_Pn_locateInNet 153 = .ok (.goto (-34), 3) := by decide +kernel
theorem d_Pn_locateInNet_156 : decode b_Pn_locateInNet 156 = .ok (.iconst 1, 1) := by decide +kernel
theorem d_Pn_locateInNet_157 : decode b_Pn_locateInNet 157 = .ok (.ireturn, 1) := by decide +kernel
theorem d_Pn_locate_0 : decode b_Pn_locate 0 = .ok (.iload_n 1, 1) := by decide +kernel
theorem d_Pn_locate_1 : decode b_Pn_locate 1 = .ok (.iload_n 2, 1) := by decide +kernel
theorem d_Pn_locate_2 : decode b_Pn_locate 2 = .ok (.invokestatic 67, 3) := by decide +kernel
theorem d_Pn_locate_5 : decode b_Pn_locate 5 = .ok (.aload_n 0, 1) := by decide +kernel
theorem d_Pn_locate_6 : decode b_Pn_locate 6 = .ok (.invokevirtual 158, 3) := by decide +kernel
theorem d_Pn_locate_9 : decode b_Pn_locate 9 = .ok (.aload_n 0, 1) := by decide +kernel
theorem d_Pn_locate_10 : decode b_Pn_locate 10 = .ok (.getfield 23, 3) := by decide +kernel
theorem d_Pn_locate_13 : decode b_Pn_locate 13 = .ok (.aload_n 0, 1) := by decide +kernel
theorem d_Pn_locate_14 : decode b_Pn_locate 14 = .ok (.getfield 23, 3) := by decide +kernel
theorem d_Pn_locate_17 : decode b_Pn_locate 17 = .ok (.getfield 71, 3) := by decide +kernel
theorem d_Pn_locate_20 : decode b_Pn_locate 20 = .ok (.iload_n 1, 1) := by decide +kernel
theorem d_Pn_locate_21 : decode b_Pn_locate 21 = .ok (.iload_n 2, 1) := by decide +kernel
theorem d_Pn_locate_22 : decode b_Pn_locate 22 = .ok (.invokevirtual 74, 3) := by decide +kernel
theorem d_Pn_locate_25 : decode b_Pn_locate 25 = .ok (.istore_n 3, 1) := by decide +kernel
theorem d_Pn_locate_26 : decode b_Pn_locate 26 = .ok (.iload_n 3, 1) := by decide +kernel
theorem d_Pn_locate_27 : decode b_Pn_locate 27 = .ok (.iconst (-1), 1) := by decide +kernel
theorem d_Pn_locate_28 : decode b_Pn_locate 28 = .ok (.if_icmp .ne 5, 3) := by decide +kernel
theorem d_Pn_locate_31 : decode b_Pn_locate 31 = .ok (.iconst 0, 1) := by decide +kernel
theorem d_Pn_locate_32 : decode b_Pn_locate 32 = .ok (.ireturn, 1) := by decide +kernel
theorem d_Pn_locate_33 : decode b_Pn_locate 33 = .ok (.aload_n 0, 1) := by decide +kernel
theorem d_Pn_locate_34 : decode b_Pn_locate 34 = .ok (.getfield 23, 3) := by decide +kernel
theorem d_Pn_locate_37 : decode b_Pn_locate 37 = .ok (.iload_n 3, 1) := by decide +kernel
theorem d_Pn_locate_38 : decode b_Pn_locate 38 = .ok (.iload_n 1, 1) := by decide +kernel
theorem d_Pn_locate_39 : decode b_Pn_locate 39 = .ok (.iload_n 2, 1) := by decide +kernel
theorem d_Pn_locate_40 : decode b_Pn_locate 40 = .ok (.invokevirtual 78, 3) := by decide +kernel
theorem d_Pn_locate_43 : decode b_Pn_locate 43 = .ok (.ifCond .eq 12, 3) := by decide +kernel
theorem d_Pn_locate_46 : decode b_Pn_locate 46 = .ok (.aload_n 0, 1) := by decide +kernel
theorem d_Pn_locate_47 : decode b_Pn_locate 47 = .ok (.getfield 52, 3) := by decide +kernel
theorem d_Pn_locate_50 : decode b_Pn_locate 50 = .ok (.iconst 0, 1) := by decide +kernel
theorem d_Pn_locate_51 : decode b_Pn_locate 51 = .ok (.iload_n 3, 1) := by decide +kernel
theorem d_Pn_locate_52 : decode b_Pn_locate 52 = .ok (.iastore, 1) := by decide +kernel
theorem d_Pn_locate_53 : decode b_Pn_locate 53 = .ok (.iconst 3, 1) := by decide +kernel
theorem d_Pn_locate_54 : decode b_Pn_locate 54 = .ok (.ireturn, 1) := by decide +kernel
theorem d_Pn_locate_55 : decode b_Pn_locate 55 = .ok (.aload_n 0, 1) := by decide +kernel
theorem d_Pn_locate_56 : decode b_Pn_locate 56 = .ok (.getfield 32, 3) := by decide +kernel
theorem d_Pn_locate_59 : decode b_Pn_locate 59 = .ok (.invokevirtual 102, 3) := by decide +kernel
theorem d_Pn_locate_62 : decode b_Pn_locate 62 = .ok (.ifCond .eq 12, 3) := by decide +kernel
theorem d_Pn_locate_65 : decode b_Pn_locate 65 = .ok (.aload_n 0, 1) := by decide +kernel
theorem d_Pn_locate_66 : decode b_Pn_locate 66 = .ok (.iload_n 1, 1) := by decide +kernel
theorem d_Pn_locate_67 : decode b_Pn_locate 67 = .ok (.iload_n 2, 1) := by decide +kernel
theorem d_Pn_locate_68 : decode b_Pn_locate 68 = .ok (.invokevirtual 161, 3) := by decide +kernel
theorem d_Pn_locate_71 : decode b_Pn_locate 71 = .ok (.goto 10, 3) := by decide +kernel
theorem d_Pn_locate_74 : decode b_Pn_locate 74 = .ok (.aload_n 0, 1) := by decide +kernel
theorem d_Pn_locate_75 : decode b_Pn_locate 75 = .ok (.iload_n 3, 1) := by decide +kernel
theorem d_Pn_locate_76 : decode b_Pn_locate 76 = .ok (.iload_n 1, 1) := by decide +kernel
theorem d_Pn_locate_77 : decode b_Pn_locate 77 = .ok (.iload_n 2, 1) := by decide +kernel
theorem d_Pn_locate_78 : decode b_Pn_locate 78 = .ok (.invokevirtual 164, 3) := by decide +kernel
theorem d_Pn_locate_81 : decode b_Pn_locate 81 = .ok (.ireturn, 1) := by decide +kernel
theorem d_Pn_located_0 : decode b_Pn_located 0 = .ok (.iload_n 1, 1) := by decide +kernel
theorem d_Pn_located_1 : decode b_Pn_located 1 = .ok (.ifCond .lt 21, 3) := by decide +kernel
theorem d_Pn_located_4 : decode b_Pn_located 4 = .ok (.iload_n 1, 1) := by decide +kernel
theorem d_Pn_located_5 : decode b_Pn_located 5 = .ok (.aload_n 0, 1) := by decide +kernel
theorem d_Pn_located_6 : decode b_Pn_located 6 = .ok (.getfield 52, 3) := by decide +kernel
theorem d_Pn_located_9 : decode b_Pn_located 9 = .ok (.arraylength, 1) := by decide +kernel
theorem d_Pn_located_10 : decode b_Pn_located 10 = .ok (.if_icmp .ge 12, 3) := by decide +kernel
theorem d_Pn_located_13 : decode b_Pn_located 13 = .ok (.aload_n 0, 1) := by decide +kernel
theorem d_Pn_located_14 : decode b_Pn_located 14 = .ok (.getfield 52, 3) := by decide +kernel
theorem d_Pn_located_17 : decode b_Pn_located 17 = .ok (.iload_n 1, 1) := by decide +kernel
theorem d_Pn_located_18 : decode b_Pn_located 18 = .ok (.iaload, 1) := by decide +kernel
theorem d_Pn_located_19 : decode b_Pn_located 19 = .ok (.goto 4, 3) := by decide +kernel
theorem d_Pn_located_22 : decode b_Pn_located 22 = .ok (.iconst (-1), 1) := by decide +kernel
theorem d_Pn_located_23 : decode b_Pn_located 23 = .ok (.ireturn, 1) := by decide +kernel
theorem d_Pn_nearest_0 : decode b_Pn_nearest 0 = .ok (.iload_n 1, 1) := by decide +kernel
theorem d_Pn_nearest_1 : decode b_Pn_nearest 1 = .ok (.iload_n 2, 1) := by decide +kernel
theorem d_Pn_nearest_2 : decode b_Pn_nearest 2 = .ok (.invokestatic 67, 3) := by decide +kernel
theorem d_Pn_nearest_5 : decode b_Pn_nearest 5 = .ok (.aload_n 0, 1) := by decide +kernel
theorem d_Pn_nearest_6 : decode b_Pn_nearest 6 = .ok (.getfield 23, 3) := by decide +kernel
theorem d_Pn_nearest_9 : decode b_Pn_nearest 9 = .ok (.getfield 71, 3) := by decide +kernel
theorem d_Pn_nearest_12 : decode b_Pn_nearest 12 = .ok (.ifCond .ne 13, 3) := by decide +kernel
theorem d_Pn_nearest_15 : decode b_Pn_nearest 15 = .ok (.new 86, 3) := by decide +kernel
theorem d_Pn_nearest_18 : decode b_Pn_nearest 18 = .ok (.dup, 1) := by decide +kernel
theorem d_Pn_nearest_19 : decode b_Pn_nearest 19 = .ok (.ldc 167, 2) := by decide +kernel
theorem d_Pn_nearest_21 : decode b_Pn_nearest 21 = .ok (.invokespecial 90, 3) := by decide +kernel
theorem d_Pn_nearest_24 : decode b_Pn_nearest 24 = .ok (.athrow, 1) := by decide +kernel
theorem d_Pn_nearest_25 : decode b_Pn_nearest 25 = .ok (.aload_n 0, 1) := by decide +kernel
theorem d_Pn_nearest_26 : decode b_Pn_nearest 26 = .ok (.getfield 23, 3) := by decide +kernel
theorem d_Pn_nearest_29 : decode b_Pn_nearest 29 = .ok (.aload_n 0, 1) := by decide +kernel
theorem d_Pn_nearest_30 : decode b_Pn_nearest 30 = .ok (.getfield 23, 3) := by decide +kernel
theorem d_Pn_nearest_33 : decode b_Pn_nearest 33 = .ok (.getfield 71, 3) := by decide +kernel
theorem d_Pn_nearest_36 : decode b_Pn_nearest 36 = .ok (.iload_n 1, 1) := by decide +kernel
theorem d_Pn_nearest_37 : decode b_Pn_nearest 37 = .ok (.iload_n 2, 1) := by decide +kernel
theorem d_Pn_nearest_38 : decode b_Pn_nearest 38 = .ok (.invokevirtual 74, 3) := by decide +kernel
theorem d_Pn_nearest_41 : decode b_Pn_nearest 41 = .ok (.ireturn, 1) := by decide +kernel
theorem d_Pn_closest_0 : decode b_Pn_closest 0 = .ok (.iload_n 1, 1) := by decide +kernel
theorem d_Pn_closest_1 : decode b_Pn_closest 1 = .ok (.ifCond .lt 8, 3) := by decide +kernel
theorem d_Pn_closest_4 : decode b_Pn_closest 4 = .ok (.iload_n 1, 1) := by decide +kernel
theorem d_Pn_closest_5 : decode b_Pn_closest 5 = .ok (.iconst 2, 1) := by decide +kernel
theorem d_Pn_closest_6 : decode b_Pn_closest 6 = .ok (.if_icmp .le 13, 3) := by decide +kernel
theorem d_Pn_closest_9 : decode b_Pn_closest 9 = .ok (.new 121, 3) := by decide +kernel
theorem d_Pn_closest_12 : decode b_Pn_closest 12 = .ok (.dup, 1) := by decide +kernel
theorem d_Pn_closest_13 : decode b_Pn_closest 13 = .ok (.ldc 169, 2) := by decide +kernel
theorem d_Pn_closest_15 : decode b_Pn_closest 15 = .ok (.invokespecial 125, 3) := by decide +kernel
theorem d_Pn_closest_18 : decode b_Pn_closest 18 = .ok (.athrow, 1) := by decide +kernel
theorem d_Pn_closest_19 : decode b_Pn_closest 19 = .ok (.aload_n 0, 1) := by decide +kernel
theorem d_Pn_closest_20 : decode b_Pn_closest 20 = .ok (.getfield 23, 3) := by decide +kernel
theorem d_Pn_closest_23 : decode b_Pn_closest 23 = .ok (.getfield 71, 3) := by decide +kernel
theorem d_Pn_closest_26 : decode b_Pn_closest 26 = .ok (.iconst 2, 1) := by decide +kernel
theorem d_Pn_closest_27 : decode b_Pn_closest 27 = .ok (.if_icmp .ge 13, 3) := by decide +kernel
theorem d_Pn_closest_30 : decode b_Pn_closest 30 = .ok (.new 86, 3) := by decide +kernel
theorem d_Pn_closest_33 : decode b_Pn_closest 33 = .ok (.dup, 1) := by decide +kernel
theorem d_Pn_closest_34 : decode b_Pn_closest 34 = .ok (.ldc 171, 2) := by decide +kernel
theorem d_Pn_closest_36 : decode b_Pn_closest 36 = .ok (.invokespecial 90, 3) := by decide +kernel
theorem d_Pn_closest_39 : decode b_Pn_closest 39 = .ok (.athrow, 1) := by decide +kernel
theorem d_Pn_closest_40 : decode b_Pn_closest 40 = .ok (.iload_n 1, 1) := by decide +kernel
theorem d_Pn_closest_41 : decode b_Pn_closest 41 = .ok (.ifCond .ne 8, 3) := by decide +kernel
theorem d_Pn_closest_44 : decode b_Pn_closest 44 = .ok (.aload_n 0, 1) := by decide +kernel
theorem d_Pn_closest_45 : decode b_Pn_closest 45 = .ok (.getfield 56, 3) := by decide +kernel
theorem d_Pn_closest_48 : decode b_Pn_closest 48 = .ok (.lreturn, 1) := by decide +kernel
theorem d_Pn_closest_49 : decode b_Pn_closest 49 = .ok (.iload_n 1, 1) := by decide +kernel
theorem d_Pn_closest_50 : decode b_Pn_closest 50 = .ok (.iconst 1, 1) := by decide +kernel
theorem d_Pn_closest_51 : decode b_Pn_closest 51 = .ok (.if_icmp .ne 11, 3) := by decide +kernel
theorem d_Pn_closest_54 : decode b_Pn_closest 54 = .ok (.aload_n 0, 1) := by decide +kernel
theorem d_Pn_closest_55 : decode b_Pn_closest 55 = .ok (.getfield 60, 3) := by decide +kernel
theorem d_Pn_closest_58 : decode b_Pn_closest 58 = .ok (.i2l, 1) := by decide +kernel
theorem d_Pn_closest_59 : decode b_Pn_closest 59 = .ok (.goto 8, 3) := by decide +kernel
theorem d_Pn_closest_62 : decode b_Pn_closest 62 = .ok (.aload_n 0, 1) := by decide +kernel
theorem d_Pn_closest_63 : decode b_Pn_closest 63 = .ok (.getfield 64, 3) := by decide +kernel
theorem d_Pn_closest_66 : decode b_Pn_closest 66 = .ok (.i2l, 1) := by decide +kernel
theorem d_Pn_closest_67 : decode b_Pn_closest 67 = .ok (.lreturn, 1) := by decide +kernel
theorem d_Pn_point_0 : decode b_Pn_point 0 = .ok (.aload_n 0, 1) := by decide +kernel
theorem d_Pn_point_1 : decode b_Pn_point 1 = .ok (.iload_n 1, 1) := by decide +kernel
theorem d_Pn_point_2 : decode b_Pn_point 2 = .ok (.invokevirtual 136, 3) := by decide +kernel
theorem d_Pn_point_5 : decode b_Pn_point 5 = .ok (.iload_n 2, 1) := by decide +kernel
theorem d_Pn_point_6 : decode b_Pn_point 6 = .ok (.ifCond .lt 8, 3) := by decide +kernel
theorem d_Pn_point_9 : decode b_Pn_point 9 = .ok (.iload_n 2, 1) := by decide +kernel
theorem d_Pn_point_10 : decode b_Pn_point 10 = .ok (.iconst 1, 1) := by decide +kernel
theorem d_Pn_point_11 : decode b_Pn_point 11 = .ok (.if_icmp .le 13, 3) := by decide +kernel
theorem d_Pn_point_14 : decode b_Pn_point 14 = .ok (.new 121, 3) := by decide +kernel
theorem d_Pn_point_17 : decode b_Pn_point 17 = .ok (.dup, 1) := by decide +kernel
theorem d_Pn_point_18 : decode b_Pn_point 18 = .ok (.ldc 173, 2) := by decide +kernel
theorem d_Pn_point_20 : decode b_Pn_point 20 = .ok (.invokespecial 125, 3) := by decide +kernel
theorem d_Pn_point_23 : decode b_Pn_point 23 = .ok (.athrow, 1) := by decide +kernel
theorem d_Pn_point_24 : decode b_Pn_point 24 = .ok (.iload_n 2, 1) := by decide +kernel
theorem d_Pn_point_25 : decode b_Pn_point 25 = .ok (.ifCond .ne 14, 3) := by decide +kernel
theorem d_Pn_point_28 : decode b_Pn_point 28 = .ok (.aload_n 0, 1) := by decide +kernel
theorem d_Pn_point_29 : decode b_Pn_point 29 = .ok (.getfield 23, 3) := by decide +kernel
theorem d_Pn_point_32 : decode b_Pn_point 32 = .ok (.iload_n 1, 1) := by decide +kernel
theorem d_Pn_point_33 : decode b_Pn_point 33 = .ok (.invokevirtual 175, 3) := by decide +kernel
theorem d_Pn_point_36 : decode b_Pn_point 36 = .ok (.goto 11, 3) := by decide +kernel
theorem d_Pn_point_39 : decode b_Pn_point 39 = .ok (.aload_n 0, 1) := by decide +kernel
theorem d_Pn_point_40 : decode b_Pn_point 40 = .ok (.getfield 23, 3) := by decide +kernel
theorem d_Pn_point_43 : decode b_Pn_point 43 = .ok (.iload_n 1, 1) := by decide +kernel
theorem d_Pn_point_44 : decode b_Pn_point 44 = .ok (.invokevirtual 178, 3) := by decide +kernel
theorem d_Pn_point_47 : decode b_Pn_point 47 = .ok (.ireturn, 1) := by decide +kernel
theorem d_Pn_count_0 : decode b_Pn_count 0 = .ok (.iload_n 1, 1) := by decide +kernel
theorem d_Pn_count_1 : decode b_Pn_count 1 = .ok (.tableswitch 51 0 2 #[27, 35, 43], 27) := by decide +kernel
theorem d_Pn_count_28 : decode b_Pn_count 28 = .ok (.aload_n 0, 1) := by decide +kernel
theorem d_Pn_count_29 : decode b_Pn_count 29 = .ok (.getfield 23, 3) := by decide +kernel
theorem d_Pn_count_32 : decode b_Pn_count 32 = .ok (.getfield 71, 3) := by decide +kernel
theorem d_Pn_count_35 : decode b_Pn_count 35 = .ok (.ireturn, 1) := by decide +kernel
theorem d_Pn_count_36 : decode b_Pn_count 36 = .ok (.aload_n 0, 1) := by decide +kernel
theorem d_Pn_count_37 : decode b_Pn_count 37 = .ok (.getfield 32, 3) := by decide +kernel
theorem d_Pn_count_40 : decode b_Pn_count 40 = .ok (.invokevirtual 117, 3) := by decide +kernel
theorem d_Pn_count_43 : decode b_Pn_count 43 = .ok (.ireturn, 1) := by decide +kernel
theorem d_Pn_count_44 : decode b_Pn_count 44 = .ok (.aload_n 0, 1) := by decide +kernel
theorem d_Pn_count_45 : decode b_Pn_count 45 = .ok (.getfield 48, 3) := by decide +kernel
theorem d_Pn_count_48 : decode b_Pn_count 48 = .ok (.invokevirtual 150, 3) := by decide +kernel
theorem d_Pn_count_51 : decode b_Pn_count 51 = .ok (.ireturn, 1) := by decide +kernel
theorem d_Pn_count_52 : decode b_Pn_count 52 = .ok (.iconst (-1), 1) := by decide +kernel
theorem d_Pn_count_53 : decode b_Pn_count 53 = .ok (.ireturn, 1) := by decide +kernel
theorem d_Md_thrown_0 : decode b_Md_thrown 0 = .ok (.aload_n 0, 1) := by decide +kernel
theorem d_Md_thrown_1 : decode b_Md_thrown 1 = .ok (.getfield 47, 3) := by decide +kernel
theorem d_Md_thrown_4 : decode b_Md_thrown 4 = .ok (.ireturn, 1) := by decide +kernel
theorem d_Md_fail_0 : decode b_Md_fail 0 = .ok (.aload_n 0, 1) := by decide +kernel
theorem d_Md_fail_1 : decode b_Md_fail 1 = .ok (.iload_n 1, 1) := by decide +kernel
theorem d_Md_fail_2 : decode b_Md_fail 2 = .ok (.putfield 47, 3) := by decide +kernel
theorem d_Md_fail_5 : decode b_Md_fail 5 = .ok (.iconst 0, 1) := by decide +kernel
theorem d_Md_fail_6 : decode b_Md_fail 6 = .ok (.ireturn, 1) := by decide +kernel
theorem d_Md_within_0 : decode b_Md_within 0 = .ok (.iload_n 0, 1) := by decide +kernel
theorem d_Md_within_1 : decode b_Md_within 1 = .ok (.iload_n 1, 1) := by decide +kernel
theorem d_Md_within_2 : decode b_Md_within 2 = .ok (.if_icmp .lt 12, 3) := by decide +kernel
theorem d_Md_within_5 : decode b_Md_within 5 = .ok (.iload_n 0, 1) := by decide +kernel
theorem d_Md_within_6 : decode b_Md_within 6 = .ok (.iload_n 2, 1) := by decide +kernel
theorem d_Md_within_7 : decode b_Md_within 7 = .ok (.if_icmp .gt 7, 3) := by decide +kernel
theorem d_Md_within_10 : decode b_Md_within 10 = .ok (.iconst 1, 1) := by decide +kernel
theorem d_Md_within_11 : decode b_Md_within 11 = .ok (.goto 4, 3) := by decide +kernel
theorem d_Md_within_14 : decode b_Md_within 14 = .ok (.iconst 0, 1) := by decide +kernel
theorem d_Md_within_15 : decode b_Md_within 15 = .ok (.ireturn, 1) := by decide +kernel
theorem d_Md_isFar_0 : decode b_Md_isFar 0 = .ok (.iload_n 0, 1) := by decide +kernel
theorem d_Md_isFar_1 : decode b_Md_isFar 1 = .ok (.ldc 50, 2) := by decide +kernel
theorem d_Md_isFar_3 : decode b_Md_isFar 3 = .ok (.ldc 51, 2) := by decide +kernel
theorem d_Md_isFar_5 : decode b_Md_isFar 5 = .ok (.invokestatic 52, 3) := by decide +kernel
theorem d_Md_isFar_8 : decode b_Md_isFar 8 = .ok (.ifCond .eq 14, 3) := by decide +kernel
theorem d_Md_isFar_11 : decode b_Md_isFar 11 = .ok (.iload_n 1, 1) := by decide +kernel
theorem d_Md_isFar_12 : decode b_Md_isFar 12 = .ok (.ldc 50, 2) := by decide +kernel
theorem d_Md_isFar_14 : decode b_Md_isFar 14 = .ok (.ldc 51, 2) := by decide +kernel
theorem d_Md_isFar_16 : decode b_Md_isFar 16 = .ok (.invokestatic 52, 3) := by decide +kernel
theorem d_Md_isFar_19 : decode b_Md_isFar 19 = .ok (.ifCond .ne 7, 3) := by decide +kernel
theorem d_Md_isFar_22 : decode b_Md_isFar 22 = .ok (.iconst 1, 1) := by decide +kernel
theorem d_Md_isFar_23 : decode b_Md_isFar 23 = .ok (.goto 4, 3) := by decide +kernel
theorem d_Md_isFar_26 : decode b_Md_isFar 26 = .ok (.iconst 0, 1) := by decide +kernel
theorem d_Md_isFar_27 : decode b_Md_isFar 27 = .ok (.ireturn, 1) := by decide +kernel
theorem d_Md_sign_0 : decode b_Md_sign 0 = .ok (.lload_n 0, 1) := by decide +kernel
theorem d_Md_sign_1 : decode b_Md_sign 1 = .ok (.lconst 0, 1) := by decide +kernel
theorem d_Md_sign_2 : decode b_Md_sign 2 = .ok (.lcmp, 1) := by decide +kernel
theorem d_Md_sign_3 : decode b_Md_sign 3 = .ok (.ifCond .le 7, 3) := by decide +kernel
theorem d_Md_sign_6 : decode b_Md_sign 6 = .ok (.iconst 1, 1) := by decide +kernel
theorem d_Md_sign_7 : decode b_Md_sign 7 = .ok (.goto 14, 3) := by decide +kernel
theorem d_Md_sign_10 : decode b_Md_sign 10 = .ok (.lload_n 0, 1) := by decide +kernel
theorem d_Md_sign_11 : decode b_Md_sign 11 = .ok (.lconst 0, 1) := by decide +kernel
theorem d_Md_sign_12 : decode b_Md_sign 12 = .ok (.lcmp, 1) := by decide +kernel
theorem d_Md_sign_13 : decode b_Md_sign 13 = .ok (.ifCond .ge 7, 3) := by decide +kernel
theorem d_Md_sign_16 : decode b_Md_sign 16 = .ok (.iconst (-1), 1) := by decide +kernel
theorem d_Md_sign_17 : decode b_Md_sign 17 = .ok (.goto 4, 3) := by decide +kernel
theorem d_Md_sign_20 : decode b_Md_sign 20 = .ok (.iconst 0, 1) := by decide +kernel
theorem d_Md_sign_21 : decode b_Md_sign 21 = .ok (.ireturn, 1) := by decide +kernel
theorem d_Md_cross_0 : decode b_Md_cross 0 = .ok (.lload_n 0, 1) := by decide +kernel
theorem d_Md_cross_1 : decode b_Md_cross 1 = .ok (.lload 6, 2) := by decide +kernel
theorem d_Md_cross_3 : decode b_Md_cross 3 = .ok (.lmul, 1) := by decide +kernel
theorem d_Md_cross_4 : decode b_Md_cross 4 = .ok (.lload_n 2, 1) := by decide +kernel
theorem d_Md_cross_5 : decode b_Md_cross 5 = .ok (.lload 4, 2) := by decide +kernel
theorem d_Md_cross_7 : decode b_Md_cross 7 = .ok (.lmul, 1) := by decide +kernel
theorem d_Md_cross_8 : decode b_Md_cross 8 = .ok (.lsub, 1) := by decide +kernel
theorem d_Md_cross_9 : decode b_Md_cross 9 = .ok (.lreturn, 1) := by decide +kernel
theorem d_Md_side_0 : decode b_Md_side 0 = .ok (.aload_n 0, 1) := by decide +kernel
theorem d_Md_side_1 : decode b_Md_side 1 = .ok (.getfield 7, 3) := by decide +kernel
theorem d_Md_side_4 : decode b_Md_side 4 = .ok (.iload_n 2, 1) := by decide +kernel
theorem d_Md_side_5 : decode b_Md_side 5 = .ok (.iaload, 1) := by decide +kernel
theorem d_Md_side_6 : decode b_Md_side 6 = .ok (.i2l, 1) := by decide +kernel
theorem d_Md_side_7 : decode b_Md_side 7 = .ok (.aload_n 0, 1) := by decide +kernel
theorem d_Md_side_8 : decode b_Md_side 8 = .ok (.getfield 7, 3) := by decide +kernel
theorem d_Md_side_11 : decode b_Md_side 11 = .ok (.iload_n 1, 1) := by decide +kernel
theorem d_Md_side_12 : decode b_Md_side 12 = .ok (.iaload, 1) := by decide +kernel
theorem d_Md_side_13 : decode b_Md_side 13 = .ok (.i2l, 1) := by decide +kernel
theorem d_Md_side_14 : decode b_Md_side 14 = .ok (.lsub, 1) := by decide +kernel
theorem d_Md_side_15 : decode b_Md_side 15 = .ok (.aload_n 0, 1) := by decide +kernel
theorem d_Md_side_16 : decode b_Md_side 16 = .ok (.getfield 13, 3) := by decide +kernel
theorem d_Md_side_19 : decode b_Md_side 19 = .ok (.iload_n 2, 1) := by decide +kernel
theorem d_Md_side_20 : decode b_Md_side 20 = .ok (.iaload, 1) := by decide +kernel
theorem d_Md_side_21 : decode b_Md_side 21 = .ok (.i2l, 1) := by decide +kernel
theorem d_Md_side_22 : decode b_Md_side 22 = .ok (.aload_n 0, 1) := by decide +kernel
theorem d_Md_side_23 : decode b_Md_side 23 = .ok (.getfield 13, 3) := by decide +kernel
theorem d_Md_side_26 : decode b_Md_side 26 = .ok (.iload_n 1, 1) := by decide +kernel
theorem d_Md_side_27 : decode b_Md_side 27 = .ok (.iaload, 1) := by decide +kernel
theorem d_Md_side_28 : decode b_Md_side 28 = .ok (.i2l, 1) := by decide +kernel
theorem d_Md_side_29 : decode b_Md_side 29 = .ok (.lsub, 1) := by decide +kernel
theorem d_Md_side_30 : decode b_Md_side 30 = .ok (.iload_n 3, 1) := by decide +kernel
theorem d_Md_side_31 : decode b_Md_side 31 = .ok (.i2l, 1) := by decide +kernel
theorem d_Md_side_32 : decode b_Md_side 32 = .ok (.aload_n 0, 1) := by decide +kernel
theorem d_Md_side_33 : decode b_Md_side 33 = .ok (.getfield 7, 3) := by decide +kernel
theorem d_Md_side_36 : decode b_Md_side 36 = .ok (.iload_n 1, 1) := by decide +kernel
theorem d_Md_side_37 : decode b_Md_side 37 = .ok (.iaload, 1) := by decide +kernel
theorem d_Md_side_38 : decode b_Md_side 38 = .ok (.i2l, 1) := by decide +kernel
theorem d_Md_side_39 : decode b_Md_side 39 = .ok (.lsub, 1) := by decide +kernel
theorem d_Md_side_40 : decode b_Md_side 40 = .ok (.iload 4, 2) := by decide +kernel
theorem d_Md_side_42 : decode b_Md_side 42 = .ok (.i2l, 1) := by decide +kernel
theorem d_Md_side_43 : decode b_Md_side 43 = .ok (.aload_n 0, 1) := by decide +kernel
theorem d_Md_side_44 : decode b_Md_side 44 = .ok (.getfield 13, 3) := by decide +kernel
theorem d_Md_side_47 : decode b_Md_side 47 = .ok (.iload_n 1, 1) := by decide +kernel
theorem d_Md_side_48 : decode b_Md_side 48 = .ok (.iaload, 1) := by decide +kernel
theorem d_Md_side_49 : decode b_Md_side 49 = .ok (.i2l, 1) := by decide +kernel
theorem d_Md_side_50 : decode b_Md_side 50 = .ok (.lsub, 1) := by decide +kernel
theorem d_Md_side_51 : decode b_Md_side 51 = .ok (.invokestatic 56, 3) := by decide +kernel
theorem d_Md_side_54 : decode b_Md_side 54 = .ok (.invokestatic 60, 3) := by decide +kernel
theorem d_Md_side_57 : decode b_Md_side 57 = .ok (.ireturn, 1) := by decide +kernel
theorem d_Md_sideOf_0 : decode b_Md_sideOf 0 = .ok (.aload_n 0, 1) := by decide +kernel
theorem d_Md_sideOf_1 : decode b_Md_sideOf 1 = .ok (.iload_n 1, 1) := by decide +kernel
theorem d_Md_sideOf_2 : decode b_Md_sideOf 2 = .ok (.iload_n 2, 1) := by decide +kernel
theorem d_Md_sideOf_3 : decode b_Md_sideOf 3 = .ok (.aload_n 0, 1) := by decide +kernel
theorem d_Md_sideOf_4 : decode b_Md_sideOf 4 = .ok (.getfield 7, 3) := by decide +kernel
theorem d_Md_sideOf_7 : decode b_Md_sideOf 7 = .ok (.iload_n 3, 1) := by decide +kernel
theorem d_Md_sideOf_8 : decode b_Md_sideOf 8 = .ok (.iaload, 1) := by decide +kernel
theorem d_Md_sideOf_9 : decode b_Md_sideOf 9 = .ok (.aload_n 0, 1) := by decide +kernel
theorem d_Md_sideOf_10 : decode b_Md_sideOf 10 = .ok (.getfield 13, 3) := by decide +kernel
theorem d_Md_sideOf_13 : decode b_Md_sideOf 13 = .ok (.iload_n 3, 1) := by decide +kernel
theorem d_Md_sideOf_14 : decode b_Md_sideOf 14 = .ok (.iaload, 1) := by decide +kernel
theorem d_Md_sideOf_15 : decode b_Md_sideOf 15 = .ok (.invokevirtual 64, 3) := by decide +kernel
theorem d_Md_sideOf_18 : decode b_Md_sideOf 18 = .ok (.ireturn, 1) := by decide +kernel
theorem d_Md_product_0 : decode b_Md_product 0 = .ok (.lload_n 1, 1) := by decide +kernel
theorem d_Md_product_1 : decode b_Md_product 1 = .ok (.bipush 42, 2) := by decide +kernel
theorem d_Md_product_3 : decode b_Md_product 3 = .ok (.lshr, 1) := by decide +kernel
theorem d_Md_product_4 : decode b_Md_product 4 = .ok (.lstore 5, 2) := by decide +kernel
theorem d_Md_product_6 : decode b_Md_product 6 = .ok (.lload_n 1, 1) := by decide +kernel
theorem d_Md_product_7 : decode b_Md_product 7 = .ok (.bipush 21, 2) := by decide +kernel
theorem d_Md_product_9 : decode b_Md_product 9 = .ok (.lshr, 1) := by decide +kernel
theorem d_Md_product_10 : decode b_Md_product 10 = .ok (.ldc2_w 68, 3) := by decide +kernel
theorem d_Md_product_13 : decode b_Md_product 13 = .ok (.land, 1) := by decide +kernel
theorem d_Md_product_14 : decode b_Md_product 14 = .ok (.lstore 7, 2) := by decide +kernel
theorem d_Md_product_16 : decode b_Md_product 16 = .ok (.lload_n 1, 1) := by decide +kernel
theorem d_Md_product_17 : decode b_Md_product 17 = .ok (.ldc2_w 68, 3) := by decide +kernel
theorem d_Md_product_20 : decode b_Md_product 20 = .ok (.land, 1) := by decide +kernel
theorem d_Md_product_21 : decode b_Md_product 21 = .ok (.lstore 9, 2) := by decide +kernel
theorem d_Md_product_23 : decode b_Md_product 23 = .ok (.lload_n 3, 1) := by decide +kernel
theorem d_Md_product_24 : decode b_Md_product 24 = .ok (.bipush 42, 2) := by decide +kernel
theorem d_Md_product_26 : decode b_Md_product 26 = .ok (.lshr, 1) := by decide +kernel
theorem d_Md_product_27 : decode b_Md_product 27 = .ok (.lstore 11, 2) := by decide +kernel
theorem d_Md_product_29 : decode b_Md_product 29 = .ok (.lload_n 3, 1) := by decide +kernel
theorem d_Md_product_30 : decode b_Md_product 30 = .ok (.bipush 21, 2) := by decide +kernel
theorem d_Md_product_32 : decode b_Md_product 32 = .ok (.lshr, 1) := by decide +kernel
theorem d_Md_product_33 : decode b_Md_product 33 = .ok (.ldc2_w 68, 3) := by decide +kernel
theorem d_Md_product_36 : decode b_Md_product 36 = .ok (.land, 1) := by decide +kernel
theorem d_Md_product_37 : decode b_Md_product 37 = .ok (.lstore 13, 2) := by decide +kernel
theorem d_Md_product_39 : decode b_Md_product 39 = .ok (.lload_n 3, 1) := by decide +kernel
theorem d_Md_product_40 : decode b_Md_product 40 = .ok (.ldc2_w 68, 3) := by decide +kernel
theorem d_Md_product_43 : decode b_Md_product 43 = .ok (.land, 1) := by decide +kernel
theorem d_Md_product_44 : decode b_Md_product 44 = .ok (.lstore 15, 2) := by decide +kernel
theorem d_Md_product_46 : decode b_Md_product 46 = .ok (.aload_n 0, 1) := by decide +kernel
theorem d_Md_product_47 : decode b_Md_product 47 = .ok (.dup, 1) := by decide +kernel
theorem d_Md_product_48 : decode b_Md_product 48 = .ok (.getfield 70, 3) := by decide +kernel
theorem d_Md_product_51 : decode b_Md_product 51 = .ok (.lload 9, 2) := by decide +kernel
theorem d_Md_product_53 : decode b_Md_product 53 = .ok (.lload 15, 2) := by decide +kernel
theorem d_Md_product_55 : decode b_Md_product 55 = .ok (.lmul, 1) := by decide +kernel
theorem d_Md_product_56 : decode b_Md_product 56 = .ok (.ladd, 1) := by decide +kernel
theorem d_Md_product_57 : decode b_Md_product 57 = .ok (.putfield 70, 3) := by decide +kernel
theorem d_Md_product_60 : decode b_Md_product 60 = .ok (.aload_n 0, 1) := by decide +kernel
theorem d_Md_product_61 : decode b_Md_product 61 = .ok (.dup, 1) := by decide +kernel
theorem d_Md_product_62 : decode b_Md_product 62 = .ok (.getfield 74, 3) := by decide +kernel
theorem d_Md_product_65 : decode b_Md_product 65 = .ok (.lload 7, 2) := by decide +kernel
theorem d_Md_product_67 : decode b_Md_product 67 = .ok (.lload 15, 2) := by decide +kernel
theorem d_Md_product_69 : decode b_Md_product 69 = .ok (.lmul, 1) := by decide +kernel
theorem d_Md_product_70 : decode b_Md_product 70 = .ok (.lload 9, 2) := by decide +kernel
theorem d_Md_product_72 : decode b_Md_product 72 = .ok (.lload 13, 2) := by decide +kernel
theorem d_Md_product_74 : decode b_Md_product 74 = .ok (.lmul, 1) := by decide +kernel
theorem d_Md_product_75 : decode b_Md_product 75 = .ok (.ladd, 1) := by decide +kernel
theorem d_Md_product_76 : decode b_Md_product 76 = .ok (.ladd, 1) := by decide +kernel
theorem d_Md_product_77 : decode b_Md_product 77 = .ok (.putfield 74, 3) := by decide +kernel
theorem d_Md_product_80 : decode b_Md_product 80 = .ok (.aload_n 0, 1) := by decide +kernel
theorem d_Md_product_81 : decode b_Md_product 81 = .ok (.dup, 1) := by decide +kernel
theorem d_Md_product_82 : decode b_Md_product 82 = .ok (.getfield 77, 3) := by decide +kernel
theorem d_Md_product_85 : decode b_Md_product 85 = .ok (.lload 5, 2) := by decide +kernel
theorem d_Md_product_87 : decode b_Md_product 87 = .ok (.lload 15, 2) := by decide +kernel
theorem d_Md_product_89 : decode b_Md_product 89 = .ok (.lmul, 1) := by decide +kernel
theorem d_Md_product_90 : decode b_Md_product 90 = .ok (.lload 7, 2) := by decide +kernel
theorem d_Md_product_92 : decode b_Md_product 92 = .ok (.lload 13, 2) := by decide +kernel
theorem d_Md_product_94 : decode b_Md_product 94 = .ok (.lmul, 1) := by decide +kernel
theorem d_Md_product_95 : decode b_Md_product 95 = .ok (.ladd, 1) := by decide +kernel
theorem d_Md_product_96 : decode b_Md_product 96 = .ok (.lload 9, 2) := by decide +kernel
theorem d_Md_product_98 : decode b_Md_product 98 = .ok (.lload 11, 2) := by decide +kernel
theorem d_Md_product_100 : decode b_Md_product 100 = .ok (.lmul, 1) := by decide +kernel
theorem d_Md_product_101 : decode b_Md_product 101 = .ok (.ladd, 1) := by decide +kernel
theorem d_Md_product_102 : decode b_Md_product 102 = .ok (.ladd, 1) := by decide +kernel
theorem d_Md_product_103 : decode b_Md_product 103 = .ok (.putfield 77, 3) := by decide +kernel
theorem d_Md_product_106 : decode b_Md_product 106 = .ok (.aload_n 0, 1) := by decide +kernel
theorem d_Md_product_107 : decode b_Md_product 107 = .ok (.dup, 1) := by decide +kernel
theorem d_Md_product_108 : decode b_Md_product 108 = .ok (.getfield 80, 3) := by decide +kernel
theorem d_Md_product_111 : decode b_Md_product 111 = .ok (.lload 5, 2) := by decide +kernel
theorem d_Md_product_113 : decode b_Md_product 113 = .ok (.lload 13, 2) := by decide +kernel
theorem d_Md_product_115 : decode b_Md_product 115 = .ok (.lmul, 1) := by decide +kernel
theorem d_Md_product_116 : decode b_Md_product 116 = .ok (.lload 7, 2) := by decide +kernel
theorem d_Md_product_118 : decode b_Md_product 118 = .ok (.lload 11, 2) := by decide +kernel
theorem d_Md_product_120 : decode b_Md_product 120 = .ok (.lmul, 1) := by decide +kernel
theorem d_Md_product_121 : decode b_Md_product 121 = .ok (.ladd, 1) := by decide +kernel
theorem d_Md_product_122 : decode b_Md_product 122 = .ok (.ladd, 1) := by decide +kernel
theorem d_Md_product_123 : decode b_Md_product 123 = .ok (.putfield 80, 3) := by decide +kernel
theorem d_Md_product_126 : decode b_Md_product 126 = .ok (.aload_n 0, 1) := by decide +kernel
theorem d_Md_product_127 : decode b_Md_product 127 = .ok (.dup, 1) := by decide +kernel
theorem d_Md_product_128 : decode b_Md_product 128 = .ok (.getfield 83, 3) := by decide +kernel
theorem d_Md_product_131 : decode b_Md_product 131 = .ok (.lload 5, 2) := by decide +kernel
theorem d_Md_product_133 : decode b_Md_product 133 = .ok (.lload 11, 2) := by decide +kernel
theorem d_Md_product_135 : decode b_Md_product 135 = .ok (.lmul, 1) := by decide +kernel
theorem d_Md_product_136 : decode b_Md_product 136 = .ok (.ladd, 1) := by decide +kernel
theorem d_Md_product_137 : decode b_Md_product 137 = .ok (.putfield 83, 3) := by decide +kernel
theorem d_Md_product_140 : decode b_Md_product 140 = .ok (.return_, 1) := by decide +kernel
theorem d_Md_signOfSum_0 : decode b_Md_signOfSum 0 = .ok (.aload_n 0, 1) := by decide +kernel
theorem d_Md_signOfSum_1 : decode b_Md_signOfSum 1 = .ok (.dup, 1) := by decide +kernel
theorem d_Md_signOfSum_2 : decode b_Md_signOfSum 2 = .ok (.getfield 74, 3) := by decide +kernel
theorem d_Md_signOfSum_5 : decode b_Md_signOfSum 5 = .ok (.aload_n 0, 1) := by decide +kernel
theorem d_Md_signOfSum_6 : decode b_Md_signOfSum 6 = .ok (.getfield 70, 3) := by decide +kernel
theorem d_Md_signOfSum_9 : decode b_Md_signOfSum 9 = .ok (.bipush 21, 2) := by decide +kernel
theorem d_Md_signOfSum_11 : decode b_Md_signOfSum 11 = .ok (.lshr, 1) := by decide +kernel
theorem d_Md_signOfSum_12 : decode b_Md_signOfSum 12 = .ok (.ladd, 1) := by decide +kernel
theorem d_Md_signOfSum_13 : decode b_Md_signOfSum 13 = .ok (.putfield 74, 3) := by decide +kernel
theorem d_Md_signOfSum_16 : decode b_Md_signOfSum 16 = .ok (.aload_n 0, 1) := by decide +kernel
theorem d_Md_signOfSum_17 : decode b_Md_signOfSum 17 = .ok (.aload_n 0, 1) := by decide +kernel
theorem d_Md_signOfSum_18 : decode b_Md_signOfSum 18 = .ok (.getfield 70, 3) := by decide +kernel
theorem d_Md_signOfSum_21 : decode b_Md_signOfSum 21 = .ok (.ldc2_w 68, 3) := by decide +kernel
theorem d_Md_signOfSum_24 : decode b_Md_signOfSum 24 = .ok (.land, 1) := by decide +kernel
theorem d_Md_signOfSum_25 : decode b_Md_signOfSum 25 = .ok (.putfield 70, 3) := by decide +kernel
theorem d_Md_signOfSum_28 : decode b_Md_signOfSum 28 = .ok (.aload_n 0, 1) := by decide +kernel
theorem d_Md_signOfSum_29 : decode b_Md_signOfSum 29 = .ok (.dup, 1) := by decide +kernel
theorem d_Md_signOfSum_30 : decode b_Md_signOfSum 30 = .ok (.getfield 77, 3) := by decide +kernel
theorem d_Md_signOfSum_33 : decode b_Md_signOfSum 33 = .ok (.aload_n 0, 1) := by decide +kernel
theorem d_Md_signOfSum_34 : decode b_Md_signOfSum 34 = .ok (.getfield 74, 3) := by decide +kernel
theorem d_Md_signOfSum_37 : decode b_Md_signOfSum 37 = .ok (.bipush 21, 2) := by decide +kernel
theorem d_Md_signOfSum_39 : decode b_Md_signOfSum 39 = .ok (.lshr, 1) := by decide +kernel
theorem d_Md_signOfSum_40 : decode b_Md_signOfSum 40 = .ok (.ladd, 1) := by decide +kernel
theorem d_Md_signOfSum_41 : decode b_Md_signOfSum 41 = .ok (.putfield 77, 3) := by decide +kernel
theorem d_Md_signOfSum_44 : decode b_Md_signOfSum 44 = .ok (.aload_n 0, 1) := by decide +kernel
theorem d_Md_signOfSum_45 : decode b_Md_signOfSum 45 = .ok (.aload_n 0, 1) := by decide +kernel
theorem d_Md_signOfSum_46 : decode b_Md_signOfSum 46 = .ok (.getfield 74, 3) := by decide +kernel
theorem d_Md_signOfSum_49 : decode b_Md_signOfSum 49 = .ok (.ldc2_w 68, 3) := by decide +kernel
theorem d_Md_signOfSum_52 : decode b_Md_signOfSum 52 = .ok (.land, 1) := by decide +kernel
theorem d_Md_signOfSum_53 : decode b_Md_signOfSum 53 = .ok (.putfield 74, 3) := by decide +kernel
theorem d_Md_signOfSum_56 : decode b_Md_signOfSum 56 = .ok (.aload_n 0, 1) := by decide +kernel
theorem d_Md_signOfSum_57 : decode b_Md_signOfSum 57 = .ok (.dup, 1) := by decide +kernel
theorem d_Md_signOfSum_58 : decode b_Md_signOfSum 58 = .ok (.getfield 80, 3) := by decide +kernel
theorem d_Md_signOfSum_61 : decode b_Md_signOfSum 61 = .ok (.aload_n 0, 1) := by decide +kernel
theorem d_Md_signOfSum_62 : decode b_Md_signOfSum 62 = .ok (.getfield 77, 3) := by decide +kernel
theorem d_Md_signOfSum_65 : decode b_Md_signOfSum 65 = .ok (.bipush 21, 2) := by decide +kernel
theorem d_Md_signOfSum_67 : decode b_Md_signOfSum 67 = .ok (.lshr, 1) := by decide +kernel
theorem d_Md_signOfSum_68 : decode b_Md_signOfSum 68 = .ok (.ladd, 1) := by decide +kernel
theorem d_Md_signOfSum_69 : decode b_Md_signOfSum 69 = .ok (.putfield 80, 3) := by decide +kernel
theorem d_Md_signOfSum_72 : decode b_Md_signOfSum 72 = .ok (.aload_n 0, 1) := by decide +kernel
theorem d_Md_signOfSum_73 : decode b_Md_signOfSum 73 = .ok (.aload_n 0, 1) := by decide +kernel
theorem d_Md_signOfSum_74 : decode b_Md_signOfSum 74 = .ok (.getfield 77, 3) := by decide +kernel
theorem d_Md_signOfSum_77 : decode b_Md_signOfSum 77 = .ok (.ldc2_w 68, 3) := by decide +kernel
theorem d_Md_signOfSum_80 : decode b_Md_signOfSum 80 = .ok (.land, 1) := by decide +kernel
theorem d_Md_signOfSum_81 : decode b_Md_signOfSum 81 = .ok (.putfield 77, 3) := by decide +kernel
theorem d_Md_signOfSum_84 : decode b_Md_signOfSum 84 = .ok (.aload_n 0, 1) := by decide +kernel
theorem d_Md_signOfSum_85 : decode b_Md_signOfSum 85 = .ok (.dup, 1) := by decide +kernel
theorem d_Md_signOfSum_86 : decode b_Md_signOfSum 86 = .ok (.getfield 83, 3) := by decide +kernel
theorem d_Md_signOfSum_89 : decode b_Md_signOfSum 89 = .ok (.aload_n 0, 1) := by decide +kernel
theorem d_Md_signOfSum_90 : decode b_Md_signOfSum 90 = .ok (.getfield 80, 3) := by decide +kernel
theorem d_Md_signOfSum_93 : decode b_Md_signOfSum 93 = .ok (.bipush 21, 2) := by decide +kernel
theorem d_Md_signOfSum_95 : decode b_Md_signOfSum 95 = .ok (.lshr, 1) := by decide +kernel
theorem d_Md_signOfSum_96 : decode b_Md_signOfSum 96 = .ok (.ladd, 1) := by decide +kernel
theorem d_Md_signOfSum_97 : decode b_Md_signOfSum 97 = .ok (.putfield 83, 3) := by decide +kernel
theorem d_Md_signOfSum_100 : decode b_Md_signOfSum 100 = .ok (.aload_n 0, 1) := by decide +kernel
theorem d_Md_signOfSum_101 : decode b_Md_signOfSum 101 = .ok (.aload_n 0, 1) := by decide +kernel
theorem d_Md_signOfSum_102 : decode b_Md_signOfSum 102 = .ok (.getfield 80, 3) := by decide +kernel
theorem d_Md_signOfSum_105 : decode b_Md_signOfSum 105 = .ok (.ldc2_w 68, 3) := by decide +kernel
theorem d_Md_signOfSum_108 : decode b_Md_signOfSum 108 = .ok (.land, 1) := by decide +kernel
theorem d_Md_signOfSum_109 : decode b_Md_signOfSum 109 = .ok (.putfield 80, 3) := by decide +kernel
theorem d_Md_signOfSum_112 : decode b_Md_signOfSum 112 = .ok (.aload_n 0, 1) := by decide +kernel
theorem d_Md_signOfSum_113 : decode b_Md_signOfSum 113 = .ok (.getfield 83, 3) := by decide +kernel
theorem d_Md_signOfSum_116 : decode b_Md_signOfSum 116 = .ok (.lconst 0, 1) := by decide +kernel
theorem d_Md_signOfSum_117 : decode b_Md_signOfSum 117 = .ok (.lcmp, 1) := by decide +kernel
theorem d_Md_signOfSum_118 : decode b_Md_signOfSum 118 = .ok (.ifCond .eq 11, 3) := by decide +kernel
theorem d_Md_signOfSum_121 : decode b_Md_signOfSum 121 = .ok (.aload_n 0, 1) := by decide +kernel
theorem d_Md_signOfSum_122 : decode b_Md_signOfSum 122 = .ok (.getfield 83, 3) := by decide +kernel
theorem d_Md_signOfSum_125 : decode b_Md_signOfSum 125 = .ok (.invokestatic 60, 3) := by decide +kernel
theorem d_Md_signOfSum_128 : decode b_Md_signOfSum 128 = .ok (.ireturn, 1) := by decide +kernel
theorem d_Md_signOfSum_129 : decode b_Md_signOfSum 129 = .ok (.aload_n 0, 1) := by decide +kernel
theorem d_Md_signOfSum_130 : decode b_Md_signOfSum 130 = .ok (.getfield 70, 3) := by decide +kernel
theorem d_Md_signOfSum_133 : decode b_Md_signOfSum 133 = .ok (.aload_n 0, 1) := by decide +kernel
theorem d_Md_signOfSum_134 : decode b_Md_signOfSum 134 = .ok (.getfield 74, 3) := by decide +kernel
theorem d_Md_signOfSum_137 : decode b_Md_signOfSum 137 = .ok (.ladd, 1) := by decide +kernel
theorem d_Md_signOfSum_138 : decode b_Md_signOfSum 138 = .ok (.aload_n 0, 1) := by decide +kernel
theorem d_Md_signOfSum_139 : decode b_Md_signOfSum 139 = .ok (.getfield 77, 3) := by decide +kernel
theorem d_Md_signOfSum_142 : decode b_Md_signOfSum 142 = .ok (.ladd, 1) := by decide +kernel
theorem d_Md_signOfSum_143 : decode b_Md_signOfSum 143 = .ok (.aload_n 0, 1) := by decide +kernel
theorem d_Md_signOfSum_144 : decode b_Md_signOfSum 144 = .ok (.getfield 80, 3) := by decide +kernel
theorem d_Md_signOfSum_147 : decode b_Md_signOfSum 147 = .ok (.ladd, 1) := by decide +kernel
theorem d_Md_signOfSum_148 : decode b_Md_signOfSum 148 = .ok (.lconst 0, 1) := by decide +kernel
theorem d_Md_signOfSum_149 : decode b_Md_signOfSum 149 = .ok (.lcmp, 1) := by decide +kernel
theorem d_Md_signOfSum_150 : decode b_Md_signOfSum 150 = .ok (.ifCond .le 7, 3) := by decide +kernel
theorem d_Md_signOfSum_153 : decode b_Md_signOfSum 153 = .ok (.iconst 1, 1) := by decide +kernel
theorem d_Md_signOfSum_154 : decode b_Md_signOfSum 154 = .ok (.goto 4, 3) := by decide +kernel
theorem d_Md_signOfSum_157 : decode b_Md_signOfSum 157 = .ok (.iconst 0, 1) := by decide +kernel
theorem d_Md_signOfSum_158 : decode b_Md_signOfSum 158 = .ok (.ireturn, 1) := by decide +kernel
theorem d_Md_part_0 : decode b_Md_part 0 = .ok (.aload_n 0, 1) := by decide +kernel
theorem d_Md_part_1 : decode b_Md_part 1 = .ok (.getfield 7, 3) := by decide +kernel
theorem d_Md_part_4 : decode b_Md_part 4 = .ok (.iload_n 3, 1) := by decide +kernel
theorem d_Md_part_5 : decode b_Md_part 5 = .ok (.iaload, 1) := by decide +kernel
theorem d_Md_part_6 : decode b_Md_part 6 = .ok (.i2l, 1) := by decide +kernel
theorem d_Md_part_7 : decode b_Md_part 7 = .ok (.aload_n 0, 1) := by decide +kernel
theorem d_Md_part_8 : decode b_Md_part 8 = .ok (.getfield 7, 3) := by decide +kernel
theorem d_Md_part_11 : decode b_Md_part 11 = .ok (.iload 4, 2) := by decide +kernel
theorem d_Md_part_13 : decode b_Md_part 13 = .ok (.iaload, 1) := by decide +kernel
theorem d_Md_part_14 : decode b_Md_part 14 = .ok (.i2l, 1) := by decide +kernel
theorem d_Md_part_15 : decode b_Md_part 15 = .ok (.lsub, 1) := by decide +kernel
theorem d_Md_part_16 : decode b_Md_part 16 = .ok (.lstore 5, 2) := by decide +kernel
theorem d_Md_part_18 : decode b_Md_part 18 = .ok (.aload_n 0, 1) := by decide +kernel
theorem d_Md_part_19 : decode b_Md_part 19 = .ok (.getfield 13, 3) := by decide +kernel
theorem d_Md_part_22 : decode b_Md_part 22 = .ok (.iload_n 3, 1) := by decide +kernel
theorem d_Md_part_23 : decode b_Md_part 23 = .ok (.iaload, 1) := by decide +kernel
theorem d_Md_part_24 : decode b_Md_part 24 = .ok (.i2l, 1) := by decide +kernel
theorem d_Md_part_25 : decode b_Md_part 25 = .ok (.aload_n 0, 1) := by decide +kernel
theorem d_Md_part_26 : decode b_Md_part 26 = .ok (.getfield 13, 3) := by decide +kernel
theorem d_Md_part_29 : decode b_Md_part 29 = .ok (.iload 4, 2) := by decide +kernel
theorem d_Md_part_31 : decode b_Md_part 31 = .ok (.iaload, 1) := by decide +kernel
theorem d_Md_part_32 : decode b_Md_part 32 = .ok (.i2l, 1) := by decide +kernel
theorem d_Md_part_33 : decode b_Md_part 33 = .ok (.lsub, 1) := by decide +kernel
theorem d_Md_part_34 : decode b_Md_part 34 = .ok (.lstore 7, 2) := by decide +kernel
theorem d_Md_part_36 : decode b_Md_part 36 = .ok (.aload_n 0, 1) := by decide +kernel
theorem d_Md_part_37 : decode b_Md_part 37 = .ok (.lload 5, 2) := by decide +kernel
theorem d_Md_part_39 : decode b_Md_part 39 = .ok (.lload 5, 2) := by decide +kernel
theorem d_Md_part_41 : decode b_Md_part 41 = .ok (.lmul, 1) := by decide +kernel
theorem d_Md_part_42 : decode b_Md_part 42 = .ok (.lload 7, 2) := by decide +kernel
theorem d_Md_part_44 : decode b_Md_part 44 = .ok (.lload 7, 2) := by decide +kernel
theorem d_Md_part_46 : decode b_Md_part 46 = .ok (.lmul, 1) := by decide +kernel
theorem d_Md_part_47 : decode b_Md_part 47 = .ok (.ladd, 1) := by decide +kernel
theorem d_Md_part_48 : decode b_Md_part 48 = .ok (.aload_n 0, 1) := by decide +kernel
theorem d_Md_part_49 : decode b_Md_part 49 = .ok (.getfield 7, 3) := by decide +kernel
theorem d_Md_part_52 : decode b_Md_part 52 = .ok (.iload_n 1, 1) := by decide +kernel
theorem d_Md_part_53 : decode b_Md_part 53 = .ok (.iaload, 1) := by decide +kernel
theorem d_Md_part_54 : decode b_Md_part 54 = .ok (.i2l, 1) := by decide +kernel
theorem d_Md_part_55 : decode b_Md_part 55 = .ok (.aload_n 0, 1) := by decide +kernel
theorem d_Md_part_56 : decode b_Md_part 56 = .ok (.getfield 7, 3) := by decide +kernel
theorem d_Md_part_59 : decode b_Md_part 59 = .ok (.iload 4, 2) := by decide +kernel
theorem d_Md_part_61 : decode b_Md_part 61 = .ok (.iaload, 1) := by decide +kernel
theorem d_Md_part_62 : decode b_Md_part 62 = .ok (.i2l, 1) := by decide +kernel
theorem d_Md_part_63 : decode b_Md_part 63 = .ok (.lsub, 1) := by decide +kernel
theorem d_Md_part_64 : decode b_Md_part 64 = .ok (.aload_n 0, 1) := by decide +kernel
theorem d_Md_part_65 : decode b_Md_part 65 = .ok (.getfield 13, 3) := by decide +kernel
theorem d_Md_part_68 : decode b_Md_part 68 = .ok (.iload_n 1, 1) := by decide +kernel
theorem d_Md_part_69 : decode b_Md_part 69 = .ok (.iaload, 1) := by decide +kernel
theorem d_Md_part_70 : decode b_Md_part 70 = .ok (.i2l, 1) := by decide +kernel
theorem d_Md_part_71 : decode b_Md_part 71 = .ok (.aload_n 0, 1) := by decide +kernel
theorem d_Md_part_72 : decode b_Md_part 72 = .ok (.getfield 13, 3) := by decide +kernel
theorem d_Md_part_75 : decode b_Md_part 75 = .ok (.iload 4, 2) := by decide +kernel
theorem d_Md_part_77 : decode b_Md_part 77 = .ok (.iaload, 1) := by decide +kernel
theorem d_Md_part_78 : decode b_Md_part 78 = .ok (.i2l, 1) := by decide +kernel
theorem d_Md_part_79 : decode b_Md_part 79 = .ok (.lsub, 1) := by decide +kernel
theorem d_Md_part_80 : decode b_Md_part 80 = .ok (.aload_n 0, 1) := by decide +kernel
theorem d_Md_part_81 : decode b_Md_part 81 = .ok (.getfield 7, 3) := by decide +kernel
theorem d_Md_part_84 : decode b_Md_part 84 = .ok (.iload_n 2, 1) := by decide +kernel
theorem d_Md_part_85 : decode b_Md_part 85 = .ok (.iaload, 1) := by decide +kernel
theorem d_Md_part_86 : decode b_Md_part 86 = .ok (.i2l, 1) := by decide +kernel
theorem d_Md_part_87 : decode b_Md_part 87 = .ok (.aload_n 0, 1) := by decide +kernel
theorem d_Md_part_88 : decode b_Md_part 88 = .ok (.getfield 7, 3) := by decide +kernel
theorem d_Md_part_91 : decode b_Md_part 91 = .ok (.iload 4, 2) := by decide +kernel
theorem d_Md_part_93 : decode b_Md_part 93 = .ok (.iaload, 1) := by decide +kernel
theorem d_Md_part_94 : decode b_Md_part 94 = .ok (.i2l, 1) := by decide +kernel
theorem d_Md_part_95 : decode b_Md_part 95 = .ok (.lsub, 1) := by decide +kernel
theorem d_Md_part_96 : decode b_Md_part 96 = .ok (.aload_n 0, 1) := by decide +kernel
theorem d_Md_part_97 : decode b_Md_part 97 = .ok (.getfield 13, 3) := by decide +kernel
theorem d_Md_part_100 : decode b_Md_part 100 = .ok (.iload_n 2, 1) := by decide +kernel
theorem d_Md_part_101 : decode b_Md_part 101 = .ok (.iaload, 1) := by decide +kernel
theorem d_Md_part_102 : decode b_Md_part 102 = .ok (.i2l, 1) := by decide +kernel
theorem d_Md_part_103 : decode b_Md_part 103 = .ok (.aload_n 0, 1) := by decide +kernel
theorem d_Md_part_104 : decode b_Md_part 104 = .ok (.getfield 13, 3) := by decide +kernel
theorem d_Md_part_107 : decode b_Md_part 107 = .ok (.iload 4, 2) := by decide +kernel
theorem d_Md_part_109 : decode b_Md_part 109 = .ok (.iaload, 1) := by decide +kernel
theorem d_Md_part_110 : decode b_Md_part 110 = .ok (.i2l, 1) := by decide +kernel
theorem d_Md_part_111 : decode b_Md_part 111 = .ok (.lsub, 1) := by decide +kernel
theorem d_Md_part_112 : decode b_Md_part 112 = .ok (.invokestatic 56, 3) := by decide +kernel
theorem d_Md_part_115 : decode b_Md_part 115 = .ok (.invokevirtual 86, 3) := by decide +kernel
theorem d_Md_part_118 : decode b_Md_part 118 = .ok (.return_, 1) := by decide +kernel
theorem d_Md_inCircle_0 : decode b_Md_inCircle 0 = .ok (.aload_n 0, 1) := by decide +kernel
theorem d_Md_inCircle_1 : decode b_Md_inCircle 1 = .ok (.lconst 0, 1) := by decide +kernel
theorem d_Md_inCircle_2 : decode b_Md_inCircle 2 = .ok (.putfield 70, 3) := by decide +kernel
theorem d_Md_inCircle_5 : decode b_Md_inCircle 5 = .ok (.aload_n 0, 1) := by decide +kernel
theorem d_Md_inCircle_6 : decode b_Md_inCircle 6 = .ok (.lconst 0, 1) := by decide +kernel
theorem d_Md_inCircle_7 : decode b_Md_inCircle 7 = .ok (.putfield 74, 3) := by decide +kernel
theorem d_Md_inCircle_10 : decode b_Md_inCircle 10 = .ok (.aload_n 0, 1) := by decide +kernel
theorem d_Md_inCircle_11 : decode b_Md_inCircle 11 = .ok (.lconst 0, 1) := by decide +kernel
theorem d_Md_inCircle_12 : decode b_Md_inCircle 12 = .ok (.putfield 77, 3) := by decide +kernel
theorem d_Md_inCircle_15 : decode b_Md_inCircle 15 = .ok (.aload_n 0, 1) := by decide +kernel
theorem d_Md_inCircle_16 : decode b_Md_inCircle 16 = .ok (.lconst 0, 1) := by decide +kernel
theorem d_Md_inCircle_17 : decode b_Md_inCircle 17 = .ok (.putfield 80, 3) := by decide +kernel
theorem d_Md_inCircle_20 : decode b_Md_inCircle 20 = .ok (.aload_n 0, 1) := by decide +kernel
theorem d_Md_inCircle_21 : decode b_Md_inCircle 21 = .ok (.lconst 0, 1) := by decide +kernel
theorem d_Md_inCircle_22 : decode b_Md_inCircle 22 = .ok (.putfield 83, 3) := by decide +kernel
theorem d_Md_inCircle_25 : decode b_Md_inCircle 25 = .ok (.aload_n 0, 1) := by decide +kernel
theorem d_Md_inCircle_26 : decode b_Md_inCircle 26 = .ok (.iload_n 1, 1) := by decide +kernel
theorem d_Md_inCircle_27 : decode b_Md_inCircle 27 = .ok (.iload_n 2, 1) := by decide +kernel
theorem d_Md_inCircle_28 : decode b_Md_inCircle 28 = .ok (.iload_n 3, 1) := by decide +kernel
theorem d_Md_inCircle_29 : decode b_Md_inCircle 29 = .ok (.iload 4, 2) := by decide +kernel
theorem d_Md_inCircle_31 : decode b_Md_inCircle 31 = .ok (.invokevirtual 90, 3) := by decide +kernel
theorem d_Md_inCircle_34 : decode b_Md_inCircle 34 = .ok (.aload_n 0, 1) := by decide +kernel
theorem d_Md_inCircle_35 : decode b_Md_inCircle 35 = .ok (.iload_n 2, 1) := by decide +kernel
theorem d_Md_inCircle_36 : decode b_Md_inCircle 36 = .ok (.iload_n 3, 1) := by decide +kernel
theorem d_Md_inCircle_37 : decode b_Md_inCircle 37 = .ok (.iload_n 1, 1) := by decide +kernel
theorem d_Md_inCircle_38 : decode b_Md_inCircle 38 = .ok (.iload 4, 2) := by decide +kernel
theorem d_Md_inCircle_40 : decode b_Md_inCircle 40 = .ok (.invokevirtual 90, 3) := by decide +kernel
theorem d_Md_inCircle_43 : decode b_Md_inCircle 43 = .ok (.aload_n 0, 1) := by decide +kernel
theorem d_Md_inCircle_44 : decode b_Md_inCircle 44 = .ok (.iload_n 3, 1) := by decide +kernel
theorem d_Md_inCircle_45 : decode b_Md_inCircle 45 = .ok (.iload_n 1, 1) := by decide +kernel
theorem d_Md_inCircle_46 : decode b_Md_inCircle 46 = .ok (.iload_n 2, 1) := by decide +kernel
theorem d_Md_inCircle_47 : decode b_Md_inCircle 47 = .ok (.iload 4, 2) := by decide +kernel
theorem d_Md_inCircle_49 : decode b_Md_inCircle 49 = .ok (.invokevirtual 90, 3) := by decide +kernel
theorem d_Md_inCircle_52 : decode b_Md_inCircle 52 = .ok (.aload_n 0, 1) := by decide +kernel
theorem d_Md_inCircle_53 : decode b_Md_inCircle 53 = .ok (.invokevirtual 94, 3) := by decide +kernel
theorem d_Md_inCircle_56 : decode b_Md_inCircle 56 = .ok (.ireturn, 1) := by decide +kernel
theorem d_Md_isLess_0 : decode b_Md_isLess 0 = .ok (.aload_n 0, 1) := by decide +kernel
theorem d_Md_isLess_1 : decode b_Md_isLess 1 = .ok (.getfield 7, 3) := by decide +kernel
theorem d_Md_isLess_4 : decode b_Md_isLess 4 = .ok (.iload_n 1, 1) := by decide +kernel
theorem d_Md_isLess_5 : decode b_Md_isLess 5 = .ok (.iaload, 1) := by decide +kernel
theorem d_Md_isLess_6 : decode b_Md_isLess 6 = .ok (.aload_n 0, 1) := by decide +kernel
theorem d_Md_isLess_7 : decode b_Md_isLess 7 = .ok (.getfield 7, 3) := by decide +kernel
theorem d_Md_isLess_10 : decode b_Md_isLess 10 = .ok (.iload_n 2, 1) := by decide +kernel
theorem d_Md_isLess_11 : decode b_Md_isLess 11 = .ok (.iaload, 1) := by decide +kernel
theorem d_Md_isLess_12 : decode b_Md_isLess 12 = .ok (.if_icmp .lt 33, 3) := by decide +kernel
theorem d_Md_isLess_15 : decode b_Md_isLess 15 = .ok (.aload_n 0, 1) := by decide +kernel
theorem d_Md_isLess_16 : decode b_Md_isLess 16 = .ok (.getfield 7, 3) := by decide +kernel
theorem d_Md_isLess_19 : decode b_Md_isLess 19 = .ok (.iload_n 1, 1) := by decide +kernel
theorem d_Md_isLess_20 : decode b_Md_isLess 20 = .ok (.iaload, 1) := by decide +kernel
theorem d_Md_isLess_21 : decode b_Md_isLess 21 = .ok (.aload_n 0, 1) := by decide +kernel
theorem d_Md_isLess_22 : decode b_Md_isLess 22 = .ok (.getfield 7, 3) := by decide +kernel
theorem d_Md_isLess_25 : decode b_Md_isLess 25 = .ok (.iload_n 2, 1) := by decide +kernel
theorem d_Md_isLess_26 : decode b_Md_isLess 26 = .ok (.iaload, 1) := by decide +kernel
theorem d_Md_isLess_27 : decode b_Md_isLess 27 = .ok (.if_icmp .ne 22, 3) := by decide +kernel
theorem d_Md_isLess_30 : decode b_Md_isLess 30 = .ok (.aload_n 0, 1) := by decide +kernel
theorem d_Md_isLess_31 : decode b_Md_isLess 31 = .ok (.getfield 13, 3) := by decide +kernel
theorem d_Md_isLess_34 : decode b_Md_isLess 34 = .ok (.iload_n 1, 1) := by decide +kernel
theorem d_Md_isLess_35 : decode b_Md_isLess 35 = .ok (.iaload, 1) := by decide +kernel
theorem d_Md_isLess_36 : decode b_Md_isLess 36 = .ok (.aload_n 0, 1) := by decide +kernel
theorem d_Md_isLess_37 : decode b_Md_isLess 37 = .ok (.getfield 13, 3) := by decide +kernel
theorem d_Md_isLess_40 : decode b_Md_isLess 40 = .ok (.iload_n 2, 1) := by decide +kernel
theorem d_Md_isLess_41 : decode b_Md_isLess 41 = .ok (.iaload, 1) := by decide +kernel
theorem d_Md_isLess_42 : decode b_Md_isLess 42 = .ok (.if_icmp .ge 7, 3) := by decide +kernel
theorem d_Md_isLess_45 : decode b_Md_isLess 45 = .ok (.iconst 1, 1) := by decide +kernel
theorem d_Md_isLess_46 : decode b_Md_isLess 46 = .ok (.goto 4, 3) := by decide +kernel
theorem d_Md_isLess_49 : decode b_Md_isLess 49 = .ok (.iconst 0, 1) := by decide +kernel
theorem d_Md_isLess_50 : decode b_Md_isLess 50 = .ok (.ireturn, 1) := by decide +kernel
theorem d_Md_apart_0 : decode b_Md_apart 0 = .ok (.aload_n 0, 1) := by decide +kernel
theorem d_Md_apart_1 : decode b_Md_apart 1 = .ok (.getfield 7, 3) := by decide +kernel
theorem d_Md_apart_4 : decode b_Md_apart 4 = .ok (.iload_n 1, 1) := by decide +kernel
theorem d_Md_apart_5 : decode b_Md_apart 5 = .ok (.iaload, 1) := by decide +kernel
theorem d_Md_apart_6 : decode b_Md_apart 6 = .ok (.i2l, 1) := by decide +kernel
theorem d_Md_apart_7 : decode b_Md_apart 7 = .ok (.iload_n 2, 1) := by decide +kernel
theorem d_Md_apart_8 : decode b_Md_apart 8 = .ok (.i2l, 1) := by decide +kernel
theorem d_Md_apart_9 : decode b_Md_apart 9 = .ok (.lsub, 1) := by decide +kernel
theorem d_Md_apart_10 : decode b_Md_apart 10 = .ok (.lstore 4, 2) := by decide +kernel
theorem d_Md_apart_12 : decode b_Md_apart 12 = .ok (.aload_n 0, 1) := by decide +kernel
theorem d_Md_apart_13 : decode b_Md_apart 13 = .ok (.getfield 13, 3) := by decide +kernel
theorem d_Md_apart_16 : decode b_Md_apart 16 = .ok (.iload_n 1, 1) := by decide +kernel
theorem d_Md_apart_17 : decode b_Md_apart 17 = .ok (.iaload, 1) := by decide +kernel
theorem d_Md_apart_18 : decode b_Md_apart 18 = .ok (.i2l, 1) := by decide +kernel
theorem d_Md_apart_19 : decode b_Md_apart 19 = .ok (.iload_n 3, 1) := by decide +kernel
theorem d_Md_apart_20 : decode b_Md_apart 20 = .ok (.i2l, 1) := by decide +kernel
theorem d_Md_apart_21 : decode b_Md_apart 21 = .ok (.lsub, 1) := by decide +kernel
theorem d_Md_apart_22 : decode b_Md_apart 22 = .ok (.lstore 6, 2) := by decide +kernel
theorem d_Md_apart_24 : decode b_Md_apart 24 = .ok (.lload 4, 2) := by decide +kernel
theorem d_Md_apart_26 : decode b_Md_apart 26 = .ok (.lload 4, 2) := by decide +kernel
theorem d_Md_apart_28 : decode b_Md_apart 28 = .ok (.lmul, 1) := by decide +kernel
theorem d_Md_apart_29 : decode b_Md_apart 29 = .ok (.lload 6, 2) := by decide +kernel
theorem d_Md_apart_31 : decode b_Md_apart 31 = .ok (.lload 6, 2) := by decide +kernel
theorem d_Md_apart_33 : decode b_Md_apart 33 = .ok (.lmul, 1) := by decide +kernel
theorem d_Md_apart_34 : decode b_Md_apart 34 = .ok (.ladd, 1) := by decide +kernel
theorem d_Md_apart_35 : decode b_Md_apart 35 = .ok (.lreturn, 1) := by decide +kernel
theorem d_Md_findPoint_0 : decode b_Md_findPoint 0 = .ok (.iconst (-1), 1) := by decide +kernel
theorem d_Md_findPoint_1 : decode b_Md_findPoint 1 = .ok (.istore_n 3, 1) := by decide +kernel
theorem d_Md_findPoint_2 : decode b_Md_findPoint 2 = .ok (.iconst 0, 1) := by decide +kernel
theorem d_Md_findPoint_3 : decode b_Md_findPoint 3 = .ok (.istore 4, 2) := by decide +kernel
theorem d_Md_findPoint_5 : decode b_Md_findPoint 5 = .ok (.iload 4, 2) := by decide +kernel
theorem d_Md_findPoint_7 : decode b_Md_findPoint 7 = .ok (.aload_n 0, 1) := by decide +kernel
theorem d_Md_findPoint_8 : decode b_Md_findPoint 8 = .ok (.getfield 98, 3) := by decide +kernel
theorem d_Md_findPoint_11 : decode b_Md_findPoint 11 = .ok (.if_icmp .ge 38, 3) := by decide +kernel
theorem d_Md_findPoint_14 : decode b_Md_findPoint 14 = .ok (.aload_n 0, 1) := by decide +kernel
theorem d_Md_findPoint_15 : decode b_Md_findPoint 15 = .ok (.getfield 7, 3) := by decide +kernel
theorem d_Md_findPoint_18 : decode b_Md_findPoint 18 = .ok (.iload 4, 2) := by decide +kernel
theorem d_Md_findPoint_20 : decode b_Md_findPoint 20 = .ok (.iaload, 1) := by decide +kernel
theorem d_Md_findPoint_21 : decode b_Md_findPoint 21 = .ok (.iload_n 1, 1) := by decide +kernel
theorem d_Md_findPoint_22 : decode b_Md_findPoint 22 = .ok (.if_icmp .ne 19, 3) := by decide +kernel
theorem d_Md_findPoint_25 : decode b_Md_findPoint 25 = .ok (.aload_n 0, 1) := by decide +kernel
theorem d_Md_findPoint_26 : decode b_Md_findPoint 26 = .ok (.getfield 13, 3) := by decide +kernel
theorem d_Md_findPoint_29 : decode b_Md_findPoint 29 = .ok (.iload 4, 2) := by decide +kernel
theorem d_Md_findPoint_31 : decode b_Md_findPoint 31 = .ok (.iaload, 1) := by decide +kernel
theorem d_Md_findPoint_32 : decode b_Md_findPoint 32 = .ok (.iload_n 2, 1) := by decide +kernel
theorem d_Md_findPoint_33 : decode b_Md_findPoint 33 = .ok (.if_icmp .ne 8, 3) := by decide +kernel
theorem d_Md_findPoint_36 : decode b_Md_findPoint 36 = .ok (.iload 4, 2) := by decide +kernel
theorem d_Md_findPoint_38 : decode b_Md_findPoint 38 = .ok (.goto 4, 3) := by decide +kernel
theorem d_Md_findPoint_41 : decode b_Md_findPoint 41 = .ok (.iload_n 3, 1) := by decide +kernel
theorem d_Md_findPoint_42 : decode b_Md_findPoint 42 = .ok (.istore_n 3, 1) := by decide +kernel
theorem d_Md_findPoint_43 : decode b_Md_findPoint 43 = .ok (.iinc 4 1, 3) := by decide +kernel
theorem d_Md_findPoint_46 : decode b_Md_findPoint 46 = .ok (.goto (-41), 3) := by decide +kernel
theorem d_Md_findPoint_49 : decode b_Md_findPoint 49 = .ok (.iload_n 3, 1) := by decide +kernel
theorem d_Md_findPoint_50 : decode b_Md_findPoint 50 = .ok (.ireturn, 1) := by decide +kernel
theorem d_Md_forget_0 : decode b_Md_forget 0 = .ok (.aload_n 0, 1) := by decide +kernel
theorem d_Md_forget_1 : decode b_Md_forget 1 = .ok (.iconst 0, 1) := by decide +kernel
theorem d_Md_forget_2 : decode b_Md_forget 2 = .ok (.putfield 101, 3) := by decide +kernel
theorem d_Md_forget_5 : decode b_Md_forget 5 = .ok (.iconst 0, 1) := by decide +kernel
theorem d_Md_forget_6 : decode b_Md_forget 6 = .ok (.istore_n 1, 1) := by decide +kernel
theorem d_Md_forget_7 : decode b_Md_forget 7 = .ok (.iload_n 1, 1) := by decide +kernel
theorem d_Md_forget_8 : decode b_Md_forget 8 = .ok (.iconst 3, 1) := by decide +kernel
theorem d_Md_forget_9 : decode b_Md_forget 9 = .ok (.if_icmp .ge 16, 3) := by decide +kernel
theorem d_Md_forget_12 : decode b_Md_forget 12 = .ok (.aload_n 0, 1) := by decide +kernel
theorem d_Md_forget_13 : decode b_Md_forget 13 = .ok (.getfield 40, 3) := by decide +kernel
theorem d_Md_forget_16 : decode b_Md_forget 16 = .ok (.iload_n 1, 1) := by decide +kernel
theorem d_Md_forget_17 : decode b_Md_forget 17 = .ok (.iconst (-1), 1) := by decide +kernel
theorem d_Md_forget_18 : decode b_Md_forget 18 = .ok (.iastore, 1) := by decide +kernel
theorem d_Md_forget_19 : decode b_Md_forget 19 = .ok (.iinc 1 1, 3) := by decide +kernel
theorem d_Md_forget_22 : decode b_Md_forget 22 = .ok (.goto (-15), 3) := by decide +kernel
theorem d_Md_forget_25 : decode b_Md_forget 25 = .ok (.return_, 1) := by decide +kernel
theorem d_Md_add_0 : decode b_Md_add 0 = .ok (.aload_n 0, 1) := by decide +kernel
theorem d_Md_add_1 : decode b_Md_add 1 = .ok (.iconst 0, 1) := by decide +kernel
theorem d_Md_add_2 : decode b_Md_add 2 = .ok (.putfield 47, 3) := by decide +kernel
theorem d_Md_add_5 : decode b_Md_add 5 = .ok (.iload_n 1, 1) := by decide +kernel
theorem d_Md_add_6 : decode b_Md_add 6 = .ok (.iload_n 2, 1) := by decide +kernel
theorem d_Md_add_7 : decode b_Md_add 7 = .ok (.invokestatic 105, 3) := by decide +kernel
theorem d_Md_add_10 : decode b_Md_add 10 = .ok (.ifCond .eq 9, 3) := by decide +kernel
theorem d_Md_add_13 : decode b_Md_add 13 = .ok (.aload_n 0, 1) := by decide +kernel
theorem d_Md_add_14 : decode b_Md_add 14 = .ok (.iconst 1, 1) := by decide +kernel
theorem d_Md_add_15 : decode b_Md_add 15 = .ok (.invokevirtual 109, 3) := by decide +kernel
theorem d_Md_add_18 : decode b_Md_add 18 = .ok (.ireturn, 1) := by decide +kernel
theorem d_Md_add_19 : decode b_Md_add 19 = .ok (.aload_n 0, 1) := by decide +kernel
theorem d_Md_add_20 : decode b_Md_add 20 = .ok (.iload_n 1, 1) := by decide +kernel
theorem d_Md_add_21 : decode b_Md_add 21 = .ok (.iload_n 2, 1) := by decide +kernel
theorem d_Md_add_22 : decode b_Md_add 22 = .ok (.invokevirtual 113, 3) := by decide +kernel
theorem d_Md_add_25 : decode b_Md_add 25 = .ok (.ifCond .lt 5, 3) := by decide +kernel
theorem d_Md_add_28 : decode b_Md_add 28 = .ok (.iconst (-1), 1) := by decide +kernel
theorem d_Md_add_29 : decode b_Md_add 29 = .ok (.ireturn, 1) := by decide +kernel
theorem d_Md_add_30 : decode b_Md_add 30 = .ok (.aload_n 0, 1) := by decide +kernel
theorem d_Md_add_31 : decode b_Md_add 31 = .ok (.getfield 98, 3) := by decide +kernel
theorem d_Md_add_34 : decode b_Md_add 34 = .ok (.aload_n 0, 1) := by decide +kernel
theorem d_Md_add_35 : decode b_Md_add 35 = .ok (.getfield 43, 3) := by decide +kernel
theorem d_Md_add_38 : decode b_Md_add 38 = .ok (.if_icmp .ne 9, 3) := by decide +kernel
theorem d_Md_add_41 : decode b_Md_add 41 = .ok (.aload_n 0, 1) := by decide +kernel
theorem d_Md_add_42 : decode b_Md_add 42 = .ok (.iconst 2, 1) := by decide +kernel
theorem d_Md_add_43 : decode b_Md_add 43 = .ok (.invokevirtual 109, 3) := by decide +kernel
theorem d_Md_add_46 : decode b_Md_add 46 = .ok (.ireturn, 1) := by decide +kernel
theorem d_Md_add_47 : decode b_Md_add 47 = .ok (.aload_n 0, 1) := by decide +kernel
theorem d_Md_add_48 : decode b_Md_add 48 = .ok (.getfield 7, 3) := by decide +kernel
theorem d_Md_add_51 : decode b_Md_add 51 = .ok (.aload_n 0, 1) := by decide +kernel
theorem d_Md_add_52 : decode b_Md_add 52 = .ok (.getfield 98, 3) := by decide +kernel
theorem d_Md_add_55 : decode b_Md_add 55 = .ok (.iload_n 1, 1) := by decide +kernel
theorem d_Md_add_56 : decode b_Md_add 56 = .ok (.iastore, 1) := by decide +kernel
theorem d_Md_add_57 : decode b_Md_add 57 = .ok (.aload_n 0, 1) := by decide +kernel
theorem d_Md_add_58 : decode b_Md_add 58 = .ok (.getfield 13, 3) := by decide +kernel
theorem d_Md_add_61 : decode b_Md_add 61 = .ok (.aload_n 0, 1) := by decide +kernel
theorem d_Md_add_62 : decode b_Md_add 62 = .ok (.getfield 98, 3) := by decide +kernel
theorem d_Md_add_65 : decode b_Md_add 65 = .ok (.iload_n 2, 1) := by decide +kernel
theorem d_Md_add_66 : decode b_Md_add 66 = .ok (.iastore, 1) := by decide +kernel
theorem d_Md_add_67 : decode b_Md_add 67 = .ok (.aload_n 0, 1) := by decide +kernel
theorem d_Md_add_68 : decode b_Md_add 68 = .ok (.dup, 1) := by decide +kernel
theorem d_Md_add_69 : decode b_Md_add 69 = .ok (.getfield 98, 3) := by decide +kernel
theorem d_Md_add_72 : decode b_Md_add 72 = .ok (.iconst 1, 1) := by decide +kernel
theorem d_Md_add_73 : decode b_Md_add 73 = .ok (.iadd, 1) := by decide +kernel
theorem d_Md_add_74 : decode b_Md_add 74 = .ok (.putfield 98, 3) := by decide +kernel
theorem d_Md_add_77 : decode b_Md_add 77 = .ok (.aload_n 0, 1) := by decide +kernel
theorem d_Md_add_78 : decode b_Md_add 78 = .ok (.invokevirtual 117, 3) := by decide +kernel
theorem d_Md_add_81 : decode b_Md_add 81 = .ok (.aload_n 0, 1) := by decide +kernel
theorem d_Md_add_82 : decode b_Md_add 82 = .ok (.getfield 98, 3) := by decide +kernel
theorem d_Md_add_85 : decode b_Md_add 85 = .ok (.iconst 1, 1) := by decide +kernel
theorem d_Md_add_86 : decode b_Md_add 86 = .ok (.isub, 1) := by decide +kernel
theorem d_Md_add_87 : decode b_Md_add 87 = .ok (.ireturn, 1) := by decide +kernel
theorem d_Md_clear_0 : decode b_Md_clear 0 = .ok (.aload_n 0, 1) := by decide +kernel
theorem d_Md_clear_1 : decode b_Md_clear 1 = .ok (.iconst 0, 1) := by decide +kernel
theorem d_Md_clear_2 : decode b_Md_clear 2 = .ok (.putfield 47, 3) := by decide +kernel
theorem d_Md_clear_5 : decode b_Md_clear 5 = .ok (.aload_n 0, 1) := by decide +kernel
theorem d_Md_clear_6 : decode b_Md_clear 6 = .ok (.getfield 98, 3) := by decide +kernel
theorem d_Md_clear_9 : decode b_Md_clear 9 = .ok (.istore_n 1, 1) := by decide +kernel
theorem d_Md_clear_10 : decode b_Md_clear 10 = .ok (.aload_n 0, 1) := by decide +kernel
theorem d_Md_clear_11 : decode b_Md_clear 11 = .ok (.iconst 0, 1) := by decide +kernel
theorem d_Md_clear_12 : decode b_Md_clear 12 = .ok (.putfield 98, 3) := by decide +kernel
theorem d_Md_clear_15 : decode b_Md_clear 15 = .ok (.aload_n 0, 1) := by decide +kernel
theorem d_Md_clear_16 : decode b_Md_clear 16 = .ok (.invokevirtual 117, 3) := by decide +kernel
theorem d_Md_clear_19 : decode b_Md_clear 19 = .ok (.iload_n 1, 1) := by decide +kernel
theorem d_Md_clear_20 : decode b_Md_clear 20 = .ok (.ireturn, 1) := by decide +kernel
theorem d_Md_find_0 : decode b_Md_find 0 = .ok (.aload_n 0, 1) := by decide +kernel
theorem d_Md_find_1 : decode b_Md_find 1 = .ok (.iconst 0, 1) := by decide +kernel
theorem d_Md_find_2 : decode b_Md_find 2 = .ok (.putfield 47, 3) := by decide +kernel
theorem d_Md_find_5 : decode b_Md_find 5 = .ok (.iload_n 1, 1) := by decide +kernel
theorem d_Md_find_6 : decode b_Md_find 6 = .ok (.iload_n 2, 1) := by decide +kernel
theorem d_Md_find_7 : decode b_Md_find 7 = .ok (.invokestatic 105, 3) := by decide +kernel
theorem d_Md_find_10 : decode b_Md_find 10 = .ok (.ifCond .eq 11, 3) := by decide +kernel
theorem d_Md_find_13 : decode b_Md_find 13 = .ok (.aload_n 0, 1) := by decide +kernel
theorem d_Md_find_14 : decode b_Md_find 14 = .ok (.iconst 1, 1) := by decide +kernel
theorem d_Md_find_15 : decode b_Md_find 15 = .ok (.invokevirtual 109, 3) := by decide +kernel
theorem d_Md_find_18 : decode b_Md_find 18 = .ok (.goto 9, 3) := by decide +kernel
theorem d_Md_find_21 : decode b_Md_find 21 = .ok (.aload_n 0, 1) := by decide +kernel
theorem d_Md_find_22 : decode b_Md_find 22 = .ok (.iload_n 1, 1) := by decide +kernel
theorem d_Md_find_23 : decode b_Md_find 23 = .ok (.iload_n 2, 1) := by decide +kernel
theorem d_Md_find_24 : decode b_Md_find 24 = .ok (.invokevirtual 113, 3) := by decide +kernel
theorem d_Md_find_27 : decode b_Md_find 27 = .ok (.ireturn, 1) := by decide +kernel
theorem d_Md_least_0 : decode b_Md_least 0 = .ok (.iconst 0, 1) := by decide +kernel
theorem d_Md_least_1 : decode b_Md_least 1 = .ok (.istore_n 1, 1) := by decide +kernel
theorem d_Md_least_2 : decode b_Md_least 2 = .ok (.iconst 1, 1) := by decide +kernel
theorem d_Md_least_3 : decode b_Md_least 3 = .ok (.istore_n 2, 1) := by decide +kernel
theorem d_Md_least_4 : decode b_Md_least 4 = .ok (.iload_n 2, 1) := by decide +kernel
theorem d_Md_least_5 : decode b_Md_least 5 = .ok (.aload_n 0, 1) := by decide +kernel
theorem d_Md_least_6 : decode b_Md_least 6 = .ok (.getfield 98, 3) := by decide +kernel
theorem d_Md_least_9 : decode b_Md_least 9 = .ok (.if_icmp .ge 24, 3) := by decide +kernel
theorem d_Md_least_12 : decode b_Md_least 12 = .ok (.aload_n 0, 1) := by decide +kernel
theorem d_Md_least_13 : decode b_Md_least 13 = .ok (.iload_n 2, 1) := by decide +kernel
theorem d_Md_least_14 : decode b_Md_least 14 = .ok (.iload_n 1, 1) := by decide +kernel
theorem d_Md_least_15 : decode b_Md_least 15 = .ok (.invokevirtual 120, 3) := by decide +kernel
theorem d_Md_least_18 : decode b_Md_least 18 = .ok (.ifCond .eq 7, 3) := by decide +kernel
theorem d_Md_least_21 : decode b_Md_least 21 = .ok (.iload_n 2, 1) := by decide +kernel
theorem d_Md_least_22 : decode b_Md_least 22 = .ok (.goto 4, 3) := by decide +kernel
theorem d_Md_least_25 : decode b_Md_least 25 = .ok (.iload_n 1, 1) := by decide +kernel
theorem d_Md_least_26 : decode b_Md_least 26 = .ok (.istore_n 1, 1) := by decide +kernel
theorem d_Md_least_27 : decode b_Md_least 27 = .ok (.iinc 2 1, 3) := by decide +kernel
theorem d_Md_least_30 : decode b_Md_least 30 = .ok (.goto (-26), 3) := by decide +kernel
theorem d_Md_least_33 : decode b_Md_least 33 = .ok (.iload_n 1, 1) := by decide +kernel
theorem d_Md_least_34 : decode b_Md_least 34 = .ok (.ireturn, 1) := by decide +kernel
theorem d_Md_cornerBehind_0 : decode b_Md_cornerBehind 0 = .ok (.iload_n 1, 1) := by decide +kernel
theorem d_Md_cornerBehind_1 : decode b_Md_cornerBehind 1 = .ok (.ifCond .ne 15, 3) := by decide +kernel
theorem d_Md_cornerBehind_4 : decode b_Md_cornerBehind 4 = .ok (.aload_n 0, 1) := by decide +kernel
theorem d_Md_cornerBehind_5 : decode b_Md_cornerBehind 5 = .ok (.getfield 98, 3) := by decide +kernel
theorem d_Md_cornerBehind_8 : decode b_Md_cornerBehind 8 = .ok (.iconst 1, 1) := by decide +kernel
theorem d_Md_cornerBehind_9 : decode b_Md_cornerBehind 9 = .ok (.if_icmp .le 7, 3) := by decide +kernel
theorem d_Md_cornerBehind_12 : decode b_Md_cornerBehind 12 = .ok (.iconst 1, 1) := by decide +kernel
theorem d_Md_cornerBehind_13 : decode b_Md_cornerBehind 13 = .ok (.goto 4, 3) := by decide +kernel
theorem d_Md_cornerBehind_16 : decode b_Md_cornerBehind 16 = .ok (.iconst 0, 1) := by decide +kernel
theorem d_Md_cornerBehind_17 : decode b_Md_cornerBehind 17 = .ok (.istore_n 2, 1) := by decide +kernel
theorem d_Md_cornerBehind_18 : decode b_Md_cornerBehind 18 = .ok (.iconst 0, 1) := by decide +kernel
theorem d_Md_cornerBehind_19 : decode b_Md_cornerBehind 19 = .ok (.istore_n 3, 1) := by decide +kernel
theorem d_Md_cornerBehind_20 : decode b_Md_cornerBehind 20 = .ok (.iload_n 3, 1) := by decide +kernel
theorem d_Md_cornerBehind_21 : decode b_Md_cornerBehind 21 = .ok (.aload_n 0, 1) := by decide +kernel
theorem d_Md_cornerBehind_22 : decode b_Md_cornerBehind 22 = .ok (.getfield 98, 3) := by decide +kernel
theorem d_Md_cornerBehind_25 : decode b_Md_cornerBehind 25 = .ok (.if_icmp .ge 78, 3) := by decide +kernel
theorem d_Md_cornerBehind_28 : decode b_Md_cornerBehind 28 = .ok (.iload_n 3, 1) := by decide +kernel
theorem d_Md_cornerBehind_29 : decode b_Md_cornerBehind 29 = .ok (.iload_n 1, 1) := by decide +kernel
theorem d_Md_cornerBehind_30 : decode b_Md_cornerBehind 30 = .ok (.if_icmp .eq 67, 3) := by decide +kernel
theorem d_Md_cornerBehind_33 : decode b_Md_cornerBehind 33 = .ok (.iload_n 3, 1) := by decide +kernel
theorem d_Md_cornerBehind_34 : decode b_Md_cornerBehind 34 = .ok (.iload_n 2, 1) := by decide +kernel
theorem d_Md_cornerBehind_35 : decode b_Md_cornerBehind 35 = .ok (.if_icmp .eq 62, 3) := by decide +kernel
theorem d_Md_cornerBehind_38 : decode b_Md_cornerBehind 38 = .ok (.aload_n 0, 1) := by decide +kernel
theorem d_Md_cornerBehind_39 : decode b_Md_cornerBehind 39 = .ok (.iload_n 1, 1) := by decide +kernel
theorem d_Md_cornerBehind_40 : decode b_Md_cornerBehind 40 = .ok (.iload_n 2, 1) := by decide +kernel
theorem d_Md_cornerBehind_41 : decode b_Md_cornerBehind 41 = .ok (.iload_n 3, 1) := by decide +kernel
theorem d_Md_cornerBehind_42 : decode b_Md_cornerBehind 42 = .ok (.invokevirtual 123, 3) := by decide +kernel
theorem d_Md_cornerBehind_45 : decode b_Md_cornerBehind 45 = .ok (.istore 4, 2) := by decide +kernel
theorem d_Md_cornerBehind_47 : decode b_Md_cornerBehind 47 = .ok (.iload 4, 2) := by decide +kernel
theorem d_Md_cornerBehind_49 : decode b_Md_cornerBehind 49 = .ok (.ifCond .lt 46, 3) := by decide +kernel
theorem d_Md_cornerBehind_52 : decode b_Md_cornerBehind 52 = .ok (.iload 4, 2) := by decide +kernel
theorem d_Md_cornerBehind_54 : decode b_Md_cornerBehind 54 = .ok (.ifCond .ne 43, 3) := by decide +kernel
theorem d_Md_cornerBehind_57 : decode b_Md_cornerBehind 57 = .ok (.aload_n 0, 1) := by decide +kernel
theorem d_Md_cornerBehind_58 : decode b_Md_cornerBehind 58 = .ok (.iload_n 1, 1) := by decide +kernel
theorem d_Md_cornerBehind_59 : decode b_Md_cornerBehind 59 = .ok (.aload_n 0, 1) := by decide +kernel
theorem d_Md_cornerBehind_60 : decode b_Md_cornerBehind 60 = .ok (.getfield 7, 3) := by decide +kernel
theorem d_Md_cornerBehind_63 : decode b_Md_cornerBehind 63 = .ok (.iload_n 3, 1) := by decide +kernel
theorem d_Md_cornerBehind_64 : decode b_Md_cornerBehind 64 = .ok (.iaload, 1) := by decide +kernel
theorem d_Md_cornerBehind_65 : decode b_Md_cornerBehind 65 = .ok (.aload_n 0, 1) := by decide +kernel
theorem d_Md_cornerBehind_66 : decode b_Md_cornerBehind 66 = .ok (.getfield 13, 3) := by decide +kernel
theorem d_Md_cornerBehind_69 : decode b_Md_cornerBehind 69 = .ok (.iload_n 3, 1) := by decide +kernel
theorem d_Md_cornerBehind_70 : decode b_Md_cornerBehind 70 = .ok (.iaload, 1) := by decide +kernel
theorem d_Md_cornerBehind_71 : decode b_Md_cornerBehind 71 = .ok (.invokevirtual 127, 3) := by decide +kernel
theorem d_Md_cornerBehind_74 : decode b_Md_cornerBehind 74 = .ok (.aload_n 0, 1) := by decide +kernel
theorem d_Md_cornerBehind_75 : decode b_Md_cornerBehind 75 = .ok (.iload_n 1, 1) := by decide +kernel
theorem d_Md_cornerBehind_76 : decode b_Md_cornerBehind 76 = .ok (.aload_n 0, 1) := by decide +kernel
theorem d_Md_cornerBehind_77 : decode b_Md_cornerBehind 77 = .ok (.getfield 7, 3) := by decide +kernel
theorem d_Md_cornerBehind_80 : decode b_Md_cornerBehind 80 = .ok (.iload_n 2, 1) := by decide +kernel
theorem d_Md_cornerBehind_81 : decode b_Md_cornerBehind 81 = .ok (.iaload, 1) := by decide +kernel
theorem d_Md_cornerBehind_82 : decode b_Md_cornerBehind 82 = .ok (.aload_n 0, 1) := by decide +kernel
theorem d_Md_cornerBehind_83 : decode b_Md_cornerBehind 83 = .ok (.getfield 13, 3) := by decide +kernel
theorem d_Md_cornerBehind_86 : decode b_Md_cornerBehind 86 = .ok (.iload_n 2, 1) := by decide +kernel
theorem d_Md_cornerBehind_87 : decode b_Md_cornerBehind 87 = .ok (.iaload, 1) := by decide +kernel
theorem d_Md_cornerBehind_88 : decode b_Md_cornerBehind 88 = .ok (.invokevirtual 127, 3) := by decide +kernel
theorem d_Md_cornerBehind_91 : decode b_Md_cornerBehind 91 = .ok (.lcmp, 1) := by decide +kernel
theorem d_Md_cornerBehind_92 : decode b_Md_cornerBehind 92 = .ok (.ifCond .le 5, 3) := by decide +kernel
theorem d_Md_cornerBehind_95 : decode b_Md_cornerBehind 95 = .ok (.iload_n 3, 1) := by decide +kernel
theorem d_Md_cornerBehind_96 : decode b_Md_cornerBehind 96 = .ok (.istore_n 2, 1) := by decide +kernel
theorem d_Md_cornerBehind_97 : decode b_Md_cornerBehind 97 = .ok (.iinc 3 1, 3) := by decide +kernel
theorem d_Md_cornerBehind_100 : decode b_Md_cornerBehind 100 = .ok (.goto (-80), 3) := by decide +kernel
theorem d_Md_cornerBehind_103 : decode b_Md_cornerBehind 103 = .ok (.iload_n 2, 1) := by decide +kernel
theorem d_Md_cornerBehind_104 : decode b_Md_cornerBehind 104 = .ok (.ireturn, 1) := by decide +kernel
theorem d_Md_findCorners_0 : decode b_Md_findCorners 0 = .ok (.aload_n 0, 1) := by decide +kernel
theorem d_Md_findCorners_1 : decode b_Md_findCorners 1 = .ok (.iconst 0, 1) := by decide +kernel
theorem d_Md_findCorners_2 : decode b_Md_findCorners 2 = .ok (.putfield 131, 3) := by decide +kernel
theorem d_Md_findCorners_5 : decode b_Md_findCorners 5 = .ok (.aload_n 0, 1) := by decide +kernel
theorem d_Md_findCorners_6 : decode b_Md_findCorners 6 = .ok (.getfield 98, 3) := by decide +kernel
theorem d_Md_findCorners_9 : decode b_Md_findCorners 9 = .ok (.ifCond .ne 4, 3) := by decide +kernel
theorem d_Md_findCorners_12 : decode b_Md_findCorners 12 = .ok (.return_, 1) := by decide +kernel
theorem d_Md_findCorners_13 : decode b_Md_findCorners 13 = .ok (.aload_n 0, 1) := by decide +kernel
theorem d_Md_findCorners_14 : decode b_Md_findCorners 14 = .ok (.invokevirtual 134, 3) := by decide +kernel
theorem d_Md_findCorners_17 : decode b_Md_findCorners 17 = .ok (.istore_n 1, 1) := by decide +kernel
theorem d_Md_findCorners_18 : decode b_Md_findCorners 18 = .ok (.iload_n 1, 1) := by decide +kernel
theorem d_Md_findCorners_19 : decode b_Md_findCorners 19 = .ok (.istore_n 2, 1) := by decide +kernel
theorem d_Md_findCorners_20 : decode b_Md_findCorners 20 = .ok (.iconst 1, 1) := by decide +kernel
theorem d_Md_findCorners_21 : decode b_Md_findCorners 21 = .ok (.istore_n 3, 1) := by decide +kernel
theorem d_Md_findCorners_22 : decode b_Md_findCorners 22 = .ok (.iload_n 3, 1) := by decide +kernel
theorem d_Md_findCorners_23 : decode b_Md_findCorners 23 = .ok (.ifCond .eq 43, 3) := by decide +kernel
theorem d_Md_findCorners_26 : decode b_Md_findCorners 26 = .ok (.aload_n 0, 1) := by decide +kernel
theorem d_Md_findCorners_27 : decode b_Md_findCorners 27 = .ok (.getfield 25, 3) := by decide +kernel
theorem d_Md_findCorners_30 : decode b_Md_findCorners 30 = .ok (.aload_n 0, 1) := by decide +kernel
theorem d_Md_findCorners_31 : decode b_Md_findCorners 31 = .ok (.getfield 131, 3) := by decide +kernel
theorem d_Md_findCorners_34 : decode b_Md_findCorners 34 = .ok (.iload_n 2, 1) := by decide +kernel
theorem d_Md_findCorners_35 : decode b_Md_findCorners 35 = .ok (.iastore, 1) := by decide +kernel
theorem d_Md_findCorners_36 : decode b_Md_findCorners 36 = .ok (.aload_n 0, 1) := by decide +kernel
theorem d_Md_findCorners_37 : decode b_Md_findCorners 37 = .ok (.dup, 1) := by decide +kernel
theorem d_Md_findCorners_38 : decode b_Md_findCorners 38 = .ok (.getfield 131, 3) := by decide +kernel
theorem d_Md_findCorners_41 : decode b_Md_findCorners 41 = .ok (.iconst 1, 1) := by decide +kernel
theorem d_Md_findCorners_42 : decode b_Md_findCorners 42 = .ok (.iadd, 1) := by decide +kernel
theorem d_Md_findCorners_43 : decode b_Md_findCorners 43 = .ok (.putfield 131, 3) := by decide +kernel
theorem d_Md_findCorners_46 : decode b_Md_findCorners 46 = .ok (.aload_n 0, 1) := by decide +kernel
theorem d_Md_findCorners_47 : decode b_Md_findCorners 47 = .ok (.iload_n 2, 1) := by decide +kernel
theorem d_Md_findCorners_48 : decode b_Md_findCorners 48 = .ok (.invokevirtual 137, 3) := by decide +kernel
theorem d_Md_findCorners_51 : decode b_Md_findCorners 51 = .ok (.istore_n 2, 1) := by decide +kernel
theorem d_Md_findCorners_52 : decode b_Md_findCorners 52 = .ok (.iload_n 2, 1) := by decide +kernel
theorem d_Md_findCorners_53 : decode b_Md_findCorners 53 = .ok (.iload_n 1, 1) := by decide +kernel
theorem d_Md_findCorners_54 : decode b_Md_findCorners 54 = .ok (.if_icmp .eq 7, 3) := by decide +kernel
theorem d_Md_findCorners_57 : decode b_Md_findCorners 57 = .ok (.iconst 1, 1) := by decide +kernel
theorem d_Md_findCorners_58 : decode b_Md_findCorners 58 = .ok (.goto 4, 3) := by decide +kernel
theorem d_Md_findCorners_61 : decode b_Md_findCorners 61 = .ok (.iconst 0, 1) := by decide +kernel
theorem d_Md_findCorners_62 : decode b_Md_findCorners 62 = .ok (.istore_n 3, 1) := by decide +kernel
theorem d_Md_findCorners_63 : decode b_Md_findCorners 63 = .ok (.goto (-41), 3) := by decide +kernel
theorem d_Md_findCorners_66 : decode b_Md_findCorners 66 = .ok (.return_, 1) := by decide +kernel
theorem d_Md_isCelled_0 : decode b_Md_isCelled 0 = .ok (.iconst 0, 1) := by decide +kernel
theorem d_Md_isCelled_1 : decode b_Md_isCelled 1 = .ok (.istore_n 2, 1) := by decide +kernel
theorem d_Md_isCelled_2 : decode b_Md_isCelled 2 = .ok (.iconst 0, 1) := by decide +kernel
theorem d_Md_isCelled_3 : decode b_Md_isCelled 3 = .ok (.istore_n 3, 1) := by decide +kernel
theorem d_Md_isCelled_4 : decode b_Md_isCelled 4 = .ok (.iload_n 3, 1) := by decide +kernel
theorem d_Md_isCelled_5 : decode b_Md_isCelled 5 = .ok (.aload_n 0, 1) := by decide +kernel
theorem d_Md_isCelled_6 : decode b_Md_isCelled 6 = .ok (.getfield 140, 3) := by decide +kernel
theorem d_Md_isCelled_9 : decode b_Md_isCelled 9 = .ok (.if_icmp .ge 29, 3) := by decide +kernel
theorem d_Md_isCelled_12 : decode b_Md_isCelled 12 = .ok (.iload_n 2, 1) := by decide +kernel
theorem d_Md_isCelled_13 : decode b_Md_isCelled 13 = .ok (.ifCond .ne 13, 3) := by decide +kernel
theorem d_Md_isCelled_16 : decode b_Md_isCelled 16 = .ok (.aload_n 0, 1) := by decide +kernel
theorem d_Md_isCelled_17 : decode b_Md_isCelled 17 = .ok (.getfield 34, 3) := by decide +kernel
theorem d_Md_isCelled_20 : decode b_Md_isCelled 20 = .ok (.iload_n 3, 1) := by decide +kernel
theorem d_Md_isCelled_21 : decode b_Md_isCelled 21 = .ok (.iaload, 1) := by decide +kernel
theorem d_Md_isCelled_22 : decode b_Md_isCelled 22 = .ok (.iload_n 1, 1) := by decide +kernel
theorem d_Md_isCelled_23 : decode b_Md_isCelled 23 = .ok (.if_icmp .ne 7, 3) := by decide +kernel
theorem d_Md_isCelled_26 : decode b_Md_isCelled 26 = .ok (.iconst 1, 1) := by decide +kernel
theorem d_Md_isCelled_27 : decode b_Md_isCelled 27 = .ok (.goto 4, 3) := by decide +kernel
theorem d_Md_isCelled_30 : decode b_Md_isCelled 30 = .ok (.iconst 0, 1) := by decide +kernel
theorem d_Md_isCelled_31 : decode b_Md_isCelled 31 = .ok (.istore_n 2, 1) := by decide +kernel
theorem d_Md_isCelled_32 : decode b_Md_isCelled 32 = .ok (.iinc 3 1, 3) := by decide +kernel
theorem d_Md_isCelled_35 : decode b_Md_isCelled 35 = .ok (.goto (-31), 3) := by decide +kernel
theorem d_Md_isCelled_38 : decode b_Md_isCelled 38 = .ok (.iload_n 2, 1) := by decide +kernel
theorem d_Md_isCelled_39 : decode b_Md_isCelled 39 = .ok (.ireturn, 1) := by decide +kernel
theorem d_Md_findCell_0 : decode b_Md_findCell 0 = .ok (.aload_n 0, 1) := by decide +kernel
theorem d_Md_findCell_1 : decode b_Md_findCell 1 = .ok (.iconst 0, 1) := by decide +kernel
theorem d_Md_findCell_2 : decode b_Md_findCell 2 = .ok (.putfield 140, 3) := by decide +kernel
theorem d_Md_findCell_5 : decode b_Md_findCell 5 = .ok (.iconst (-1), 1) := by decide +kernel
theorem d_Md_findCell_6 : decode b_Md_findCell 6 = .ok (.istore 4, 2) := by decide +kernel
theorem d_Md_findCell_8 : decode b_Md_findCell 8 = .ok (.iconst 0, 1) := by decide +kernel
theorem d_Md_findCell_9 : decode b_Md_findCell 9 = .ok (.istore 5, 2) := by decide +kernel
theorem d_Md_findCell_11 : decode b_Md_findCell 11 = .ok (.iconst 0, 1) := by decide +kernel
theorem d_Md_findCell_12 : decode b_Md_findCell 12 = .ok (.istore 6, 2) := by decide +kernel
theorem d_Md_findCell_14 : decode b_Md_findCell 14 = .ok (.iload 6, 2) := by decide +kernel
theorem d_Md_findCell_16 : decode b_Md_findCell 16 = .ok (.aload_n 0, 1) := by decide +kernel
theorem d_Md_findCell_17 : decode b_Md_findCell 17 = .ok (.getfield 98, 3) := by decide +kernel
theorem d_Md_findCell_20 : decode b_Md_findCell 20 = .ok (.if_icmp .ge 71, 3) := by decide +kernel
theorem d_Md_findCell_23 : decode b_Md_findCell 23 = .ok (.iload 6, 2) := by decide +kernel
theorem d_Md_findCell_25 : decode b_Md_findCell 25 = .ok (.iload_n 1, 1) := by decide +kernel
theorem d_Md_findCell_26 : decode b_Md_findCell 26 = .ok (.if_icmp .eq 27, 3) := by decide +kernel
theorem d_Md_findCell_29 : decode b_Md_findCell 29 = .ok (.iload 6, 2) := by decide +kernel
theorem d_Md_findCell_31 : decode b_Md_findCell 31 = .ok (.iload_n 2, 1) := by decide +kernel
theorem d_Md_findCell_32 : decode b_Md_findCell 32 = .ok (.if_icmp .eq 21, 3) := by decide +kernel
theorem d_Md_findCell_35 : decode b_Md_findCell 35 = .ok (.iload 6, 2) := by decide +kernel
theorem d_Md_findCell_37 : decode b_Md_findCell 37 = .ok (.iload_n 3, 1) := by decide +kernel
theorem d_Md_findCell_38 : decode b_Md_findCell 38 = .ok (.if_icmp .eq 15, 3) := by decide +kernel
theorem d_Md_findCell_41 : decode b_Md_findCell 41 = .ok (.aload_n 0, 1) := by decide +kernel
theorem d_Md_findCell_42 : decode b_Md_findCell 42 = .ok (.iload_n 1, 1) := by decide +kernel
theorem d_Md_findCell_43 : decode b_Md_findCell 43 = .ok (.iload_n 2, 1) := by decide +kernel
theorem d_Md_findCell_44 : decode b_Md_findCell 44 = .ok (.iload_n 3, 1) := by decide +kernel
theorem d_Md_findCell_45 : decode b_Md_findCell 45 = .ok (.iload 6, 2) := by decide +kernel
theorem d_Md_findCell_47 : decode b_Md_findCell 47 = .ok (.invokevirtual 143, 3) := by decide +kernel
theorem d_Md_findCell_50 : decode b_Md_findCell 50 = .ok (.ifCond .ne 35, 3) := by decide +kernel
theorem d_Md_findCell_53 : decode b_Md_findCell 53 = .ok (.aload_n 0, 1) := by decide +kernel
theorem d_Md_findCell_54 : decode b_Md_findCell 54 = .ok (.getfield 37, 3) := by decide +kernel
theorem d_Md_findCell_57 : decode b_Md_findCell 57 = .ok (.iload 5, 2) := by decide +kernel
theorem d_Md_findCell_59 : decode b_Md_findCell 59 = .ok (.iload 6, 2) := by decide +kernel
theorem d_Md_findCell_61 : decode b_Md_findCell 61 = .ok (.iastore, 1) := by decide +kernel
theorem d_Md_findCell_62 : decode b_Md_findCell 62 = .ok (.iinc 5 1, 3) := by decide +kernel
theorem d_Md_findCell_65 : decode b_Md_findCell 65 = .ok (.iload 4, 2) := by decide +kernel
theorem d_Md_findCell_67 : decode b_Md_findCell 67 = .ok (.ifCond .lt 14, 3) := by decide +kernel
theorem d_Md_findCell_70 : decode b_Md_findCell 70 = .ok (.aload_n 0, 1) := by decide +kernel
theorem d_Md_findCell_71 : decode b_Md_findCell 71 = .ok (.iload 6, 2) := by decide +kernel
theorem d_Md_findCell_73 : decode b_Md_findCell 73 = .ok (.iload 4, 2) := by decide +kernel
theorem d_Md_findCell_75 : decode b_Md_findCell 75 = .ok (.invokevirtual 120, 3) := by decide +kernel
theorem d_Md_findCell_78 : decode b_Md_findCell 78 = .ok (.ifCond .eq 7, 3) := by decide +kernel
theorem d_Md_findCell_81 : decode b_Md_findCell 81 = .ok (.iload 6, 2) := by decide +kernel
theorem d_Md_findCell_83 : decode b_Md_findCell 83 = .ok (.istore 4, 2) := by decide +kernel
theorem d_Md_findCell_85 : decode b_Md_findCell 85 = .ok (.iinc 6 1, 3) := by decide +kernel
theorem d_Md_findCell_88 : decode b_Md_findCell 88 = .ok (.goto (-74), 3) := by decide +kernel
theorem d_Md_findCell_91 : decode b_Md_findCell 91 = .ok (.aload_n 0, 1) := by decide +kernel
theorem d_Md_findCell_92 : decode b_Md_findCell 92 = .ok (.getfield 34, 3) := by decide +kernel
theorem d_Md_findCell_95 : decode b_Md_findCell 95 = .ok (.iconst 0, 1) := by decide +kernel
theorem d_Md_findCell_96 : decode b_Md_findCell 96 = .ok (.iload 4, 2) := by decide +kernel
theorem d_Md_findCell_98 : decode b_Md_findCell 98 = .ok (.iastore, 1) := by decide +kernel
theorem d_Md_findCell_99 : decode b_Md_findCell 99 = .ok (.aload_n 0, 1) := by decide +kernel
theorem d_Md_findCell_100 : decode b_Md_findCell 100 = .ok (.iconst 1, 1) := by decide +kernel
theorem d_Md_findCell_101 : decode b_Md_findCell 101 = .ok (.putfield 140, 3) := by decide +kernel
theorem d_Md_findCell_104 : decode b_Md_findCell 104 = .ok (.aload_n 0, 1) := by decide +kernel
theorem d_Md_findCell_105 : decode b_Md_findCell 105 = .ok (.getfield 140, 3) := by decide +kernel
theorem d_Md_findCell_108 : decode b_Md_findCell 108 = .ok (.iload 5, 2) := by decide +kernel
theorem d_Md_findCell_110 : decode b_Md_findCell 110 = .ok (.if_icmp .ge 101, 3) := by decide +kernel
theorem d_Md_findCell_113 : decode b_Md_findCell 113 = .ok (.iconst (-1), 1) := by decide +kernel
theorem d_Md_findCell_114 : decode b_Md_findCell 114 = .ok (.istore 6, 2) := by decide +kernel
theorem d_Md_findCell_116 : decode b_Md_findCell 116 = .ok (.iconst 0, 1) := by decide +kernel
theorem d_Md_findCell_117 : decode b_Md_findCell 117 = .ok (.istore 7, 2) := by decide +kernel
theorem d_Md_findCell_119 : decode b_Md_findCell 119 = .ok (.iload 7, 2) := by decide +kernel
theorem d_Md_findCell_121 : decode b_Md_findCell 121 = .ok (.iload 5, 2) := by decide +kernel
theorem d_Md_findCell_123 : decode b_Md_findCell 123 = .ok (.if_icmp .ge 64, 3) := by decide +kernel
theorem d_Md_findCell_126 : decode b_Md_findCell 126 = .ok (.aload_n 0, 1) := by decide +kernel
theorem d_Md_findCell_127 : decode b_Md_findCell 127 = .ok (.aload_n 0, 1) := by decide +kernel
theorem d_Md_findCell_128 : decode b_Md_findCell 128 = .ok (.getfield 37, 3) := by decide +kernel
theorem d_Md_findCell_131 : decode b_Md_findCell 131 = .ok (.iload 7, 2) := by decide +kernel
theorem d_Md_findCell_133 : decode b_Md_findCell 133 = .ok (.iaload, 1) := by decide +kernel
theorem d_Md_findCell_134 : decode b_Md_findCell 134 = .ok (.invokevirtual 146, 3) := by decide +kernel
theorem d_Md_findCell_137 : decode b_Md_findCell 137 = .ok (.ifCond .ne 44, 3) := by decide +kernel
theorem d_Md_findCell_140 : decode b_Md_findCell 140 = .ok (.iload 6, 2) := by decide +kernel
theorem d_Md_findCell_142 : decode b_Md_findCell 142 = .ok (.ifCond .lt 30, 3) := by decide +kernel
theorem d_Md_findCell_145 : decode b_Md_findCell 145 = .ok (.aload_n 0, 1) := by decide +kernel
theorem d_Md_findCell_146 : decode b_Md_findCell 146 = .ok (.aload_n 0, 1) := by decide +kernel
theorem d_Md_findCell_147 : decode b_Md_findCell 147 = .ok (.getfield 34, 3) := by decide +kernel
theorem d_Md_findCell_150 : decode b_Md_findCell 150 = .ok (.aload_n 0, 1) := by decide +kernel
theorem d_Md_findCell_151 : decode b_Md_findCell 151 = .ok (.getfield 140, 3) := by decide +kernel
theorem d_Md_findCell_154 : decode b_Md_findCell 154 = .ok (.iconst 1, 1) := by decide +kernel
theorem d_Md_findCell_155 : decode b_Md_findCell 155 = .ok (.isub, 1) := by decide +kernel
theorem d_Md_findCell_156 : decode b_Md_findCell 156 = .ok (.iaload, 1) := by decide +kernel
theorem d_Md_findCell_157 : decode b_Md_findCell 157 = .ok (.iload 6, 2) := by decide +kernel
theorem d_Md_findCell_159 : decode b_Md_findCell 159 = .ok (.aload_n 0, 1) := by decide +kernel
theorem d_Md_findCell_160 : decode b_Md_findCell 160 = .ok (.getfield 37, 3) := by decide +kernel
theorem d_Md_findCell_163 : decode b_Md_findCell 163 = .ok (.iload 7, 2) := by decide +kernel
theorem d_Md_findCell_165 : decode b_Md_findCell 165 = .ok (.iaload, 1) := by decide +kernel
theorem d_Md_findCell_166 : decode b_Md_findCell 166 = .ok (.invokevirtual 123, 3) := by decide +kernel
theorem d_Md_findCell_169 : decode b_Md_findCell 169 = .ok (.ifCond .ge 12, 3) := by decide +kernel
theorem d_Md_findCell_172 : decode b_Md_findCell 172 = .ok (.aload_n 0, 1) := by decide +kernel
theorem d_Md_findCell_173 : decode b_Md_findCell 173 = .ok (.getfield 37, 3) := by decide +kernel
theorem d_Md_findCell_176 : decode b_Md_findCell 176 = .ok (.iload 7, 2) := by decide +kernel
theorem d_Md_findCell_178 : decode b_Md_findCell 178 = .ok (.iaload, 1) := by decide +kernel
theorem d_Md_findCell_179 : decode b_Md_findCell 179 = .ok (.istore 6, 2) := by decide +kernel
theorem d_Md_findCell_181 : decode b_Md_findCell 181 = .ok (.iinc 7 1, 3) := by decide +kernel
theorem d_Md_findCell_184 : decode b_Md_findCell 184 = .ok (.goto (-65), 3) := by decide +kernel
theorem d_Md_findCell_187 : decode b_Md_findCell 187 = .ok (.aload_n 0, 1) := by decide +kernel
theorem d_Md_findCell_188 : decode b_Md_findCell 188 = .ok (.getfield 34, 3) := by decide +kernel
theorem d_Md_findCell_191 : decode b_Md_findCell 191 = .ok (.aload_n 0, 1) := by decide +kernel
theorem d_Md_findCell_192 : decode b_Md_findCell 192 = .ok (.getfield 140, 3) := by decide +kernel
theorem d_Md_findCell_195 : decode b_Md_findCell 195 = .ok (.iload 6, 2) := by decide +kernel
theorem d_Md_findCell_197 : decode b_Md_findCell 197 = .ok (.iastore, 1) := by decide +kernel
theorem d_Md_findCell_198 : decode b_Md_findCell 198 = .ok (.aload_n 0, 1) := by decide +kernel
theorem d_Md_findCell_199 : decode b_Md_findCell 199 = .ok (.dup, 1) := by decide +kernel
theorem d_Md_findCell_200 : decode b_Md_findCell 200 = .ok (.getfield 140, 3) := by decide +kernel
theorem d_Md_findCell_203 : decode b_Md_findCell 203 = .ok (.iconst 1, 1) := by decide +kernel
theorem d_Md_findCell_204 : decode b_Md_findCell 204 = .ok (.iadd, 1) := by decide +kernel
theorem d_Md_findCell_205 : decode b_Md_findCell 205 = .ok (.putfield 140, 3) := by decide +kernel
theorem d_Md_findCell_208 : decode b_Md_findCell 208 = .ok (.goto (-104), 3) := by decide +kernel
theorem d_Md_findCell_211 : decode b_Md_findCell 211 = .ok (.return_, 1) := by decide +kernel
theorem d_Md_isSide_0 : decode b_Md_isSide 0 = .ok (.iconst 0, 1) := by decide +kernel
theorem d_Md_isSide_1 : decode b_Md_isSide 1 = .ok (.istore_n 3, 1) := by decide +kernel
theorem d_Md_isSide_2 : decode b_Md_isSide 2 = .ok (.iconst 0, 1) := by decide +kernel
theorem d_Md_isSide_3 : decode b_Md_isSide 3 = .ok (.istore 4, 2) := by decide +kernel
theorem d_Md_isSide_5 : decode b_Md_isSide 5 = .ok (.iload 4, 2) := by decide +kernel
theorem d_Md_isSide_7 : decode b_Md_isSide 7 = .ok (.aload_n 0, 1) := by decide +kernel
theorem d_Md_isSide_8 : decode b_Md_isSide 8 = .ok (.getfield 150, 3) := by decide +kernel
theorem d_Md_isSide_11 : decode b_Md_isSide 11 = .ok (.if_icmp .ge 41, 3) := by decide +kernel
theorem d_Md_isSide_14 : decode b_Md_isSide 14 = .ok (.iload_n 3, 1) := by decide +kernel
theorem d_Md_isSide_15 : decode b_Md_isSide 15 = .ok (.ifCond .ne 37, 3) := by decide +kernel
theorem d_Md_isSide_18 : decode b_Md_isSide 18 = .ok (.aload_n 0, 1) := by decide +kernel
theorem d_Md_isSide_19 : decode b_Md_isSide 19 = .ok (.getfield 28, 3) := by decide +kernel
theorem d_Md_isSide_22 : decode b_Md_isSide 22 = .ok (.iload 4, 2) := by decide +kernel
theorem d_Md_isSide_24 : decode b_Md_isSide 24 = .ok (.iaload, 1) := by decide +kernel
theorem d_Md_isSide_25 : decode b_Md_isSide 25 = .ok (.iload_n 1, 1) := by decide +kernel
theorem d_Md_isSide_26 : decode b_Md_isSide 26 = .ok (.if_icmp .ne 18, 3) := by decide +kernel
theorem d_Md_isSide_29 : decode b_Md_isSide 29 = .ok (.aload_n 0, 1) := by decide +kernel
theorem d_Md_isSide_30 : decode b_Md_isSide 30 = .ok (.getfield 31, 3) := by decide +kernel
theorem d_Md_isSide_33 : decode b_Md_isSide 33 = .ok (.iload 4, 2) := by decide +kernel
theorem d_Md_isSide_35 : decode b_Md_isSide 35 = .ok (.iaload, 1) := by decide +kernel
theorem d_Md_isSide_36 : decode b_Md_isSide 36 = .ok (.iload_n 2, 1) := by decide +kernel
theorem d_Md_isSide_37 : decode b_Md_isSide 37 = .ok (.if_icmp .ne 7, 3) := by decide +kernel
theorem d_Md_isSide_40 : decode b_Md_isSide 40 = .ok (.iconst 1, 1) := by decide +kernel
theorem d_Md_isSide_41 : decode b_Md_isSide 41 = .ok (.goto 4, 3) := by decide +kernel
theorem d_Md_isSide_44 : decode b_Md_isSide 44 = .ok (.iconst 0, 1) := by decide +kernel
theorem d_Md_isSide_45 : decode b_Md_isSide 45 = .ok (.istore_n 3, 1) := by decide +kernel
theorem d_Md_isSide_46 : decode b_Md_isSide 46 = .ok (.iinc 4 1, 3) := by decide +kernel
theorem d_Md_isSide_49 : decode b_Md_isSide 49 = .ok (.goto (-44), 3) := by decide +kernel
theorem d_Md_isSide_52 : decode b_Md_isSide 52 = .ok (.iload_n 3, 1) := by decide +kernel
theorem d_Md_isSide_53 : decode b_Md_isSide 53 = .ok (.ireturn, 1) := by decide +kernel
theorem d_Md_tell_0 : decode b_Md_tell 0 = .ok (.iload_n 2, 1) := by decide +kernel
theorem d_Md_tell_1 : decode b_Md_tell 1 = .ok (.iload_n 1, 1) := by decide +kernel
theorem d_Md_tell_2 : decode b_Md_tell 2 = .ok (.if_icmp .ge 12, 3) := by decide +kernel
theorem d_Md_tell_5 : decode b_Md_tell 5 = .ok (.iload_n 2, 1) := by decide +kernel
theorem d_Md_tell_6 : decode b_Md_tell 6 = .ok (.iload_n 3, 1) := by decide +kernel
theorem d_Md_tell_7 : decode b_Md_tell 7 = .ok (.if_icmp .ge 7, 3) := by decide +kernel
theorem d_Md_tell_10 : decode b_Md_tell 10 = .ok (.iconst 1, 1) := by decide +kernel
theorem d_Md_tell_11 : decode b_Md_tell 11 = .ok (.goto 4, 3) := by decide +kernel
theorem d_Md_tell_14 : decode b_Md_tell 14 = .ok (.iconst 0, 1) := by decide +kernel
theorem d_Md_tell_15 : decode b_Md_tell 15 = .ok (.istore 4, 2) := by decide +kernel
theorem d_Md_tell_17 : decode b_Md_tell 17 = .ok (.iload_n 3, 1) := by decide +kernel
theorem d_Md_tell_18 : decode b_Md_tell 18 = .ok (.iload_n 1, 1) := by decide +kernel
theorem d_Md_tell_19 : decode b_Md_tell 19 = .ok (.if_icmp .ge 12, 3) := by decide +kernel
theorem d_Md_tell_22 : decode b_Md_tell 22 = .ok (.iload_n 3, 1) := by decide +kernel
theorem d_Md_tell_23 : decode b_Md_tell 23 = .ok (.iload_n 2, 1) := by decide +kernel
theorem d_Md_tell_24 : decode b_Md_tell 24 = .ok (.if_icmp .ge 7, 3) := by decide +kernel
theorem d_Md_tell_27 : decode b_Md_tell 27 = .ok (.iconst 1, 1) := by decide +kernel
theorem d_Md_tell_28 : decode b_Md_tell 28 = .ok (.goto 4, 3) := by decide +kernel
theorem d_Md_tell_31 : decode b_Md_tell 31 = .ok (.iconst 0, 1) := by decide +kernel
theorem d_Md_tell_32 : decode b_Md_tell 32 = .ok (.istore 5, 2) := by decide +kernel
theorem d_Md_tell_34 : decode b_Md_tell 34 = .ok (.aload_n 0, 1) := by decide +kernel
theorem d_Md_tell_35 : decode b_Md_tell 35 = .ok (.getfield 16, 3) := by decide +kernel
theorem d_Md_tell_38 : decode b_Md_tell 38 = .ok (.aload_n 0, 1) := by decide +kernel
theorem d_Md_tell_39 : decode b_Md_tell 39 = .ok (.getfield 153, 3) := by decide +kernel
theorem d_Md_tell_42 : decode b_Md_tell 42 = .ok (.iload 4, 2) := by decide +kernel
theorem d_Md_tell_44 : decode b_Md_tell 44 = .ok (.ifCond .eq 7, 3) := by decide +kernel
theorem d_Md_tell_47 : decode b_Md_tell 47 = .ok (.iload_n 2, 1) := by decide +kernel
theorem d_Md_tell_48 : decode b_Md_tell 48 = .ok (.goto 13, 3) := by decide +kernel
theorem d_Md_tell_51 : decode b_Md_tell 51 = .ok (.iload 5, 2) := by decide +kernel
theorem d_Md_tell_53 : decode b_Md_tell 53 = .ok (.ifCond .eq 7, 3) := by decide +kernel
theorem d_Md_tell_56 : decode b_Md_tell 56 = .ok (.iload_n 3, 1) := by decide +kernel
theorem d_Md_tell_57 : decode b_Md_tell 57 = .ok (.goto 4, 3) := by decide +kernel
theorem d_Md_tell_60 : decode b_Md_tell 60 = .ok (.iload_n 1, 1) := by decide +kernel
theorem d_Md_tell_61 : decode b_Md_tell 61 = .ok (.iastore, 1) := by decide +kernel
theorem d_Md_tell_62 : decode b_Md_tell 62 = .ok (.aload_n 0, 1) := by decide +kernel
theorem d_Md_tell_63 : decode b_Md_tell 63 = .ok (.getfield 19, 3) := by decide +kernel
theorem d_Md_tell_66 : decode b_Md_tell 66 = .ok (.aload_n 0, 1) := by decide +kernel
theorem d_Md_tell_67 : decode b_Md_tell 67 = .ok (.getfield 153, 3) := by decide +kernel
theorem d_Md_tell_70 : decode b_Md_tell 70 = .ok (.iload 4, 2) := by decide +kernel
theorem d_Md_tell_72 : decode b_Md_tell 72 = .ok (.ifCond .eq 7, 3) := by decide +kernel
theorem d_Md_tell_75 : decode b_Md_tell 75 = .ok (.iload_n 3, 1) := by decide +kernel
theorem d_Md_tell_76 : decode b_Md_tell 76 = .ok (.goto 13, 3) := by decide +kernel
theorem d_Md_tell_79 : decode b_Md_tell 79 = .ok (.iload 5, 2) := by decide +kernel
theorem d_Md_tell_81 : decode b_Md_tell 81 = .ok (.ifCond .eq 7, 3) := by decide +kernel
theorem d_Md_tell_84 : decode b_Md_tell 84 = .ok (.iload_n 1, 1) := by decide +kernel
theorem d_Md_tell_85 : decode b_Md_tell 85 = .ok (.goto 4, 3) := by decide +kernel
theorem d_Md_tell_88 : decode b_Md_tell 88 = .ok (.iload_n 2, 1) := by decide +kernel
theorem d_Md_tell_89 : decode b_Md_tell 89 = .ok (.iastore, 1) := by decide +kernel
theorem d_Md_tell_90 : decode b_Md_tell 90 = .ok (.aload_n 0, 1) := by decide +kernel
theorem d_Md_tell_91 : decode b_Md_tell 91 = .ok (.getfield 22, 3) := by decide +kernel
theorem d_Md_tell_94 : decode b_Md_tell 94 = .ok (.aload_n 0, 1) := by decide +kernel
theorem d_Md_tell_95 : decode b_Md_tell 95 = .ok (.getfield 153, 3) := by decide +kernel
theorem d_Md_tell_98 : decode b_Md_tell 98 = .ok (.iload 4, 2) := by decide +kernel
theorem d_Md_tell_100 : decode b_Md_tell 100 = .ok (.ifCond .eq 7, 3) := by decide +kernel
theorem d_Md_tell_103 : decode b_Md_tell 103 = .ok (.iload_n 1, 1) := by decide +kernel
theorem d_Md_tell_104 : decode b_Md_tell 104 = .ok (.goto 13, 3) := by decide +kernel
theorem d_Md_tell_107 : decode b_Md_tell 107 = .ok (.iload 5, 2) := by decide +kernel
theorem d_Md_tell_109 : decode b_Md_tell 109 = .ok (.ifCond .eq 7, 3) := by decide +kernel
theorem d_Md_tell_112 : decode b_Md_tell 112 = .ok (.iload_n 2, 1) := by decide +kernel
theorem d_Md_tell_113 : decode b_Md_tell 113 = .ok (.goto 4, 3) := by decide +kernel
theorem d_Md_tell_116 : decode b_Md_tell 116 = .ok (.iload_n 3, 1) := by decide +kernel
theorem d_Md_tell_117 : decode b_Md_tell 117 = .ok (.iastore, 1) := by decide +kernel
theorem d_Md_tell_118 : decode b_Md_tell 118 = .ok (.aload_n 0, 1) := by decide +kernel
theorem d_Md_tell_119 : decode b_Md_tell 119 = .ok (.dup, 1) := by decide +kernel
theorem d_Md_tell_120 : decode b_Md_tell 120 = .ok (.getfield 153, 3) := by decide +kernel
theorem d_Md_tell_123 : decode b_Md_tell 123 = .ok (.iconst 1, 1) := by decide +kernel
theorem d_Md_tell_124 : decode b_Md_tell 124 = .ok (.iadd, 1) := by decide +kernel
theorem d_Md_tell_125 : decode b_Md_tell 125 = .ok (.putfield 153, 3) := by decide +kernel
theorem d_Md_tell_128 : decode b_Md_tell 128 = .ok (.return_, 1) := by decide +kernel
theorem d_Md_look_0 : decode b_Md_look 0 = .ok (.aload_n 0, 1) := by decide +kernel
theorem d_Md_look_1 : decode b_Md_look 1 = .ok (.iload_n 1, 1) := by decide +kernel
theorem d_Md_look_2 : decode b_Md_look 2 = .ok (.iload_n 2, 1) := by decide +kernel
theorem d_Md_look_3 : decode b_Md_look 3 = .ok (.invokevirtual 156, 3) := by decide +kernel
theorem d_Md_look_6 : decode b_Md_look 6 = .ok (.ifCond .eq 4, 3) := by decide +kernel
theorem d_Md_look_9 : decode b_Md_look 9 = .ok (.return_, 1) := by decide +kernel
theorem d_Md_look_10 : decode b_Md_look 10 = .ok (.iconst (-1), 1) := by decide +kernel
theorem d_Md_look_11 : decode b_Md_look 11 = .ok (.istore_n 3, 1) := by decide +kernel
theorem d_Md_look_12 : decode b_Md_look 12 = .ok (.iconst 0, 1) := by decide +kernel
theorem d_Md_look_13 : decode b_Md_look 13 = .ok (.istore 4, 2) := by decide +kernel
theorem d_Md_look_15 : decode b_Md_look 15 = .ok (.iload 4, 2) := by decide +kernel
theorem d_Md_look_17 : decode b_Md_look 17 = .ok (.aload_n 0, 1) := by decide +kernel
theorem d_Md_look_18 : decode b_Md_look 18 = .ok (.getfield 98, 3) := by decide +kernel
theorem d_Md_look_21 : decode b_Md_look 21 = .ok (.if_icmp .ge 39, 3) := by decide +kernel
theorem d_Md_look_24 : decode b_Md_look 24 = .ok (.aload_n 0, 1) := by decide +kernel
theorem d_Md_look_25 : decode b_Md_look 25 = .ok (.iload_n 1, 1) := by decide +kernel
theorem d_Md_look_26 : decode b_Md_look 26 = .ok (.iload_n 2, 1) := by decide +kernel
theorem d_Md_look_27 : decode b_Md_look 27 = .ok (.iload 4, 2) := by decide +kernel
theorem d_Md_look_29 : decode b_Md_look 29 = .ok (.invokevirtual 123, 3) := by decide +kernel
theorem d_Md_look_32 : decode b_Md_look 32 = .ok (.ifCond .le 22, 3) := by decide +kernel
theorem d_Md_look_35 : decode b_Md_look 35 = .ok (.iload_n 3, 1) := by decide +kernel
theorem d_Md_look_36 : decode b_Md_look 36 = .ok (.ifCond .lt 15, 3) := by decide +kernel
theorem d_Md_look_39 : decode b_Md_look 39 = .ok (.aload_n 0, 1) := by decide +kernel
theorem d_Md_look_40 : decode b_Md_look 40 = .ok (.iload_n 1, 1) := by decide +kernel
theorem d_Md_look_41 : decode b_Md_look 41 = .ok (.iload_n 2, 1) := by decide +kernel
theorem d_Md_look_42 : decode b_Md_look 42 = .ok (.iload_n 3, 1) := by decide +kernel
theorem d_Md_look_43 : decode b_Md_look 43 = .ok (.iload 4, 2) := by decide +kernel
theorem d_Md_look_45 : decode b_Md_look 45 = .ok (.invokevirtual 143, 3) := by decide +kernel
theorem d_Md_look_48 : decode b_Md_look 48 = .ok (.ifCond .le 6, 3) := by decide +kernel
theorem d_Md_look_51 : decode b_Md_look 51 = .ok (.iload 4, 2) := by decide +kernel
theorem d_Md_look_53 : decode b_Md_look 53 = .ok (.istore_n 3, 1) := by decide +kernel
theorem d_Md_look_54 : decode b_Md_look 54 = .ok (.iinc 4 1, 3) := by decide +kernel
theorem d_Md_look_57 : decode b_Md_look 57 = .ok (.goto (-42), 3) := by decide +kernel
theorem d_Md_look_60 : decode b_Md_look 60 = .ok (.iload_n 3, 1) := by decide +kernel
theorem d_Md_look_61 : decode b_Md_look 61 = .ok (.ifCond .ge 4, 3) := by decide +kernel
theorem d_Md_look_64 : decode b_Md_look 64 = .ok (.return_, 1) := by decide +kernel
theorem d_Md_look_65 : decode b_Md_look 65 = .ok (.aload_n 0, 1) := by decide +kernel
theorem d_Md_look_66 : decode b_Md_look 66 = .ok (.iload_n 1, 1) := by decide +kernel
theorem d_Md_look_67 : decode b_Md_look 67 = .ok (.iload_n 2, 1) := by decide +kernel
theorem d_Md_look_68 : decode b_Md_look 68 = .ok (.iload_n 3, 1) := by decide +kernel
theorem d_Md_look_69 : decode b_Md_look 69 = .ok (.invokevirtual 159, 3) := by decide +kernel
theorem d_Md_look_72 : decode b_Md_look 72 = .ok (.iconst 0, 1) := by decide +kernel
theorem d_Md_look_73 : decode b_Md_look 73 = .ok (.istore 4, 2) := by decide +kernel
theorem d_Md_look_75 : decode b_Md_look 75 = .ok (.iload 4, 2) := by decide +kernel
theorem d_Md_look_77 : decode b_Md_look 77 = .ok (.aload_n 0, 1) := by decide +kernel
theorem d_Md_look_78 : decode b_Md_look 78 = .ok (.getfield 140, 3) := by decide +kernel
theorem d_Md_look_81 : decode b_Md_look 81 = .ok (.if_icmp .ge 58, 3) := by decide +kernel
theorem d_Md_look_84 : decode b_Md_look 84 = .ok (.aload_n 0, 1) := by decide +kernel
theorem d_Md_look_85 : decode b_Md_look 85 = .ok (.getfield 28, 3) := by decide +kernel
theorem d_Md_look_88 : decode b_Md_look 88 = .ok (.aload_n 0, 1) := by decide +kernel
theorem d_Md_look_89 : decode b_Md_look 89 = .ok (.getfield 150, 3) := by decide +kernel
theorem d_Md_look_92 : decode b_Md_look 92 = .ok (.aload_n 0, 1) := by decide +kernel
theorem d_Md_look_93 : decode b_Md_look 93 = .ok (.getfield 34, 3) := by decide +kernel
theorem d_Md_look_96 : decode b_Md_look 96 = .ok (.iload 4, 2) := by decide +kernel
theorem d_Md_look_98 : decode b_Md_look 98 = .ok (.iaload, 1) := by decide +kernel
theorem d_Md_look_99 : decode b_Md_look 99 = .ok (.iastore, 1) := by decide +kernel
theorem d_Md_look_100 : decode b_Md_look 100 = .ok (.aload_n 0, 1) := by decide +kernel
theorem d_Md_look_101 : decode b_Md_look 101 = .ok (.getfield 31, 3) := by decide +kernel
theorem d_Md_look_104 : decode b_Md_look 104 = .ok (.aload_n 0, 1) := by decide +kernel
theorem d_Md_look_105 : decode b_Md_look 105 = .ok (.getfield 150, 3) := by decide +kernel
theorem d_Md_look_108 : decode b_Md_look 108 = .ok (.aload_n 0, 1) := by decide +kernel
theorem d_Md_look_109 : decode b_Md_look 109 = .ok (.getfield 34, 3) := by decide +kernel
theorem d_Md_look_112 : decode b_Md_look 112 = .ok (.iload 4, 2) := by decide +kernel
theorem d_Md_look_114 : decode b_Md_look 114 = .ok (.iconst 1, 1) := by decide +kernel
theorem d_Md_look_115 : decode b_Md_look 115 = .ok (.iadd, 1) := by decide +kernel
theorem d_Md_look_116 : decode b_Md_look 116 = .ok (.aload_n 0, 1) := by decide +kernel
theorem d_Md_look_117 : decode b_Md_look 117 = .ok (.getfield 140, 3) := by decide +kernel
theorem d_Md_look_120 : decode b_Md_look 120 = .ok (.irem, 1) := by decide +kernel
theorem d_Md_look_121 : decode b_Md_look 121 = .ok (.iaload, 1) := by decide +kernel
theorem d_Md_look_122 : decode b_Md_look 122 = .ok (.iastore, 1) := by decide +kernel
theorem d_Md_look_123 : decode b_Md_look 123 = .ok (.aload_n 0, 1) := by decide +kernel
theorem d_Md_look_124 : decode b_Md_look 124 = .ok (.dup, 1) := by decide +kernel
theorem d_Md_look_125 : decode b_Md_look 125 = .ok (.getfield 150, 3) := by decide +kernel
theorem d_Md_look_128 : decode b_Md_look 128 = .ok (.iconst 1, 1) := by decide +kernel
theorem d_Md_look_129 : decode b_Md_look 129 = .ok (.iadd, 1) := by decide +kernel
theorem d_Md_look_130 : decode b_Md_look 130 = .ok (.putfield 150, 3) := by decide +kernel
theorem d_Md_look_133 : decode b_Md_look 133 = .ok (.iinc 4 1, 3) := by decide +kernel
theorem d_Md_look_136 : decode b_Md_look 136 = .ok (.goto (-61), 3) := by decide +kernel
theorem d_Md_look_139 : decode b_Md_look 139 = .ok (.iconst 2, 1) := by decide +kernel
theorem d_Md_look_140 : decode b_Md_look 140 = .ok (.istore 4, 2) := by decide +kernel
theorem d_Md_look_142 : decode b_Md_look 142 = .ok (.iload 4, 2) := by decide +kernel
theorem d_Md_look_144 : decode b_Md_look 144 = .ok (.aload_n 0, 1) := by decide +kernel
theorem d_Md_look_145 : decode b_Md_look 145 = .ok (.getfield 140, 3) := by decide +kernel
theorem d_Md_look_148 : decode b_Md_look 148 = .ok (.if_icmp .ge 35, 3) := by decide +kernel
theorem d_Md_look_151 : decode b_Md_look 151 = .ok (.aload_n 0, 1) := by decide +kernel
theorem d_Md_look_152 : decode b_Md_look 152 = .ok (.aload_n 0, 1) := by decide +kernel
theorem d_Md_look_153 : decode b_Md_look 153 = .ok (.getfield 34, 3) := by decide +kernel
theorem d_Md_look_156 : decode b_Md_look 156 = .ok (.iconst 0, 1) := by decide +kernel
theorem d_Md_look_157 : decode b_Md_look 157 = .ok (.iaload, 1) := by decide +kernel
theorem d_Md_look_158 : decode b_Md_look 158 = .ok (.aload_n 0, 1) := by decide +kernel
theorem d_Md_look_159 : decode b_Md_look 159 = .ok (.getfield 34, 3) := by decide +kernel
theorem d_Md_look_162 : decode b_Md_look 162 = .ok (.iload 4, 2) := by decide +kernel
theorem d_Md_look_164 : decode b_Md_look 164 = .ok (.iconst 1, 1) := by decide +kernel
theorem d_Md_look_165 : decode b_Md_look 165 = .ok (.isub, 1) := by decide +kernel
theorem d_Md_look_166 : decode b_Md_look 166 = .ok (.iaload, 1) := by decide +kernel
theorem d_Md_look_167 : decode b_Md_look 167 = .ok (.aload_n 0, 1) := by decide +kernel
theorem d_Md_look_168 : decode b_Md_look 168 = .ok (.getfield 34, 3) := by decide +kernel
theorem d_Md_look_171 : decode b_Md_look 171 = .ok (.iload 4, 2) := by decide +kernel
theorem d_Md_look_173 : decode b_Md_look 173 = .ok (.iaload, 1) := by decide +kernel
theorem d_Md_look_174 : decode b_Md_look 174 = .ok (.invokevirtual 163, 3) := by decide +kernel
theorem d_Md_look_177 : decode b_Md_look 177 = .ok (.iinc 4 1, 3) := by decide +kernel
theorem d_Md_look_180 : decode b_Md_look 180 = .ok (.goto (-38), 3) := by decide +kernel
theorem d_Md_look_183 : decode b_Md_look 183 = .ok (.return_, 1) := by decide +kernel
theorem d_Md_isBefore_0 : decode b_Md_isBefore 0 = .ok (.aload_n 0, 1) := by decide +kernel
theorem d_Md_isBefore_1 : decode b_Md_isBefore 1 = .ok (.getfield 16, 3) := by decide +kernel
theorem d_Md_isBefore_4 : decode b_Md_isBefore 4 = .ok (.iload_n 1, 1) := by decide +kernel
theorem d_Md_isBefore_5 : decode b_Md_isBefore 5 = .ok (.iaload, 1) := by decide +kernel
theorem d_Md_isBefore_6 : decode b_Md_isBefore 6 = .ok (.aload_n 0, 1) := by decide +kernel
theorem d_Md_isBefore_7 : decode b_Md_isBefore 7 = .ok (.getfield 16, 3) := by decide +kernel
theorem d_Md_isBefore_10 : decode b_Md_isBefore 10 = .ok (.iload_n 2, 1) := by decide +kernel
theorem d_Md_isBefore_11 : decode b_Md_isBefore 11 = .ok (.iaload, 1) := by decide +kernel
theorem d_Md_isBefore_12 : decode b_Md_isBefore 12 = .ok (.if_icmp .eq 26, 3) := by decide +kernel
theorem d_Md_isBefore_15 : decode b_Md_isBefore 15 = .ok (.aload_n 0, 1) := by decide +kernel
theorem d_Md_isBefore_16 : decode b_Md_isBefore 16 = .ok (.getfield 16, 3) := by decide +kernel
theorem d_Md_isBefore_19 : decode b_Md_isBefore 19 = .ok (.iload_n 1, 1) := by decide +kernel
theorem d_Md_isBefore_20 : decode b_Md_isBefore 20 = .ok (.iaload, 1) := by decide +kernel
theorem d_Md_isBefore_21 : decode b_Md_isBefore 21 = .ok (.aload_n 0, 1) := by decide +kernel
theorem d_Md_isBefore_22 : decode b_Md_isBefore 22 = .ok (.getfield 16, 3) := by decide +kernel
theorem d_Md_isBefore_25 : decode b_Md_isBefore 25 = .ok (.iload_n 2, 1) := by decide +kernel
theorem d_Md_isBefore_26 : decode b_Md_isBefore 26 = .ok (.iaload, 1) := by decide +kernel
theorem d_Md_isBefore_27 : decode b_Md_isBefore 27 = .ok (.if_icmp .ge 7, 3) := by decide +kernel
theorem d_Md_isBefore_30 : decode b_Md_isBefore 30 = .ok (.iconst 1, 1) := by decide +kernel
theorem d_Md_isBefore_31 : decode b_Md_isBefore 31 = .ok (.goto 65, 3) := by decide +kernel
theorem d_Md_isBefore_34 : decode b_Md_isBefore 34 = .ok (.iconst 0, 1) := by decide +kernel
theorem d_Md_isBefore_35 : decode b_Md_isBefore 35 = .ok (.goto 61, 3) := by decide +kernel
theorem d_Md_isBefore_38 : decode b_Md_isBefore 38 = .ok (.aload_n 0, 1) := by decide +kernel
theorem d_Md_isBefore_39 : decode b_Md_isBefore 39 = .ok (.getfield 19, 3) := by decide +kernel
theorem d_Md_isBefore_42 : decode b_Md_isBefore 42 = .ok (.iload_n 1, 1) := by decide +kernel
theorem d_Md_isBefore_43 : decode b_Md_isBefore 43 = .ok (.iaload, 1) := by decide +kernel
theorem d_Md_isBefore_44 : decode b_Md_isBefore 44 = .ok (.aload_n 0, 1) := by decide +kernel
theorem d_Md_isBefore_45 : decode b_Md_isBefore 45 = .ok (.getfield 19, 3) := by decide +kernel
theorem d_Md_isBefore_48 : decode b_Md_isBefore 48 = .ok (.iload_n 2, 1) := by decide +kernel
theorem d_Md_isBefore_49 : decode b_Md_isBefore 49 = .ok (.iaload, 1) := by decide +kernel
theorem d_Md_isBefore_50 : decode b_Md_isBefore 50 = .ok (.if_icmp .eq 26, 3) := by decide +kernel
theorem d_Md_isBefore_53 : decode b_Md_isBefore 53 = .ok (.aload_n 0, 1) := by decide +kernel
theorem d_Md_isBefore_54 : decode b_Md_isBefore 54 = .ok (.getfield 19, 3) := by decide +kernel
theorem d_Md_isBefore_57 : decode b_Md_isBefore 57 = .ok (.iload_n 1, 1) := by decide +kernel
theorem d_Md_isBefore_58 : decode b_Md_isBefore 58 = .ok (.iaload, 1) := by decide +kernel
theorem d_Md_isBefore_59 : decode b_Md_isBefore 59 = .ok (.aload_n 0, 1) := by decide +kernel
theorem d_Md_isBefore_60 : decode b_Md_isBefore 60 = .ok (.getfield 19, 3) := by decide +kernel
theorem d_Md_isBefore_63 : decode b_Md_isBefore 63 = .ok (.iload_n 2, 1) := by decide +kernel
theorem d_Md_isBefore_64 : decode b_Md_isBefore 64 = .ok (.iaload, 1) := by decide +kernel
theorem d_Md_isBefore_65 : decode b_Md_isBefore 65 = .ok (.if_icmp .ge 7, 3) := by decide +kernel
theorem d_Md_isBefore_68 : decode b_Md_isBefore 68 = .ok (.iconst 1, 1) := by decide +kernel
theorem d_Md_isBefore_69 : decode b_Md_isBefore 69 = .ok (.goto 27, 3) := by decide +kernel
theorem d_Md_isBefore_72 : decode b_Md_isBefore 72 = .ok (.iconst 0, 1) := by decide +kernel
theorem d_Md_isBefore_73 : decode b_Md_isBefore 73 = .ok (.goto 23, 3) := by decide +kernel
theorem d_Md_isBefore_76 : decode b_Md_isBefore 76 = .ok (.aload_n 0, 1) := by decide +kernel
theorem d_Md_isBefore_77 : decode b_Md_isBefore 77 = .ok (.getfield 22, 3) := by decide +kernel
theorem d_Md_isBefore_80 : decode b_Md_isBefore 80 = .ok (.iload_n 1, 1) := by decide +kernel
theorem d_Md_isBefore_81 : decode b_Md_isBefore 81 = .ok (.iaload, 1) := by decide +kernel
theorem d_Md_isBefore_82 : decode b_Md_isBefore 82 = .ok (.aload_n 0, 1) := by decide +kernel
theorem d_Md_isBefore_83 : decode b_Md_isBefore 83 = .ok (.getfield 22, 3) := by decide +kernel
theorem d_Md_isBefore_86 : decode b_Md_isBefore 86 = .ok (.iload_n 2, 1) := by decide +kernel
theorem d_Md_isBefore_87 : decode b_Md_isBefore 87 = .ok (.iaload, 1) := by decide +kernel
theorem d_Md_isBefore_88 : decode b_Md_isBefore 88 = .ok (.if_icmp .ge 7, 3) := by decide +kernel
theorem d_Md_isBefore_91 : decode b_Md_isBefore 91 = .ok (.iconst 1, 1) := by decide +kernel
theorem d_Md_isBefore_92 : decode b_Md_isBefore 92 = .ok (.goto 4, 3) := by decide +kernel
theorem d_Md_isBefore_95 : decode b_Md_isBefore 95 = .ok (.iconst 0, 1) := by decide +kernel
theorem d_Md_isBefore_96 : decode b_Md_isBefore 96 = .ok (.ireturn, 1) := by decide +kernel
theorem d_Md_swap_0 : decode b_Md_swap 0 = .ok (.aload_n 0, 1) := by decide +kernel
theorem d_Md_swap_1 : decode b_Md_swap 1 = .ok (.getfield 16, 3) := by decide +kernel
theorem d_Md_swap_4 : decode b_Md_swap 4 = .ok (.iload_n 1, 1) := by decide +kernel
theorem d_Md_swap_5 : decode b_Md_swap 5 = .ok (.iaload, 1) := by decide +kernel
theorem d_Md_swap_6 : decode b_Md_swap 6 = .ok (.istore_n 2, 1) := by decide +kernel
theorem d_Md_swap_7 : decode b_Md_swap 7 = .ok (.aload_n 0, 1) := by decide +kernel
theorem d_Md_swap_8 : decode b_Md_swap 8 = .ok (.getfield 19, 3) := by decide +kernel
theorem d_Md_swap_11 : decode b_Md_swap 11 = .ok (.iload_n 1, 1) := by decide +kernel
theorem d_Md_swap_12 : decode b_Md_swap 12 = .ok (.iaload, 1) := by decide +kernel
theorem d_Md_swap_13 : decode b_Md_swap 13 = .ok (.istore_n 3, 1) := by decide +kernel
theorem d_Md_swap_14 : decode b_Md_swap 14 = .ok (.aload_n 0, 1) := by decide +kernel
theorem d_Md_swap_15 : decode b_Md_swap 15 = .ok (.getfield 22, 3) := by decide +kernel
theorem d_Md_swap_18 : decode b_Md_swap 18 = .ok (.iload_n 1, 1) := by decide +kernel
theorem d_Md_swap_19 : decode b_Md_swap 19 = .ok (.iaload, 1) := by decide +kernel
theorem d_Md_swap_20 : decode b_Md_swap 20 = .ok (.istore 4, 2) := by decide +kernel
theorem d_Md_swap_22 : decode b_Md_swap 22 = .ok (.aload_n 0, 1) := by decide +kernel
theorem d_Md_swap_23 : decode b_Md_swap 23 = .ok (.getfield 16, 3) := by decide +kernel
theorem d_Md_swap_26 : decode b_Md_swap 26 = .ok (.iload_n 1, 1) := by decide +kernel
theorem d_Md_swap_27 : decode b_Md_swap 27 = .ok (.aload_n 0, 1) := by decide +kernel
theorem d_Md_swap_28 : decode b_Md_swap 28 = .ok (.getfield 16, 3) := by decide +kernel
theorem d_Md_swap_31 : decode b_Md_swap 31 = .ok (.iload_n 1, 1) := by decide +kernel
theorem d_Md_swap_32 : decode b_Md_swap 32 = .ok (.iconst 1, 1) := by decide +kernel
theorem d_Md_swap_33 : decode b_Md_swap 33 = .ok (.isub, 1) := by decide +kernel
theorem d_Md_swap_34 : decode b_Md_swap 34 = .ok (.iaload, 1) := by decide +kernel
theorem d_Md_swap_35 : decode b_Md_swap 35 = .ok (.iastore, 1) := by decide +kernel
theorem d_Md_swap_36 : decode b_Md_swap 36 = .ok (.aload_n 0, 1) := by decide +kernel
theorem d_Md_swap_37 : decode b_Md_swap 37 = .ok (.getfield 19, 3) := by decide +kernel
theorem d_Md_swap_40 : decode b_Md_swap 40 = .ok (.iload_n 1, 1) := by decide +kernel
theorem d_Md_swap_41 : decode b_Md_swap 41 = .ok (.aload_n 0, 1) := by decide +kernel
theorem d_Md_swap_42 : decode b_Md_swap 42 = .ok (.getfield 19, 3) := by decide +kernel
theorem d_Md_swap_45 : decode b_Md_swap 45 = .ok (.iload_n 1, 1) := by decide +kernel
theorem d_Md_swap_46 : decode b_Md_swap 46 = .ok (.iconst 1, 1) := by decide +kernel
theorem d_Md_swap_47 : decode b_Md_swap 47 = .ok (.isub, 1) := by decide +kernel
theorem d_Md_swap_48 : decode b_Md_swap 48 = .ok (.iaload, 1) := by decide +kernel
theorem d_Md_swap_49 : decode b_Md_swap 49 = .ok (.iastore, 1) := by decide +kernel
theorem d_Md_swap_50 : decode b_Md_swap 50 = .ok (.aload_n 0, 1) := by decide +kernel
theorem d_Md_swap_51 : decode b_Md_swap 51 = .ok (.getfield 22, 3) := by decide +kernel
theorem d_Md_swap_54 : decode b_Md_swap 54 = .ok (.iload_n 1, 1) := by decide +kernel
theorem d_Md_swap_55 : decode b_Md_swap 55 = .ok (.aload_n 0, 1) := by decide +kernel
theorem d_Md_swap_56 : decode b_Md_swap 56 = .ok (.getfield 22, 3) := by decide +kernel
theorem d_Md_swap_59 : decode b_Md_swap 59 = .ok (.iload_n 1, 1) := by decide +kernel
theorem d_Md_swap_60 : decode b_Md_swap 60 = .ok (.iconst 1, 1) := by decide +kernel
theorem d_Md_swap_61 : decode b_Md_swap 61 = .ok (.isub, 1) := by decide +kernel
theorem d_Md_swap_62 : decode b_Md_swap 62 = .ok (.iaload, 1) := by decide +kernel
theorem d_Md_swap_63 : decode b_Md_swap 63 = .ok (.iastore, 1) := by decide +kernel
theorem d_Md_swap_64 : decode b_Md_swap 64 = .ok (.aload_n 0, 1) := by decide +kernel
theorem d_Md_swap_65 : decode b_Md_swap 65 = .ok (.getfield 16, 3) := by decide +kernel
theorem d_Md_swap_68 : decode b_Md_swap 68 = .ok (.iload_n 1, 1) := by decide +kernel
theorem d_Md_swap_69 : decode b_Md_swap 69 = .ok (.iconst 1, 1) := by decide +kernel
theorem d_Md_swap_70 : decode b_Md_swap 70 = .ok (.isub, 1) := by decide +kernel
theorem d_Md_swap_71 : decode b_Md_swap 71 = .ok (.iload_n 2, 1) := by decide +kernel
theorem d_Md_swap_72 : decode b_Md_swap 72 = .ok (.iastore, 1) := by decide +kernel
theorem d_Md_swap_73 : decode b_Md_swap 73 = .ok (.aload_n 0, 1) := by decide +kernel
theorem d_Md_swap_74 : decode b_Md_swap 74 = .ok (.getfield 19, 3) := by decide +kernel
theorem d_Md_swap_77 : decode b_Md_swap 77 = .ok (.iload_n 1, 1) := by decide +kernel
theorem d_Md_swap_78 : decode b_Md_swap 78 = .ok (.iconst 1, 1) := by decide +kernel
theorem d_Md_swap_79 : decode b_Md_swap 79 = .ok (.isub, 1) := by decide +kernel
theorem d_Md_swap_80 : decode b_Md_swap 80 = .ok (.iload_n 3, 1) := by decide +kernel
theorem d_Md_swap_81 : decode b_Md_swap 81 = .ok (.iastore, 1) := by decide +kernel
theorem d_Md_swap_82 : decode b_Md_swap 82 = .ok (.aload_n 0, 1) := by decide +kernel
theorem d_Md_swap_83 : decode b_Md_swap 83 = .ok (.getfield 22, 3) := by decide +kernel
theorem d_Md_swap_86 : decode b_Md_swap 86 = .ok (.iload_n 1, 1) := by decide +kernel
theorem d_Md_swap_87 : decode b_Md_swap 87 = .ok (.iconst 1, 1) := by decide +kernel
theorem d_Md_swap_88 : decode b_Md_swap 88 = .ok (.isub, 1) := by decide +kernel
theorem d_Md_swap_89 : decode b_Md_swap 89 = .ok (.iload 4, 2) := by decide +kernel
theorem d_Md_swap_91 : decode b_Md_swap 91 = .ok (.iastore, 1) := by decide +kernel
theorem d_Md_swap_92 : decode b_Md_swap 92 = .ok (.return_, 1) := by decide +kernel
theorem d_Md_sort_0 : decode b_Md_sort 0 = .ok (.iconst 1, 1) := by decide +kernel
theorem d_Md_sort_1 : decode b_Md_sort 1 = .ok (.istore_n 1, 1) := by decide +kernel
theorem d_Md_sort_2 : decode b_Md_sort 2 = .ok (.iload_n 1, 1) := by decide +kernel
theorem d_Md_sort_3 : decode b_Md_sort 3 = .ok (.aload_n 0, 1) := by decide +kernel
theorem d_Md_sort_4 : decode b_Md_sort 4 = .ok (.getfield 153, 3) := by decide +kernel
theorem d_Md_sort_7 : decode b_Md_sort 7 = .ok (.if_icmp .ge 37, 3) := by decide +kernel
theorem d_Md_sort_10 : decode b_Md_sort 10 = .ok (.iload_n 1, 1) := by decide +kernel
theorem d_Md_sort_11 : decode b_Md_sort 11 = .ok (.istore_n 2, 1) := by decide +kernel
theorem d_Md_sort_12 : decode b_Md_sort 12 = .ok (.iload_n 2, 1) := by decide +kernel
theorem d_Md_sort_13 : decode b_Md_sort 13 = .ok (.ifCond .le 25, 3) := by decide +kernel
theorem d_Md_sort_16 : decode b_Md_sort 16 = .ok (.aload_n 0, 1) := by decide +kernel
theorem d_Md_sort_17 : decode b_Md_sort 17 = .ok (.iload_n 2, 1) := by decide +kernel
theorem d_Md_sort_18 : decode b_Md_sort 18 = .ok (.iload_n 2, 1) := by decide +kernel
theorem d_Md_sort_19 : decode b_Md_sort 19 = .ok (.iconst 1, 1) := by decide +kernel
theorem d_Md_sort_20 : decode b_Md_sort 20 = .ok (.isub, 1) := by decide +kernel
theorem d_Md_sort_21 : decode b_Md_sort 21 = .ok (.invokevirtual 166, 3) := by decide +kernel
theorem d_Md_sort_24 : decode b_Md_sort 24 = .ok (.ifCond .eq 14, 3) := by decide +kernel
theorem d_Md_sort_27 : decode b_Md_sort 27 = .ok (.aload_n 0, 1) := by decide +kernel
theorem d_Md_sort_28 : decode b_Md_sort 28 = .ok (.iload_n 2, 1) := by decide +kernel
theorem d_Md_sort_29 : decode b_Md_sort 29 = .ok (.invokevirtual 169, 3) := by decide +kernel
theorem d_Md_sort_32 : decode b_Md_sort 32 = .ok (.iinc 2 (-1), 3) := by decide +kernel
theorem d_Md_sort_35 : decode b_Md_sort 35 = .ok (.goto (-23), 3) := by decide +kernel
theorem d_Md_sort_38 : decode b_Md_sort 38 = .ok (.iinc 1 1, 3) := by decide +kernel
theorem d_Md_sort_41 : decode b_Md_sort 41 = .ok (.goto (-39), 3) := by decide +kernel
theorem d_Md_sort_44 : decode b_Md_sort 44 = .ok (.return_, 1) := by decide +kernel
theorem d_Md_know_0 : decode b_Md_know 0 = .ok (.aload_n 0, 1) := by decide +kernel
theorem d_Md_know_1 : decode b_Md_know 1 = .ok (.getfield 101, 3) := by decide +kernel
theorem d_Md_know_4 : decode b_Md_know 4 = .ok (.ifCond .eq 4, 3) := by decide +kernel
theorem d_Md_know_7 : decode b_Md_know 7 = .ok (.return_, 1) := by decide +kernel
theorem d_Md_know_8 : decode b_Md_know 8 = .ok (.aload_n 0, 1) := by decide +kernel
theorem d_Md_know_9 : decode b_Md_know 9 = .ok (.iconst 1, 1) := by decide +kernel
theorem d_Md_know_10 : decode b_Md_know 10 = .ok (.putfield 101, 3) := by decide +kernel
theorem d_Md_know_13 : decode b_Md_know 13 = .ok (.aload_n 0, 1) := by decide +kernel
theorem d_Md_know_14 : decode b_Md_know 14 = .ok (.iconst 0, 1) := by decide +kernel
theorem d_Md_know_15 : decode b_Md_know 15 = .ok (.putfield 153, 3) := by decide +kernel
theorem d_Md_know_18 : decode b_Md_know 18 = .ok (.aload_n 0, 1) := by decide +kernel
theorem d_Md_know_19 : decode b_Md_know 19 = .ok (.iconst 0, 1) := by decide +kernel
theorem d_Md_know_20 : decode b_Md_know 20 = .ok (.putfield 150, 3) := by decide +kernel
theorem d_Md_know_23 : decode b_Md_know 23 = .ok (.aload_n 0, 1) := by decide +kernel
theorem d_Md_know_24 : decode b_Md_know 24 = .ok (.iconst 0, 1) := by decide +kernel
theorem d_Md_know_25 : decode b_Md_know 25 = .ok (.putfield 173, 3) := by decide +kernel
theorem d_Md_know_28 : decode b_Md_know 28 = .ok (.aload_n 0, 1) := by decide +kernel
theorem d_Md_know_29 : decode b_Md_know 29 = .ok (.invokevirtual 176, 3) := by decide +kernel
theorem d_Md_know_32 : decode b_Md_know 32 = .ok (.aload_n 0, 1) := by decide +kernel
theorem d_Md_know_33 : decode b_Md_know 33 = .ok (.getfield 131, 3) := by decide +kernel
theorem d_Md_know_36 : decode b_Md_know 36 = .ok (.iconst 3, 1) := by decide +kernel
theorem d_Md_know_37 : decode b_Md_know 37 = .ok (.if_icmp .ge 4, 3) := by decide +kernel
theorem d_Md_know_40 : decode b_Md_know 40 = .ok (.return_, 1) := by decide +kernel
theorem d_Md_know_41 : decode b_Md_know 41 = .ok (.aload_n 0, 1) := by decide +kernel
theorem d_Md_know_42 : decode b_Md_know 42 = .ok (.getfield 25, 3) := by decide +kernel
theorem d_Md_know_45 : decode b_Md_know 45 = .ok (.iconst 0, 1) := by decide +kernel
theorem d_Md_know_46 : decode b_Md_know 46 = .ok (.iaload, 1) := by decide +kernel
theorem d_Md_know_47 : decode b_Md_know 47 = .ok (.istore_n 1, 1) := by decide +kernel
theorem d_Md_know_48 : decode b_Md_know 48 = .ok (.aload_n 0, 1) := by decide +kernel
theorem d_Md_know_49 : decode b_Md_know 49 = .ok (.getfield 25, 3) := by decide +kernel
theorem d_Md_know_52 : decode b_Md_know 52 = .ok (.iconst 1, 1) := by decide +kernel
theorem d_Md_know_53 : decode b_Md_know 53 = .ok (.iaload, 1) := by decide +kernel
theorem d_Md_know_54 : decode b_Md_know 54 = .ok (.istore_n 2, 1) := by decide +kernel
theorem d_Md_know_55 : decode b_Md_know 55 = .ok (.iconst 0, 1) := by decide +kernel
theorem d_Md_know_56 : decode b_Md_know 56 = .ok (.istore_n 3, 1) := by decide +kernel
theorem d_Md_know_57 : decode b_Md_know 57 = .ok (.iload_n 3, 1) := by decide +kernel
theorem d_Md_know_58 : decode b_Md_know 58 = .ok (.aload_n 0, 1) := by decide +kernel
theorem d_Md_know_59 : decode b_Md_know 59 = .ok (.getfield 98, 3) := by decide +kernel
theorem d_Md_know_62 : decode b_Md_know 62 = .ok (.if_icmp .ge 69, 3) := by decide +kernel
theorem d_Md_know_65 : decode b_Md_know 65 = .ok (.iload_n 3, 1) := by decide +kernel
theorem d_Md_know_66 : decode b_Md_know 66 = .ok (.iload_n 1, 1) := by decide +kernel
theorem d_Md_know_67 : decode b_Md_know 67 = .ok (.if_icmp .eq 58, 3) := by decide +kernel
theorem d_Md_know_70 : decode b_Md_know 70 = .ok (.aload_n 0, 1) := by decide +kernel
theorem d_Md_know_71 : decode b_Md_know 71 = .ok (.iload_n 1, 1) := by decide +kernel
theorem d_Md_know_72 : decode b_Md_know 72 = .ok (.aload_n 0, 1) := by decide +kernel
theorem d_Md_know_73 : decode b_Md_know 73 = .ok (.getfield 25, 3) := by decide +kernel
theorem d_Md_know_76 : decode b_Md_know 76 = .ok (.iconst 1, 1) := by decide +kernel
theorem d_Md_know_77 : decode b_Md_know 77 = .ok (.iaload, 1) := by decide +kernel
theorem d_Md_know_78 : decode b_Md_know 78 = .ok (.iload_n 3, 1) := by decide +kernel
theorem d_Md_know_79 : decode b_Md_know 79 = .ok (.invokevirtual 123, 3) := by decide +kernel
theorem d_Md_know_82 : decode b_Md_know 82 = .ok (.ifCond .ne 43, 3) := by decide +kernel
theorem d_Md_know_85 : decode b_Md_know 85 = .ok (.aload_n 0, 1) := by decide +kernel
theorem d_Md_know_86 : decode b_Md_know 86 = .ok (.iload_n 1, 1) := by decide +kernel
theorem d_Md_know_87 : decode b_Md_know 87 = .ok (.aload_n 0, 1) := by decide +kernel
theorem d_Md_know_88 : decode b_Md_know 88 = .ok (.getfield 7, 3) := by decide +kernel
theorem d_Md_know_91 : decode b_Md_know 91 = .ok (.iload_n 3, 1) := by decide +kernel
theorem d_Md_know_92 : decode b_Md_know 92 = .ok (.iaload, 1) := by decide +kernel
theorem d_Md_know_93 : decode b_Md_know 93 = .ok (.aload_n 0, 1) := by decide +kernel
theorem d_Md_know_94 : decode b_Md_know 94 = .ok (.getfield 13, 3) := by decide +kernel
theorem d_Md_know_97 : decode b_Md_know 97 = .ok (.iload_n 3, 1) := by decide +kernel
theorem d_Md_know_98 : decode b_Md_know 98 = .ok (.iaload, 1) := by decide +kernel
theorem d_Md_know_99 : decode b_Md_know 99 = .ok (.invokevirtual 127, 3) := by decide +kernel
theorem d_Md_know_102 : decode b_Md_know 102 = .ok (.aload_n 0, 1) := by decide +kernel
theorem d_Md_know_103 : decode b_Md_know 103 = .ok (.iload_n 1, 1) := by decide +kernel
theorem d_Md_know_104 : decode b_Md_know 104 = .ok (.aload_n 0, 1) := by decide +kernel
theorem d_Md_know_105 : decode b_Md_know 105 = .ok (.getfield 7, 3) := by decide +kernel
theorem d_Md_know_108 : decode b_Md_know 108 = .ok (.iload_n 2, 1) := by decide +kernel
theorem d_Md_know_109 : decode b_Md_know 109 = .ok (.iaload, 1) := by decide +kernel
theorem d_Md_know_110 : decode b_Md_know 110 = .ok (.aload_n 0, 1) := by decide +kernel
theorem d_Md_know_111 : decode b_Md_know 111 = .ok (.getfield 13, 3) := by decide +kernel
theorem d_Md_know_114 : decode b_Md_know 114 = .ok (.iload_n 2, 1) := by decide +kernel
theorem d_Md_know_115 : decode b_Md_know 115 = .ok (.iaload, 1) := by decide +kernel
theorem d_Md_know_116 : decode b_Md_know 116 = .ok (.invokevirtual 127, 3) := by decide +kernel
theorem d_Md_know_119 : decode b_Md_know 119 = .ok (.lcmp, 1) := by decide +kernel
theorem d_Md_know_120 : decode b_Md_know 120 = .ok (.ifCond .ge 5, 3) := by decide +kernel
theorem d_Md_know_123 : decode b_Md_know 123 = .ok (.iload_n 3, 1) := by decide +kernel
theorem d_Md_know_124 : decode b_Md_know 124 = .ok (.istore_n 2, 1) := by decide +kernel
theorem d_Md_know_125 : decode b_Md_know 125 = .ok (.iinc 3 1, 3) := by decide +kernel
theorem d_Md_know_128 : decode b_Md_know 128 = .ok (.goto (-71), 3) := by decide +kernel
theorem d_Md_know_131 : decode b_Md_know 131 = .ok (.aload_n 0, 1) := by decide +kernel
theorem d_Md_know_132 : decode b_Md_know 132 = .ok (.iload_n 1, 1) := by decide +kernel
theorem d_Md_know_133 : decode b_Md_know 133 = .ok (.iload_n 2, 1) := by decide +kernel
theorem d_Md_know_134 : decode b_Md_know 134 = .ok (.invokevirtual 179, 3) := by decide +kernel
theorem d_Md_know_137 : decode b_Md_know 137 = .ok (.aload_n 0, 1) := by decide +kernel
theorem d_Md_know_138 : decode b_Md_know 138 = .ok (.getfield 173, 3) := by decide +kernel
theorem d_Md_know_141 : decode b_Md_know 141 = .ok (.aload_n 0, 1) := by decide +kernel
theorem d_Md_know_142 : decode b_Md_know 142 = .ok (.getfield 150, 3) := by decide +kernel
theorem d_Md_know_145 : decode b_Md_know 145 = .ok (.if_icmp .ge 38, 3) := by decide +kernel
theorem d_Md_know_148 : decode b_Md_know 148 = .ok (.aload_n 0, 1) := by decide +kernel
theorem d_Md_know_149 : decode b_Md_know 149 = .ok (.aload_n 0, 1) := by decide +kernel
theorem d_Md_know_150 : decode b_Md_know 150 = .ok (.getfield 31, 3) := by decide +kernel
theorem d_Md_know_153 : decode b_Md_know 153 = .ok (.aload_n 0, 1) := by decide +kernel
theorem d_Md_know_154 : decode b_Md_know 154 = .ok (.getfield 173, 3) := by decide +kernel
theorem d_Md_know_157 : decode b_Md_know 157 = .ok (.iaload, 1) := by decide +kernel
theorem d_Md_know_158 : decode b_Md_know 158 = .ok (.aload_n 0, 1) := by decide +kernel
theorem d_Md_know_159 : decode b_Md_know 159 = .ok (.getfield 28, 3) := by decide +kernel
theorem d_Md_know_162 : decode b_Md_know 162 = .ok (.aload_n 0, 1) := by decide +kernel
theorem d_Md_know_163 : decode b_Md_know 163 = .ok (.getfield 173, 3) := by decide +kernel
theorem d_Md_know_166 : decode b_Md_know 166 = .ok (.iaload, 1) := by decide +kernel
theorem d_Md_know_167 : decode b_Md_know 167 = .ok (.invokevirtual 179, 3) := by decide +kernel
theorem d_Md_know_170 : decode b_Md_know 170 = .ok (.aload_n 0, 1) := by decide +kernel
theorem d_Md_know_171 : decode b_Md_know 171 = .ok (.dup, 1) := by decide +kernel
theorem d_Md_know_172 : decode b_Md_know 172 = .ok (.getfield 173, 3) := by decide +kernel
theorem d_Md_know_175 : decode b_Md_know 175 = .ok (.iconst 1, 1) := by decide +kernel
theorem d_Md_know_176 : decode b_Md_know 176 = .ok (.iadd, 1) := by decide +kernel
theorem d_Md_know_177 : decode b_Md_know 177 = .ok (.putfield 173, 3) := by decide +kernel
theorem d_Md_know_180 : decode b_Md_know 180 = .ok (.goto (-43), 3) := by decide +kernel
theorem d_Md_know_183 : decode b_Md_know 183 = .ok (.aload_n 0, 1) := by decide +kernel
theorem d_Md_know_184 : decode b_Md_know 184 = .ok (.invokevirtual 183, 3) := by decide +kernel
theorem d_Md_know_187 : decode b_Md_know 187 = .ok (.return_, 1) := by decide +kernel
theorem d_Md_triangle_0 : decode b_Md_triangle 0 = .ok (.aload_n 0, 1) := by decide +kernel
theorem d_Md_triangle_1 : decode b_Md_triangle 1 = .ok (.iconst 0, 1) := by decide +kernel
theorem d_Md_triangle_2 : decode b_Md_triangle 2 = .ok (.putfield 47, 3) := by decide +kernel
theorem d_Md_triangle_5 : decode b_Md_triangle 5 = .ok (.aload_n 0, 1) := by decide +kernel
theorem d_Md_triangle_6 : decode b_Md_triangle 6 = .ok (.invokevirtual 186, 3) := by decide +kernel
theorem d_Md_triangle_9 : decode b_Md_triangle 9 = .ok (.iload_n 1, 1) := by decide +kernel
theorem d_Md_triangle_10 : decode b_Md_triangle 10 = .ok (.iconst 0, 1) := by decide +kernel
theorem d_Md_triangle_11 : decode b_Md_triangle 11 = .ok (.aload_n 0, 1) := by decide +kernel
theorem d_Md_triangle_12 : decode b_Md_triangle 12 = .ok (.getfield 153, 3) := by decide +kernel
theorem d_Md_triangle_15 : decode b_Md_triangle 15 = .ok (.iconst 1, 1) := by decide +kernel
theorem d_Md_triangle_16 : decode b_Md_triangle 16 = .ok (.isub, 1) := by decide +kernel
theorem d_Md_triangle_17 : decode b_Md_triangle 17 = .ok (.invokestatic 52, 3) := by decide +kernel
theorem d_Md_triangle_20 : decode b_Md_triangle 20 = .ok (.ifCond .eq 12, 3) := by decide +kernel
theorem d_Md_triangle_23 : decode b_Md_triangle 23 = .ok (.iload_n 2, 1) := by decide +kernel
theorem d_Md_triangle_24 : decode b_Md_triangle 24 = .ok (.iconst 0, 1) := by decide +kernel
theorem d_Md_triangle_25 : decode b_Md_triangle 25 = .ok (.iconst 2, 1) := by decide +kernel
theorem d_Md_triangle_26 : decode b_Md_triangle 26 = .ok (.invokestatic 52, 3) := by decide +kernel
theorem d_Md_triangle_29 : decode b_Md_triangle 29 = .ok (.ifCond .ne 9, 3) := by decide +kernel
theorem d_Md_triangle_32 : decode b_Md_triangle 32 = .ok (.aload_n 0, 1) := by decide +kernel
theorem d_Md_triangle_33 : decode b_Md_triangle 33 = .ok (.iconst 1, 1) := by decide +kernel
theorem d_Md_triangle_34 : decode b_Md_triangle 34 = .ok (.invokevirtual 109, 3) := by decide +kernel
theorem d_Md_triangle_37 : decode b_Md_triangle 37 = .ok (.ireturn, 1) := by decide +kernel
theorem d_Md_triangle_38 : decode b_Md_triangle 38 = .ok (.iload_n 2, 1) := by decide +kernel
theorem d_Md_triangle_39 : decode b_Md_triangle 39 = .ok (.ifCond .ne 12, 3) := by decide +kernel
theorem d_Md_triangle_42 : decode b_Md_triangle 42 = .ok (.aload_n 0, 1) := by decide +kernel
theorem d_Md_triangle_43 : decode b_Md_triangle 43 = .ok (.getfield 16, 3) := by decide +kernel
theorem d_Md_triangle_46 : decode b_Md_triangle 46 = .ok (.iload_n 1, 1) := by decide +kernel
theorem d_Md_triangle_47 : decode b_Md_triangle 47 = .ok (.iaload, 1) := by decide +kernel
theorem d_Md_triangle_48 : decode b_Md_triangle 48 = .ok (.goto 23, 3) := by decide +kernel
theorem d_Md_triangle_51 : decode b_Md_triangle 51 = .ok (.iload_n 2, 1) := by decide +kernel
theorem d_Md_triangle_52 : decode b_Md_triangle 52 = .ok (.iconst 1, 1) := by decide +kernel
theorem d_Md_triangle_53 : decode b_Md_triangle 53 = .ok (.if_icmp .ne 12, 3) := by decide +kernel
theorem d_Md_triangle_56 : decode b_Md_triangle 56 = .ok (.aload_n 0, 1) := by decide +kernel
theorem d_Md_triangle_57 : decode b_Md_triangle 57 = .ok (.getfield 19, 3) := by decide +kernel
theorem d_Md_triangle_60 : decode b_Md_triangle 60 = .ok (.iload_n 1, 1) := by decide +kernel
theorem d_Md_triangle_61 : decode b_Md_triangle 61 = .ok (.iaload, 1) := by decide +kernel
theorem d_Md_triangle_62 : decode b_Md_triangle 62 = .ok (.goto 9, 3) := by decide +kernel
theorem d_Md_triangle_65 : decode b_Md_triangle 65 = .ok (.aload_n 0, 1) := by decide +kernel
theorem d_Md_triangle_66 : decode b_Md_triangle 66 = .ok (.getfield 22, 3) := by decide +kernel
theorem d_Md_triangle_69 : decode b_Md_triangle 69 = .ok (.iload_n 1, 1) := by decide +kernel
theorem d_Md_triangle_70 : decode b_Md_triangle 70 = .ok (.iaload, 1) := by decide +kernel
theorem d_Md_triangle_71 : decode b_Md_triangle 71 = .ok (.ireturn, 1) := by decide +kernel
theorem d_Md_corner_0 : decode b_Md_corner 0 = .ok (.aload_n 0, 1) := by decide +kernel
theorem d_Md_corner_1 : decode b_Md_corner 1 = .ok (.iconst 0, 1) := by decide +kernel
theorem d_Md_corner_2 : decode b_Md_corner 2 = .ok (.putfield 47, 3) := by decide +kernel
theorem d_Md_corner_5 : decode b_Md_corner 5 = .ok (.aload_n 0, 1) := by decide +kernel
theorem d_Md_corner_6 : decode b_Md_corner 6 = .ok (.invokevirtual 186, 3) := by decide +kernel
theorem d_Md_corner_9 : decode b_Md_corner 9 = .ok (.iload_n 1, 1) := by decide +kernel
theorem d_Md_corner_10 : decode b_Md_corner 10 = .ok (.iconst 0, 1) := by decide +kernel
theorem d_Md_corner_11 : decode b_Md_corner 11 = .ok (.aload_n 0, 1) := by decide +kernel
theorem d_Md_corner_12 : decode b_Md_corner 12 = .ok (.getfield 131, 3) := by decide +kernel
theorem d_Md_corner_15 : decode b_Md_corner 15 = .ok (.iconst 1, 1) := by decide +kernel
theorem d_Md_corner_16 : decode b_Md_corner 16 = .ok (.isub, 1) := by decide +kernel
theorem d_Md_corner_17 : decode b_Md_corner 17 = .ok (.invokestatic 52, 3) := by decide +kernel
theorem d_Md_corner_20 : decode b_Md_corner 20 = .ok (.ifCond .eq 12, 3) := by decide +kernel
theorem d_Md_corner_23 : decode b_Md_corner 23 = .ok (.aload_n 0, 1) := by decide +kernel
theorem d_Md_corner_24 : decode b_Md_corner 24 = .ok (.getfield 25, 3) := by decide +kernel
theorem d_Md_corner_27 : decode b_Md_corner 27 = .ok (.iload_n 1, 1) := by decide +kernel
theorem d_Md_corner_28 : decode b_Md_corner 28 = .ok (.iaload, 1) := by decide +kernel
theorem d_Md_corner_29 : decode b_Md_corner 29 = .ok (.goto 8, 3) := by decide +kernel
theorem d_Md_corner_32 : decode b_Md_corner 32 = .ok (.aload_n 0, 1) := by decide +kernel
theorem d_Md_corner_33 : decode b_Md_corner 33 = .ok (.iconst 1, 1) := by decide +kernel
theorem d_Md_corner_34 : decode b_Md_corner 34 = .ok (.invokevirtual 109, 3) := by decide +kernel
theorem d_Md_corner_37 : decode b_Md_corner 37 = .ok (.ireturn, 1) := by decide +kernel
theorem d_Md_isIn_0 : decode b_Md_isIn 0 = .ok (.aload_n 0, 1) := by decide +kernel
theorem d_Md_isIn_1 : decode b_Md_isIn 1 = .ok (.getfield 16, 3) := by decide +kernel
theorem d_Md_isIn_4 : decode b_Md_isIn 4 = .ok (.iload_n 1, 1) := by decide +kernel
theorem d_Md_isIn_5 : decode b_Md_isIn 5 = .ok (.iaload, 1) := by decide +kernel
theorem d_Md_isIn_6 : decode b_Md_isIn 6 = .ok (.iload_n 2, 1) := by decide +kernel
theorem d_Md_isIn_7 : decode b_Md_isIn 7 = .ok (.if_icmp .eq 23, 3) := by decide +kernel
theorem d_Md_isIn_10 : decode b_Md_isIn 10 = .ok (.aload_n 0, 1) := by decide +kernel
theorem d_Md_isIn_11 : decode b_Md_isIn 11 = .ok (.getfield 19, 3) := by decide +kernel
theorem d_Md_isIn_14 : decode b_Md_isIn 14 = .ok (.iload_n 1, 1) := by decide +kernel
theorem d_Md_isIn_15 : decode b_Md_isIn 15 = .ok (.iaload, 1) := by decide +kernel
theorem d_Md_isIn_16 : decode b_Md_isIn 16 = .ok (.iload_n 2, 1) := by decide +kernel
theorem d_Md_isIn_17 : decode b_Md_isIn 17 = .ok (.if_icmp .eq 13, 3) := by decide +kernel
theorem d_Md_isIn_20 : decode b_Md_isIn 20 = .ok (.aload_n 0, 1) := by decide +kernel
theorem d_Md_isIn_21 : decode b_Md_isIn 21 = .ok (.getfield 22, 3) := by decide +kernel
theorem d_Md_isIn_24 : decode b_Md_isIn 24 = .ok (.iload_n 1, 1) := by decide +kernel
theorem d_Md_isIn_25 : decode b_Md_isIn 25 = .ok (.iaload, 1) := by decide +kernel
theorem d_Md_isIn_26 : decode b_Md_isIn 26 = .ok (.iload_n 2, 1) := by decide +kernel
theorem d_Md_isIn_27 : decode b_Md_isIn 27 = .ok (.if_icmp .ne 7, 3) := by decide +kernel
theorem d_Md_isIn_30 : decode b_Md_isIn 30 = .ok (.iconst 1, 1) := by decide +kernel
theorem d_Md_isIn_31 : decode b_Md_isIn 31 = .ok (.goto 4, 3) := by decide +kernel
theorem d_Md_isIn_34 : decode b_Md_isIn 34 = .ok (.iconst 0, 1) := by decide +kernel
theorem d_Md_isIn_35 : decode b_Md_isIn 35 = .ok (.ireturn, 1) := by decide +kernel
theorem d_Md_isOn_0 : decode b_Md_isOn 0 = .ok (.iload_n 1, 1) := by decide +kernel
theorem d_Md_isOn_1 : decode b_Md_isOn 1 = .ok (.aload_n 0, 1) := by decide +kernel
theorem d_Md_isOn_2 : decode b_Md_isOn 2 = .ok (.getfield 7, 3) := by decide +kernel
theorem d_Md_isOn_5 : decode b_Md_isOn 5 = .ok (.iload_n 3, 1) := by decide +kernel
theorem d_Md_isOn_6 : decode b_Md_isOn 6 = .ok (.iaload, 1) := by decide +kernel
theorem d_Md_isOn_7 : decode b_Md_isOn 7 = .ok (.aload_n 0, 1) := by decide +kernel
theorem d_Md_isOn_8 : decode b_Md_isOn 8 = .ok (.getfield 7, 3) := by decide +kernel
theorem d_Md_isOn_11 : decode b_Md_isOn 11 = .ok (.iload 4, 2) := by decide +kernel
theorem d_Md_isOn_13 : decode b_Md_isOn 13 = .ok (.iaload, 1) := by decide +kernel
theorem d_Md_isOn_14 : decode b_Md_isOn 14 = .ok (.if_icmp .ge 12, 3) := by decide +kernel
theorem d_Md_isOn_17 : decode b_Md_isOn 17 = .ok (.aload_n 0, 1) := by decide +kernel
theorem d_Md_isOn_18 : decode b_Md_isOn 18 = .ok (.getfield 7, 3) := by decide +kernel
theorem d_Md_isOn_21 : decode b_Md_isOn 21 = .ok (.iload_n 3, 1) := by decide +kernel
theorem d_Md_isOn_22 : decode b_Md_isOn 22 = .ok (.iaload, 1) := by decide +kernel
theorem d_Md_isOn_23 : decode b_Md_isOn 23 = .ok (.goto 10, 3) := by decide +kernel
theorem d_Md_isOn_26 : decode b_Md_isOn 26 = .ok (.aload_n 0, 1) := by decide +kernel
theorem d_Md_isOn_27 : decode b_Md_isOn 27 = .ok (.getfield 7, 3) := by decide +kernel
theorem d_Md_isOn_30 : decode b_Md_isOn 30 = .ok (.iload 4, 2) := by decide +kernel
theorem d_Md_isOn_32 : decode b_Md_isOn 32 = .ok (.iaload, 1) := by decide +kernel
theorem d_Md_isOn_33 : decode b_Md_isOn 33 = .ok (.aload_n 0, 1) := by decide +kernel
theorem d_Md_isOn_34 : decode b_Md_isOn 34 = .ok (.getfield 7, 3) := by decide +kernel
theorem d_Md_isOn_37 : decode b_Md_isOn 37 = .ok (.iload_n 3, 1) := by decide +kernel
theorem d_Md_isOn_38 : decode b_Md_isOn 38 = .ok (.iaload, 1) := by decide +kernel
theorem d_Md_isOn_39 : decode b_Md_isOn 39 = .ok (.aload_n 0, 1) := by decide +kernel
theorem d_Md_isOn_40 : decode b_Md_isOn 40 = .ok (.getfield 7, 3) := by decide +kernel
theorem d_Md_isOn_43 : decode b_Md_isOn 43 = .ok (.iload 4, 2) := by decide +kernel
theorem d_Md_isOn_45 : decode b_Md_isOn 45 = .ok (.iaload, 1) := by decide +kernel
theorem d_Md_isOn_46 : decode b_Md_isOn 46 = .ok (.if_icmp .ge 13, 3) := by decide +kernel
theorem d_Md_isOn_49 : decode b_Md_isOn 49 = .ok (.aload_n 0, 1) := by decide +kernel
theorem d_Md_isOn_50 : decode b_Md_isOn 50 = .ok (.getfield 7, 3) := by decide +kernel
theorem d_Md_isOn_53 : decode b_Md_isOn 53 = .ok (.iload 4, 2) := by decide +kernel
theorem d_Md_isOn_55 : decode b_Md_isOn 55 = .ok (.iaload, 1) := by decide +kernel
theorem d_Md_isOn_56 : decode b_Md_isOn 56 = .ok (.goto 9, 3) := by decide +kernel
theorem d_Md_isOn_59 : decode b_Md_isOn 59 = .ok (.aload_n 0, 1) := by decide +kernel
theorem d_Md_isOn_60 : decode b_Md_isOn 60 = .ok (.getfield 7, 3) := by decide +kernel
theorem d_Md_isOn_63 : decode b_Md_isOn 63 = .ok (.iload_n 3, 1) := by decide +kernel
theorem d_Md_isOn_64 : decode b_Md_isOn 64 = .ok (.iaload, 1) := by decide +kernel
theorem d_Md_isOn_65 : decode b_Md_isOn 65 = .ok (.invokestatic 52, 3) := by decide +kernel
theorem d_Md_isOn_68 : decode b_Md_isOn 68 = .ok (.istore 5, 2) := by decide +kernel
theorem d_Md_isOn_70 : decode b_Md_isOn 70 = .ok (.iload_n 2, 1) := by decide +kernel
theorem d_Md_isOn_71 : decode b_Md_isOn 71 = .ok (.aload_n 0, 1) := by decide +kernel
theorem d_Md_isOn_72 : decode b_Md_isOn 72 = .ok (.getfield 13, 3) := by decide +kernel
theorem d_Md_isOn_75 : decode b_Md_isOn 75 = .ok (.iload_n 3, 1) := by decide +kernel
theorem d_Md_isOn_76 : decode b_Md_isOn 76 = .ok (.iaload, 1) := by decide +kernel
theorem d_Md_isOn_77 : decode b_Md_isOn 77 = .ok (.aload_n 0, 1) := by decide +kernel
theorem d_Md_isOn_78 : decode b_Md_isOn 78 = .ok (.getfield 13, 3) := by decide +kernel
theorem d_Md_isOn_81 : decode b_Md_isOn 81 = .ok (.iload 4, 2) := by decide +kernel
theorem d_Md_isOn_83 : decode b_Md_isOn 83 = .ok (.iaload, 1) := by decide +kernel
theorem d_Md_isOn_84 : decode b_Md_isOn 84 = .ok (.if_icmp .ge 12, 3) := by decide +kernel
theorem d_Md_isOn_87 : decode b_Md_isOn 87 = .ok (.aload_n 0, 1) := by decide +kernel
theorem d_Md_isOn_88 : decode b_Md_isOn 88 = .ok (.getfield 13, 3) := by decide +kernel
theorem d_Md_isOn_91 : decode b_Md_isOn 91 = .ok (.iload_n 3, 1) := by decide +kernel
theorem d_Md_isOn_92 : decode b_Md_isOn 92 = .ok (.iaload, 1) := by decide +kernel
theorem d_Md_isOn_93 : decode b_Md_isOn 93 = .ok (.goto 10, 3) := by decide +kernel
theorem d_Md_isOn_96 : decode b_Md_isOn 96 = .ok (.aload_n 0, 1) := by decide +kernel
theorem d_Md_isOn_97 : decode b_Md_isOn 97 = .ok (.getfield 13, 3) := by decide +kernel
theorem d_Md_isOn_100 : decode b_Md_isOn 100 = .ok (.iload 4, 2) := by decide +kernel
theorem d_Md_isOn_102 : decode b_Md_isOn 102 = .ok (.iaload, 1) := by decide +kernel
theorem d_Md_isOn_103 : decode b_Md_isOn 103 = .ok (.aload_n 0, 1) := by decide +kernel
theorem d_Md_isOn_104 : decode b_Md_isOn 104 = .ok (.getfield 13, 3) := by decide +kernel
theorem d_Md_isOn_107 : decode b_Md_isOn 107 = .ok (.iload_n 3, 1) := by decide +kernel
theorem d_Md_isOn_108 : decode b_Md_isOn 108 = .ok (.iaload, 1) := by decide +kernel
theorem d_Md_isOn_109 : decode b_Md_isOn 109 = .ok (.aload_n 0, 1) := by decide +kernel
theorem d_Md_isOn_110 : decode b_Md_isOn 110 = .ok (.getfield 13, 3) := by decide +kernel
theorem d_Md_isOn_113 : decode b_Md_isOn 113 = .ok (.iload 4, 2) := by decide +kernel
theorem d_Md_isOn_115 : decode b_Md_isOn 115 = .ok (.iaload, 1) := by decide +kernel
theorem d_Md_isOn_116 : decode b_Md_isOn 116 = .ok (.if_icmp .ge 13, 3) := by decide +kernel
theorem d_Md_isOn_119 : decode b_Md_isOn 119 = .ok (.aload_n 0, 1) := by decide +kernel
theorem d_Md_isOn_120 : decode b_Md_isOn 120 = .ok (.getfield 13, 3) := by decide +kernel
theorem d_Md_isOn_123 : decode b_Md_isOn 123 = .ok (.iload 4, 2) := by decide +kernel
theorem d_Md_isOn_125 : decode b_Md_isOn 125 = .ok (.iaload, 1) := by decide +kernel
theorem d_Md_isOn_126 : decode b_Md_isOn 126 = .ok (.goto 9, 3) := by decide +kernel
theorem d_Md_isOn_129 : decode b_Md_isOn 129 = .ok (.aload_n 0, 1) := by decide +kernel
theorem d_Md_isOn_130 : decode b_Md_isOn 130 = .ok (.getfield 13, 3) := by decide +kernel
theorem d_Md_isOn_133 : decode b_Md_isOn 133 = .ok (.iload_n 3, 1) := by decide +kernel
theorem d_Md_isOn_134 : decode b_Md_isOn 134 = .ok (.iaload, 1) := by decide +kernel
theorem d_Md_isOn_135 : decode b_Md_isOn 135 = .ok (.invokestatic 52, 3) := by decide +kernel
theorem d_Md_isOn_138 : decode b_Md_isOn 138 = .ok (.istore 6, 2) := by decide +kernel
theorem d_Md_isOn_140 : decode b_Md_isOn 140 = .ok (.iload 5, 2) := by decide +kernel
theorem d_Md_isOn_142 : decode b_Md_isOn 142 = .ok (.ifCond .eq 24, 3) := by decide +kernel
theorem d_Md_isOn_145 : decode b_Md_isOn 145 = .ok (.iload 6, 2) := by decide +kernel
theorem d_Md_isOn_147 : decode b_Md_isOn 147 = .ok (.ifCond .eq 19, 3) := by decide +kernel
theorem d_Md_isOn_150 : decode b_Md_isOn 150 = .ok (.aload_n 0, 1) := by decide +kernel
theorem d_Md_isOn_151 : decode b_Md_isOn 151 = .ok (.iload_n 3, 1) := by decide +kernel
theorem d_Md_isOn_152 : decode b_Md_isOn 152 = .ok (.iload 4, 2) := by decide +kernel
theorem d_Md_isOn_154 : decode b_Md_isOn 154 = .ok (.iload_n 1, 1) := by decide +kernel
theorem d_Md_isOn_155 : decode b_Md_isOn 155 = .ok (.iload_n 2, 1) := by decide +kernel
theorem d_Md_isOn_156 : decode b_Md_isOn 156 = .ok (.invokevirtual 64, 3) := by decide +kernel
theorem d_Md_isOn_159 : decode b_Md_isOn 159 = .ok (.ifCond .ne 7, 3) := by decide +kernel
theorem d_Md_isOn_162 : decode b_Md_isOn 162 = .ok (.iconst 1, 1) := by decide +kernel
theorem d_Md_isOn_163 : decode b_Md_isOn 163 = .ok (.goto 4, 3) := by decide +kernel
theorem d_Md_isOn_166 : decode b_Md_isOn 166 = .ok (.iconst 0, 1) := by decide +kernel
theorem d_Md_isOn_167 : decode b_Md_isOn 167 = .ok (.ireturn, 1) := by decide +kernel
theorem d_Md_areNeighbours_0 : decode b_Md_areNeighbours 0 = .ok (.iload_n 1, 1) := by decide +kernel
theorem d_Md_areNeighbours_1 : decode b_Md_areNeighbours 1 = .ok (.iload_n 2, 1) := by decide +kernel
theorem d_Md_areNeighbours_2 : decode b_Md_areNeighbours 2 = .ok (.if_icmp .ne 5, 3) := by decide +kernel
theorem d_Md_areNeighbours_5 : decode b_Md_areNeighbours 5 = .ok (.iconst 0, 1) := by decide +kernel
theorem d_Md_areNeighbours_6 : decode b_Md_areNeighbours 6 = .ok (.ireturn, 1) := by decide +kernel
theorem d_Md_areNeighbours_7 : decode b_Md_areNeighbours 7 = .ok (.aload_n 0, 1) := by decide +kernel
theorem d_Md_areNeighbours_8 : decode b_Md_areNeighbours 8 = .ok (.getfield 153, 3) := by decide +kernel
theorem d_Md_areNeighbours_11 : decode b_Md_areNeighbours 11 = .ok (.ifCond .ne 7, 3) := by decide +kernel
theorem d_Md_areNeighbours_14 : decode b_Md_areNeighbours 14 = .ok (.iconst 1, 1) := by decide +kernel
theorem d_Md_areNeighbours_15 : decode b_Md_areNeighbours 15 = .ok (.goto 4, 3) := by decide +kernel
theorem d_Md_areNeighbours_18 : decode b_Md_areNeighbours 18 = .ok (.iconst 0, 1) := by decide +kernel
theorem d_Md_areNeighbours_19 : decode b_Md_areNeighbours 19 = .ok (.istore_n 3, 1) := by decide +kernel
theorem d_Md_areNeighbours_20 : decode b_Md_areNeighbours 20 = .ok (.iconst 0, 1) := by decide +kernel
theorem d_Md_areNeighbours_21 : decode b_Md_areNeighbours 21 = .ok (.istore 4, 2) := by decide +kernel
theorem d_Md_areNeighbours_23 : decode b_Md_areNeighbours 23 = .ok (.iload 4, 2) := by decide +kernel
theorem d_Md_areNeighbours_25 : decode b_Md_areNeighbours 25 = .ok (.aload_n 0, 1) := by decide +kernel
theorem d_Md_areNeighbours_26 : decode b_Md_areNeighbours 26 = .ok (.getfield 98, 3) := by decide +kernel
theorem d_Md_areNeighbours_29 : decode b_Md_areNeighbours 29 = .ok (.if_icmp .ge 61, 3) := by decide +kernel
theorem d_Md_areNeighbours_32 : decode b_Md_areNeighbours 32 = .ok (.aload_n 0, 1) := by decide +kernel
theorem d_Md_areNeighbours_33 : decode b_Md_areNeighbours 33 = .ok (.getfield 153, 3) := by decide +kernel
theorem d_Md_areNeighbours_36 : decode b_Md_areNeighbours 36 = .ok (.ifCond .ne 54, 3) := by decide +kernel
theorem d_Md_areNeighbours_39 : decode b_Md_areNeighbours 39 = .ok (.iload_n 3, 1) := by decide +kernel
theorem d_Md_areNeighbours_40 : decode b_Md_areNeighbours 40 = .ok (.ifCond .eq 42, 3) := by decide +kernel
theorem d_Md_areNeighbours_43 : decode b_Md_areNeighbours 43 = .ok (.iload 4, 2) := by decide +kernel
theorem d_Md_areNeighbours_45 : decode b_Md_areNeighbours 45 = .ok (.iload_n 1, 1) := by decide +kernel
theorem d_Md_areNeighbours_46 : decode b_Md_areNeighbours 46 = .ok (.if_icmp .eq 32, 3) := by decide +kernel
theorem d_Md_areNeighbours_49 : decode b_Md_areNeighbours 49 = .ok (.iload 4, 2) := by decide +kernel
theorem d_Md_areNeighbours_51 : decode b_Md_areNeighbours 51 = .ok (.iload_n 2, 1) := by decide +kernel
theorem d_Md_areNeighbours_52 : decode b_Md_areNeighbours 52 = .ok (.if_icmp .eq 26, 3) := by decide +kernel
theorem d_Md_areNeighbours_55 : decode b_Md_areNeighbours 55 = .ok (.aload_n 0, 1) := by decide +kernel
theorem d_Md_areNeighbours_56 : decode b_Md_areNeighbours 56 = .ok (.aload_n 0, 1) := by decide +kernel
theorem d_Md_areNeighbours_57 : decode b_Md_areNeighbours 57 = .ok (.getfield 7, 3) := by decide +kernel
theorem d_Md_areNeighbours_60 : decode b_Md_areNeighbours 60 = .ok (.iload 4, 2) := by decide +kernel
theorem d_Md_areNeighbours_62 : decode b_Md_areNeighbours 62 = .ok (.iaload, 1) := by decide +kernel
theorem d_Md_areNeighbours_63 : decode b_Md_areNeighbours 63 = .ok (.aload_n 0, 1) := by decide +kernel
theorem d_Md_areNeighbours_64 : decode b_Md_areNeighbours 64 = .ok (.getfield 13, 3) := by decide +kernel
theorem d_Md_areNeighbours_67 : decode b_Md_areNeighbours 67 = .ok (.iload 4, 2) := by decide +kernel
theorem d_Md_areNeighbours_69 : decode b_Md_areNeighbours 69 = .ok (.iaload, 1) := by decide +kernel
theorem d_Md_areNeighbours_70 : decode b_Md_areNeighbours 70 = .ok (.iload_n 1, 1) := by decide +kernel
theorem d_Md_areNeighbours_71 : decode b_Md_areNeighbours 71 = .ok (.iload_n 2, 1) := by decide +kernel
theorem d_Md_areNeighbours_72 : decode b_Md_areNeighbours 72 = .ok (.invokevirtual 189, 3) := by decide +kernel
theorem d_Md_areNeighbours_75 : decode b_Md_areNeighbours 75 = .ok (.ifCond .ne 7, 3) := by decide +kernel
theorem d_Md_areNeighbours_78 : decode b_Md_areNeighbours 78 = .ok (.iconst 1, 1) := by decide +kernel
theorem d_Md_areNeighbours_79 : decode b_Md_areNeighbours 79 = .ok (.goto 4, 3) := by decide +kernel
theorem d_Md_areNeighbours_82 : decode b_Md_areNeighbours 82 = .ok (.iconst 0, 1) := by decide +kernel
theorem d_Md_areNeighbours_83 : decode b_Md_areNeighbours 83 = .ok (.istore_n 3, 1) := by decide +kernel
theorem d_Md_areNeighbours_84 : decode b_Md_areNeighbours 84 = .ok (.iinc 4 1, 3) := by decide +kernel
theorem d_Md_areNeighbours_87 : decode b_Md_areNeighbours 87 = .ok (.goto (-64), 3) := by decide +kernel
theorem d_Md_areNeighbours_90 : decode b_Md_areNeighbours 90 = .ok (.iconst 0, 1) := by decide +kernel
theorem d_Md_areNeighbours_91 : decode b_Md_areNeighbours 91 = .ok (.istore 4, 2) := by decide +kernel
theorem d_Md_areNeighbours_93 : decode b_Md_areNeighbours 93 = .ok (.iload 4, 2) := by decide +kernel
theorem d_Md_areNeighbours_95 : decode b_Md_areNeighbours 95 = .ok (.aload_n 0, 1) := by decide +kernel
theorem d_Md_areNeighbours_96 : decode b_Md_areNeighbours 96 = .ok (.getfield 153, 3) := by decide +kernel
theorem d_Md_areNeighbours_99 : decode b_Md_areNeighbours 99 = .ok (.if_icmp .ge 39, 3) := by decide +kernel
theorem d_Md_areNeighbours_102 : decode b_Md_areNeighbours 102 = .ok (.iload_n 3, 1) := by decide +kernel
theorem d_Md_areNeighbours_103 : decode b_Md_areNeighbours 103 = .ok (.ifCond .ne 35, 3) := by decide +kernel
theorem d_Md_areNeighbours_106 : decode b_Md_areNeighbours 106 = .ok (.aload_n 0, 1) := by decide +kernel
theorem d_Md_areNeighbours_107 : decode b_Md_areNeighbours 107 = .ok (.iload 4, 2) := by decide +kernel
theorem d_Md_areNeighbours_109 : decode b_Md_areNeighbours 109 = .ok (.iload_n 1, 1) := by decide +kernel
theorem d_Md_areNeighbours_110 : decode b_Md_areNeighbours 110 = .ok (.invokevirtual 193, 3) := by decide +kernel
theorem d_Md_areNeighbours_113 : decode b_Md_areNeighbours 113 = .ok (.ifCond .eq 17, 3) := by decide +kernel
theorem d_Md_areNeighbours_116 : decode b_Md_areNeighbours 116 = .ok (.aload_n 0, 1) := by decide +kernel
theorem d_Md_areNeighbours_117 : decode b_Md_areNeighbours 117 = .ok (.iload 4, 2) := by decide +kernel
theorem d_Md_areNeighbours_119 : decode b_Md_areNeighbours 119 = .ok (.iload_n 2, 1) := by decide +kernel
theorem d_Md_areNeighbours_120 : decode b_Md_areNeighbours 120 = .ok (.invokevirtual 193, 3) := by decide +kernel
theorem d_Md_areNeighbours_123 : decode b_Md_areNeighbours 123 = .ok (.ifCond .eq 7, 3) := by decide +kernel
theorem d_Md_areNeighbours_126 : decode b_Md_areNeighbours 126 = .ok (.iconst 1, 1) := by decide +kernel
theorem d_Md_areNeighbours_127 : decode b_Md_areNeighbours 127 = .ok (.goto 4, 3) := by decide +kernel
theorem d_Md_areNeighbours_130 : decode b_Md_areNeighbours 130 = .ok (.iconst 0, 1) := by decide +kernel
theorem d_Md_areNeighbours_131 : decode b_Md_areNeighbours 131 = .ok (.istore_n 3, 1) := by decide +kernel
theorem d_Md_areNeighbours_132 : decode b_Md_areNeighbours 132 = .ok (.iinc 4 1, 3) := by decide +kernel
theorem d_Md_areNeighbours_135 : decode b_Md_areNeighbours 135 = .ok (.goto (-42), 3) := by decide +kernel
theorem d_Md_areNeighbours_138 : decode b_Md_areNeighbours 138 = .ok (.iload_n 3, 1) := by decide +kernel
theorem d_Md_areNeighbours_139 : decode b_Md_areNeighbours 139 = .ok (.ireturn, 1) := by decide +kernel
theorem d_Md_isSooner_0 : decode b_Md_isSooner 0 = .ok (.aload_n 0, 1) := by decide +kernel
theorem d_Md_isSooner_1 : decode b_Md_isSooner 1 = .ok (.getfield 7, 3) := by decide +kernel
theorem d_Md_isSooner_4 : decode b_Md_isSooner 4 = .ok (.iload_n 2, 1) := by decide +kernel
theorem d_Md_isSooner_5 : decode b_Md_isSooner 5 = .ok (.iaload, 1) := by decide +kernel
theorem d_Md_isSooner_6 : decode b_Md_isSooner 6 = .ok (.i2l, 1) := by decide +kernel
theorem d_Md_isSooner_7 : decode b_Md_isSooner 7 = .ok (.aload_n 0, 1) := by decide +kernel
theorem d_Md_isSooner_8 : decode b_Md_isSooner 8 = .ok (.getfield 7, 3) := by decide +kernel
theorem d_Md_isSooner_11 : decode b_Md_isSooner 11 = .ok (.iload_n 1, 1) := by decide +kernel
theorem d_Md_isSooner_12 : decode b_Md_isSooner 12 = .ok (.iaload, 1) := by decide +kernel
theorem d_Md_isSooner_13 : decode b_Md_isSooner 13 = .ok (.i2l, 1) := by decide +kernel
theorem d_Md_isSooner_14 : decode b_Md_isSooner 14 = .ok (.lsub, 1) := by decide +kernel
theorem d_Md_isSooner_15 : decode b_Md_isSooner 15 = .ok (.lstore 5, 2) := by decide +kernel
theorem d_Md_isSooner_17 : decode b_Md_isSooner 17 = .ok (.aload_n 0, 1) := by decide +kernel
theorem d_Md_isSooner_18 : decode b_Md_isSooner 18 = .ok (.getfield 13, 3) := by decide +kernel
theorem d_Md_isSooner_21 : decode b_Md_isSooner 21 = .ok (.iload_n 2, 1) := by decide +kernel
theorem d_Md_isSooner_22 : decode b_Md_isSooner 22 = .ok (.iaload, 1) := by decide +kernel
theorem d_Md_isSooner_23 : decode b_Md_isSooner 23 = .ok (.i2l, 1) := by decide +kernel
theorem d_Md_isSooner_24 : decode b_Md_isSooner 24 = .ok (.aload_n 0, 1) := by decide +kernel
theorem d_Md_isSooner_25 : decode b_Md_isSooner 25 = .ok (.getfield 13, 3) := by decide +kernel
theorem d_Md_isSooner_28 : decode b_Md_isSooner 28 = .ok (.iload_n 1, 1) := by decide +kernel
theorem d_Md_isSooner_29 : decode b_Md_isSooner 29 = .ok (.iaload, 1) := by decide +kernel
theorem d_Md_isSooner_30 : decode b_Md_isSooner 30 = .ok (.i2l, 1) := by decide +kernel
theorem d_Md_isSooner_31 : decode b_Md_isSooner 31 = .ok (.lsub, 1) := by decide +kernel
theorem d_Md_isSooner_32 : decode b_Md_isSooner 32 = .ok (.lstore 7, 2) := by decide +kernel
theorem d_Md_isSooner_34 : decode b_Md_isSooner 34 = .ok (.aload_n 0, 1) := by decide +kernel
theorem d_Md_isSooner_35 : decode b_Md_isSooner 35 = .ok (.getfield 7, 3) := by decide +kernel
theorem d_Md_isSooner_38 : decode b_Md_isSooner 38 = .ok (.iload_n 3, 1) := by decide +kernel
theorem d_Md_isSooner_39 : decode b_Md_isSooner 39 = .ok (.iaload, 1) := by decide +kernel
theorem d_Md_isSooner_40 : decode b_Md_isSooner 40 = .ok (.i2l, 1) := by decide +kernel
theorem d_Md_isSooner_41 : decode b_Md_isSooner 41 = .ok (.aload_n 0, 1) := by decide +kernel
theorem d_Md_isSooner_42 : decode b_Md_isSooner 42 = .ok (.getfield 7, 3) := by decide +kernel
theorem d_Md_isSooner_45 : decode b_Md_isSooner 45 = .ok (.iload_n 1, 1) := by decide +kernel
theorem d_Md_isSooner_46 : decode b_Md_isSooner 46 = .ok (.iaload, 1) := by decide +kernel
theorem d_Md_isSooner_47 : decode b_Md_isSooner 47 = .ok (.i2l, 1) := by decide +kernel
theorem d_Md_isSooner_48 : decode b_Md_isSooner 48 = .ok (.lsub, 1) := by decide +kernel
theorem d_Md_isSooner_49 : decode b_Md_isSooner 49 = .ok (.lstore 9, 2) := by decide +kernel
theorem d_Md_isSooner_51 : decode b_Md_isSooner 51 = .ok (.aload_n 0, 1) := by decide +kernel
theorem d_Md_isSooner_52 : decode b_Md_isSooner 52 = .ok (.getfield 13, 3) := by decide +kernel
theorem d_Md_isSooner_55 : decode b_Md_isSooner 55 = .ok (.iload_n 3, 1) := by decide +kernel
theorem d_Md_isSooner_56 : decode b_Md_isSooner 56 = .ok (.iaload, 1) := by decide +kernel
theorem d_Md_isSooner_57 : decode b_Md_isSooner 57 = .ok (.i2l, 1) := by decide +kernel
theorem d_Md_isSooner_58 : decode b_Md_isSooner 58 = .ok (.aload_n 0, 1) := by decide +kernel
theorem d_Md_isSooner_59 : decode b_Md_isSooner 59 = .ok (.getfield 13, 3) := by decide +kernel
theorem d_Md_isSooner_62 : decode b_Md_isSooner 62 = .ok (.iload_n 1, 1) := by decide +kernel
theorem d_Md_isSooner_63 : decode b_Md_isSooner 63 = .ok (.iaload, 1) := by decide +kernel
theorem d_Md_isSooner_64 : decode b_Md_isSooner 64 = .ok (.i2l, 1) := by decide +kernel
theorem d_Md_isSooner_65 : decode b_Md_isSooner 65 = .ok (.lsub, 1) := by decide +kernel
theorem d_Md_isSooner_66 : decode b_Md_isSooner 66 = .ok (.lstore 11, 2) := by decide +kernel
theorem d_Md_isSooner_68 : decode b_Md_isSooner 68 = .ok (.aload_n 0, 1) := by decide +kernel
theorem d_Md_isSooner_69 : decode b_Md_isSooner 69 = .ok (.getfield 7, 3) := by decide +kernel
theorem d_Md_isSooner_72 : decode b_Md_isSooner 72 = .ok (.iload 4, 2) := by decide +kernel
theorem d_Md_isSooner_74 : decode b_Md_isSooner 74 = .ok (.iaload, 1) := by decide +kernel
theorem d_Md_isSooner_75 : decode b_Md_isSooner 75 = .ok (.i2l, 1) := by decide +kernel
theorem d_Md_isSooner_76 : decode b_Md_isSooner 76 = .ok (.aload_n 0, 1) := by decide +kernel
theorem d_Md_isSooner_77 : decode b_Md_isSooner 77 = .ok (.getfield 7, 3) := by decide +kernel
theorem d_Md_isSooner_80 : decode b_Md_isSooner 80 = .ok (.iload_n 1, 1) := by decide +kernel
theorem d_Md_isSooner_81 : decode b_Md_isSooner 81 = .ok (.iaload, 1) := by decide +kernel
theorem d_Md_isSooner_82 : decode b_Md_isSooner 82 = .ok (.i2l, 1) := by decide +kernel
theorem d_Md_isSooner_83 : decode b_Md_isSooner 83 = .ok (.lsub, 1) := by decide +kernel
theorem d_Md_isSooner_84 : decode b_Md_isSooner 84 = .ok (.lstore 13, 2) := by decide +kernel
theorem d_Md_isSooner_86 : decode b_Md_isSooner 86 = .ok (.aload_n 0, 1) := by decide +kernel
theorem d_Md_isSooner_87 : decode b_Md_isSooner 87 = .ok (.getfield 13, 3) := by decide +kernel
theorem d_Md_isSooner_90 : decode b_Md_isSooner 90 = .ok (.iload 4, 2) := by decide +kernel
theorem d_Md_isSooner_92 : decode b_Md_isSooner 92 = .ok (.iaload, 1) := by decide +kernel
theorem d_Md_isSooner_93 : decode b_Md_isSooner 93 = .ok (.i2l, 1) := by decide +kernel
theorem d_Md_isSooner_94 : decode b_Md_isSooner 94 = .ok (.aload_n 0, 1) := by decide +kernel
theorem d_Md_isSooner_95 : decode b_Md_isSooner 95 = .ok (.getfield 13, 3) := by decide +kernel
theorem d_Md_isSooner_98 : decode b_Md_isSooner 98 = .ok (.iload_n 1, 1) := by decide +kernel
theorem d_Md_isSooner_99 : decode b_Md_isSooner 99 = .ok (.iaload, 1) := by decide +kernel
theorem d_Md_isSooner_100 : decode b_Md_isSooner 100 = .ok (.i2l, 1) := by decide +kernel
theorem d_Md_isSooner_101 : decode b_Md_isSooner 101 = .ok (.lsub, 1) := by decide +kernel
theorem d_Md_isSooner_102 : decode b_Md_isSooner 102 = .ok (.lstore 15, 2) := by decide +kernel
theorem d_Md_isSooner_104 : decode b_Md_isSooner 104 = .ok (.lload 5, 2) := by decide +kernel
theorem d_Md_isSooner_106 : decode b_Md_isSooner 106 = .ok (.lload 7, 2) := by decide +kernel
theorem d_Md_isSooner_108 : decode b_Md_isSooner 108 = .ok (.lload 9, 2) := by decide +kernel
theorem d_Md_isSooner_110 : decode b_Md_isSooner 110 = .ok (.lload 11, 2) := by decide +kernel
theorem d_Md_isSooner_112 : decode b_Md_isSooner 112 = .ok (.invokestatic 56, 3) := by decide +kernel
theorem d_Md_isSooner_115 : decode b_Md_isSooner 115 = .ok (.invokestatic 60, 3) := by decide +kernel
theorem d_Md_isSooner_118 : decode b_Md_isSooner 118 = .ok (.istore 17, 2) := by decide +kernel
theorem d_Md_isSooner_120 : decode b_Md_isSooner 120 = .ok (.lload 5, 2) := by decide +kernel
theorem d_Md_isSooner_122 : decode b_Md_isSooner 122 = .ok (.lload 7, 2) := by decide +kernel
theorem d_Md_isSooner_124 : decode b_Md_isSooner 124 = .ok (.lload 13, 2) := by decide +kernel
theorem d_Md_isSooner_126 : decode b_Md_isSooner 126 = .ok (.lload 15, 2) := by decide +kernel
theorem d_Md_isSooner_128 : decode b_Md_isSooner 128 = .ok (.invokestatic 56, 3) := by decide +kernel
theorem d_Md_isSooner_131 : decode b_Md_isSooner 131 = .ok (.invokestatic 60, 3) := by decide +kernel
theorem d_Md_isSooner_134 : decode b_Md_isSooner 134 = .ok (.istore 18, 2) := by decide +kernel
theorem d_Md_isSooner_136 : decode b_Md_isSooner 136 = .ok (.iload 17, 2) := by decide +kernel
theorem d_Md_isSooner_138 : decode b_Md_isSooner 138 = .ok (.iload 18, 2) := by decide +kernel
theorem d_Md_isSooner_140 : decode b_Md_isSooner 140 = .ok (.if_icmp .eq 18, 3) := by decide +kernel
theorem d_Md_isSooner_143 : decode b_Md_isSooner 143 = .ok (.iload 17, 2) := by decide +kernel
theorem d_Md_isSooner_145 : decode b_Md_isSooner 145 = .ok (.iload 18, 2) := by decide +kernel
theorem d_Md_isSooner_147 : decode b_Md_isSooner 147 = .ok (.if_icmp .le 7, 3) := by decide +kernel
theorem d_Md_isSooner_150 : decode b_Md_isSooner 150 = .ok (.iconst 1, 1) := by decide +kernel
theorem d_Md_isSooner_151 : decode b_Md_isSooner 151 = .ok (.goto 28, 3) := by decide +kernel
theorem d_Md_isSooner_154 : decode b_Md_isSooner 154 = .ok (.iconst 0, 1) := by decide +kernel
theorem d_Md_isSooner_155 : decode b_Md_isSooner 155 = .ok (.goto 24, 3) := by decide +kernel
theorem d_Md_isSooner_158 : decode b_Md_isSooner 158 = .ok (.lload 9, 2) := by decide +kernel
theorem d_Md_isSooner_160 : decode b_Md_isSooner 160 = .ok (.lload 11, 2) := by decide +kernel
theorem d_Md_isSooner_162 : decode b_Md_isSooner 162 = .ok (.lload 13, 2) := by decide +kernel
theorem d_Md_isSooner_164 : decode b_Md_isSooner 164 = .ok (.lload 15, 2) := by decide +kernel
theorem d_Md_isSooner_166 : decode b_Md_isSooner 166 = .ok (.invokestatic 56, 3) := by decide +kernel
theorem d_Md_isSooner_169 : decode b_Md_isSooner 169 = .ok (.lconst 0, 1) := by decide +kernel
theorem d_Md_isSooner_170 : decode b_Md_isSooner 170 = .ok (.lcmp, 1) := by decide +kernel
theorem d_Md_isSooner_171 : decode b_Md_isSooner 171 = .ok (.ifCond .le 7, 3) := by decide +kernel
theorem d_Md_isSooner_174 : decode b_Md_isSooner 174 = .ok (.iconst 1, 1) := by decide +kernel
theorem d_Md_isSooner_175 : decode b_Md_isSooner 175 = .ok (.goto 4, 3) := by decide +kernel
theorem d_Md_isSooner_178 : decode b_Md_isSooner 178 = .ok (.iconst 0, 1) := by decide +kernel
theorem d_Md_isSooner_179 : decode b_Md_isSooner 179 = .ok (.ireturn, 1) := by decide +kernel
theorem d_Md_findNeighbours_0 : decode b_Md_findNeighbours 0 = .ok (.aload_n 0, 1) := by decide +kernel
theorem d_Md_findNeighbours_1 : decode b_Md_findNeighbours 1 = .ok (.invokevirtual 186, 3) := by decide +kernel
theorem d_Md_findNeighbours_4 : decode b_Md_findNeighbours 4 = .ok (.aload_n 0, 1) := by decide +kernel
theorem d_Md_findNeighbours_5 : decode b_Md_findNeighbours 5 = .ok (.iconst 0, 1) := by decide +kernel
theorem d_Md_findNeighbours_6 : decode b_Md_findNeighbours 6 = .ok (.putfield 196, 3) := by decide +kernel
theorem d_Md_findNeighbours_9 : decode b_Md_findNeighbours 9 = .ok (.iconst 0, 1) := by decide +kernel
theorem d_Md_findNeighbours_10 : decode b_Md_findNeighbours 10 = .ok (.istore_n 2, 1) := by decide +kernel
theorem d_Md_findNeighbours_11 : decode b_Md_findNeighbours 11 = .ok (.iload_n 2, 1) := by decide +kernel
theorem d_Md_findNeighbours_12 : decode b_Md_findNeighbours 12 = .ok (.aload_n 0, 1) := by decide +kernel
theorem d_Md_findNeighbours_13 : decode b_Md_findNeighbours 13 = .ok (.getfield 98, 3) := by decide +kernel
theorem d_Md_findNeighbours_16 : decode b_Md_findNeighbours 16 = .ok (.if_icmp .ge 38, 3) := by decide +kernel
theorem d_Md_findNeighbours_19 : decode b_Md_findNeighbours 19 = .ok (.aload_n 0, 1) := by decide +kernel
theorem d_Md_findNeighbours_20 : decode b_Md_findNeighbours 20 = .ok (.iload_n 1, 1) := by decide +kernel
theorem d_Md_findNeighbours_21 : decode b_Md_findNeighbours 21 = .ok (.iload_n 2, 1) := by decide +kernel
theorem d_Md_findNeighbours_22 : decode b_Md_findNeighbours 22 = .ok (.invokevirtual 199, 3) := by decide +kernel
theorem d_Md_findNeighbours_25 : decode b_Md_findNeighbours 25 = .ok (.ifCond .eq 23, 3) := by decide +kernel
theorem d_Md_findNeighbours_28 : decode b_Md_findNeighbours 28 = .ok (.aload_n 0, 1) := by decide +kernel
theorem d_Md_findNeighbours_29 : decode b_Md_findNeighbours 29 = .ok (.getfield 37, 3) := by decide +kernel
theorem d_Md_findNeighbours_32 : decode b_Md_findNeighbours 32 = .ok (.aload_n 0, 1) := by decide +kernel
theorem d_Md_findNeighbours_33 : decode b_Md_findNeighbours 33 = .ok (.getfield 196, 3) := by decide +kernel
theorem d_Md_findNeighbours_36 : decode b_Md_findNeighbours 36 = .ok (.iload_n 2, 1) := by decide +kernel
theorem d_Md_findNeighbours_37 : decode b_Md_findNeighbours 37 = .ok (.iastore, 1) := by decide +kernel
theorem d_Md_findNeighbours_38 : decode b_Md_findNeighbours 38 = .ok (.aload_n 0, 1) := by decide +kernel
theorem d_Md_findNeighbours_39 : decode b_Md_findNeighbours 39 = .ok (.dup, 1) := by decide +kernel
theorem d_Md_findNeighbours_40 : decode b_Md_findNeighbours 40 = .ok (.getfield 196, 3) := by decide +kernel
theorem d_Md_findNeighbours_43 : decode b_Md_findNeighbours 43 = .ok (.iconst 1, 1) := by decide +kernel
theorem d_Md_findNeighbours_44 : decode b_Md_findNeighbours 44 = .ok (.iadd, 1) := by decide +kernel
theorem d_Md_findNeighbours_45 : decode b_Md_findNeighbours 45 = .ok (.putfield 196, 3) := by decide +kernel
theorem d_Md_findNeighbours_48 : decode b_Md_findNeighbours 48 = .ok (.iinc 2 1, 3) := by decide +kernel
theorem d_Md_findNeighbours_51 : decode b_Md_findNeighbours 51 = .ok (.goto (-40), 3) := by decide +kernel
theorem d_Md_findNeighbours_54 : decode b_Md_findNeighbours 54 = .ok (.iconst 2, 1) := by decide +kernel
theorem d_Md_findNeighbours_55 : decode b_Md_findNeighbours 55 = .ok (.istore_n 2, 1) := by decide +kernel
theorem d_Md_findNeighbours_56 : decode b_Md_findNeighbours 56 = .ok (.iload_n 2, 1) := by decide +kernel
theorem d_Md_findNeighbours_57 : decode b_Md_findNeighbours 57 = .ok (.aload_n 0, 1) := by decide +kernel
theorem d_Md_findNeighbours_58 : decode b_Md_findNeighbours 58 = .ok (.getfield 196, 3) := by decide +kernel
theorem d_Md_findNeighbours_61 : decode b_Md_findNeighbours 61 = .ok (.if_icmp .ge 82, 3) := by decide +kernel
theorem d_Md_findNeighbours_64 : decode b_Md_findNeighbours 64 = .ok (.iload_n 2, 1) := by decide +kernel
theorem d_Md_findNeighbours_65 : decode b_Md_findNeighbours 65 = .ok (.istore_n 3, 1) := by decide +kernel
theorem d_Md_findNeighbours_66 : decode b_Md_findNeighbours 66 = .ok (.iload_n 3, 1) := by decide +kernel
theorem d_Md_findNeighbours_67 : decode b_Md_findNeighbours 67 = .ok (.iconst 1, 1) := by decide +kernel
theorem d_Md_findNeighbours_68 : decode b_Md_findNeighbours 68 = .ok (.if_icmp .le 69, 3) := by decide +kernel
theorem d_Md_findNeighbours_71 : decode b_Md_findNeighbours 71 = .ok (.aload_n 0, 1) := by decide +kernel
theorem d_Md_findNeighbours_72 : decode b_Md_findNeighbours 72 = .ok (.iload_n 1, 1) := by decide +kernel
theorem d_Md_findNeighbours_73 : decode b_Md_findNeighbours 73 = .ok (.aload_n 0, 1) := by decide +kernel
theorem d_Md_findNeighbours_74 : decode b_Md_findNeighbours 74 = .ok (.getfield 37, 3) := by decide +kernel
theorem d_Md_findNeighbours_77 : decode b_Md_findNeighbours 77 = .ok (.iconst 0, 1) := by decide +kernel
theorem d_Md_findNeighbours_78 : decode b_Md_findNeighbours 78 = .ok (.iaload, 1) := by decide +kernel
theorem d_Md_findNeighbours_79 : decode b_Md_findNeighbours 79 = .ok (.aload_n 0, 1) := by decide +kernel
theorem d_Md_findNeighbours_80 : decode b_Md_findNeighbours 80 = .ok (.getfield 37, 3) := by decide +kernel
theorem d_Md_findNeighbours_83 : decode b_Md_findNeighbours 83 = .ok (.iload_n 3, 1) := by decide +kernel
theorem d_Md_findNeighbours_84 : decode b_Md_findNeighbours 84 = .ok (.iaload, 1) := by decide +kernel
theorem d_Md_findNeighbours_85 : decode b_Md_findNeighbours 85 = .ok (.aload_n 0, 1) := by decide +kernel
theorem d_Md_findNeighbours_86 : decode b_Md_findNeighbours 86 = .ok (.getfield 37, 3) := by decide +kernel
theorem d_Md_findNeighbours_89 : decode b_Md_findNeighbours 89 = .ok (.iload_n 3, 1) := by decide +kernel
theorem d_Md_findNeighbours_90 : decode b_Md_findNeighbours 90 = .ok (.iconst 1, 1) := by decide +kernel
theorem d_Md_findNeighbours_91 : decode b_Md_findNeighbours 91 = .ok (.isub, 1) := by decide +kernel
theorem d_Md_findNeighbours_92 : decode b_Md_findNeighbours 92 = .ok (.iaload, 1) := by decide +kernel
theorem d_Md_findNeighbours_93 : decode b_Md_findNeighbours 93 = .ok (.invokevirtual 202, 3) := by decide +kernel
theorem d_Md_findNeighbours_96 : decode b_Md_findNeighbours 96 = .ok (.ifCond .eq 41, 3) := by decide +kernel
theorem d_Md_findNeighbours_99 : decode b_Md_findNeighbours 99 = .ok (.aload_n 0, 1) := by decide +kernel
theorem d_Md_findNeighbours_100 : decode b_Md_findNeighbours 100 = .ok (.getfield 37, 3) := by decide +kernel
theorem d_Md_findNeighbours_103 : decode b_Md_findNeighbours 103 = .ok (.iload_n 3, 1) := by decide +kernel
theorem d_Md_findNeighbours_104 : decode b_Md_findNeighbours 104 = .ok (.iaload, 1) := by decide +kernel
theorem d_Md_findNeighbours_105 : decode b_Md_findNeighbours 105 = .ok (.istore 4, 2) := by decide +kernel
theorem d_Md_findNeighbours_107 : decode b_Md_findNeighbours 107 = .ok (.aload_n 0, 1) := by decide +kernel
theorem d_Md_findNeighbours_108 : decode b_Md_findNeighbours 108 = .ok (.getfield 37, 3) := by decide +kernel
theorem d_Md_findNeighbours_111 : decode b_Md_findNeighbours 111 = .ok (.iload_n 3, 1) := by decide +kernel
theorem d_Md_findNeighbours_112 : decode b_Md_findNeighbours 112 = .ok (.aload_n 0, 1) := by decide +kernel
theorem d_Md_findNeighbours_113 : decode b_Md_findNeighbours 113 = .ok (.getfield 37, 3) := by decide +kernel
theorem d_Md_findNeighbours_116 : decode b_Md_findNeighbours 116 = .ok (.iload_n 3, 1) := by decide +kernel
theorem d_Md_findNeighbours_117 : decode b_Md_findNeighbours 117 = .ok (.iconst 1, 1) := by decide +kernel
theorem d_Md_findNeighbours_118 : decode b_Md_findNeighbours 118 = .ok (.isub, 1) := by decide +kernel
theorem d_Md_findNeighbours_119 : decode b_Md_findNeighbours 119 = .ok (.iaload, 1) := by decide +kernel
theorem d_Md_findNeighbours_120 : decode b_Md_findNeighbours 120 = .ok (.iastore, 1) := by decide +kernel
theorem d_Md_findNeighbours_121 : decode b_Md_findNeighbours 121 = .ok (.aload_n 0, 1) := by decide +kernel
theorem d_Md_findNeighbours_122 : decode b_Md_findNeighbours 122 = .ok (.getfield 37, 3) := by decide +kernel
theorem d_Md_findNeighbours_125 : decode b_Md_findNeighbours 125 = .ok (.iload_n 3, 1) := by decide +kernel
theorem d_Md_findNeighbours_126 : decode b_Md_findNeighbours 126 = .ok (.iconst 1, 1) := by decide +kernel
theorem d_Md_findNeighbours_127 : decode b_Md_findNeighbours 127 = .ok (.isub, 1) := by decide +kernel
theorem d_Md_findNeighbours_128 : decode b_Md_findNeighbours 128 = .ok (.iload 4, 2) := by decide +kernel
theorem d_Md_findNeighbours_130 : decode b_Md_findNeighbours 130 = .ok (.iastore, 1) := by decide +kernel
theorem d_Md_findNeighbours_131 : decode b_Md_findNeighbours 131 = .ok (.iinc 3 (-1), 3) := by decide +kernel
theorem d_Md_findNeighbours_134 : decode b_Md_findNeighbours 134 = .ok (.goto (-68), 3) := by decide +kernel
theorem d_Md_findNeighbours_137 : decode b_Md_findNeighbours 137 = .ok (.iinc 2 1, 3) := by decide +kernel
theorem d_Md_findNeighbours_140 : decode b_Md_findNeighbours 140 = .ok (.goto (-84), 3) := by decide +kernel
theorem d_Md_findNeighbours_143 : decode b_Md_findNeighbours 143 = .ok (.return_, 1) := by decide +kernel
theorem d_Md_neighbours_0 : decode b_Md_neighbours 0 = .ok (.aload_n 0, 1) := by decide +kernel
theorem d_Md_neighbours_1 : decode b_Md_neighbours 1 = .ok (.iconst 0, 1) := by decide +kernel
theorem d_Md_neighbours_2 : decode b_Md_neighbours 2 = .ok (.putfield 47, 3) := by decide +kernel
theorem d_Md_neighbours_5 : decode b_Md_neighbours 5 = .ok (.iload_n 1, 1) := by decide +kernel
theorem d_Md_neighbours_6 : decode b_Md_neighbours 6 = .ok (.iconst 0, 1) := by decide +kernel
theorem d_Md_neighbours_7 : decode b_Md_neighbours 7 = .ok (.aload_n 0, 1) := by decide +kernel
theorem d_Md_neighbours_8 : decode b_Md_neighbours 8 = .ok (.getfield 98, 3) := by decide +kernel
theorem d_Md_neighbours_11 : decode b_Md_neighbours 11 = .ok (.iconst 1, 1) := by decide +kernel
theorem d_Md_neighbours_12 : decode b_Md_neighbours 12 = .ok (.isub, 1) := by decide +kernel
theorem d_Md_neighbours_13 : decode b_Md_neighbours 13 = .ok (.invokestatic 52, 3) := by decide +kernel
theorem d_Md_neighbours_16 : decode b_Md_neighbours 16 = .ok (.ifCond .ne 9, 3) := by decide +kernel
theorem d_Md_neighbours_19 : decode b_Md_neighbours 19 = .ok (.aload_n 0, 1) := by decide +kernel
theorem d_Md_neighbours_20 : decode b_Md_neighbours 20 = .ok (.iconst 1, 1) := by decide +kernel
theorem d_Md_neighbours_21 : decode b_Md_neighbours 21 = .ok (.invokevirtual 109, 3) := by decide +kernel
theorem d_Md_neighbours_24 : decode b_Md_neighbours 24 = .ok (.ireturn, 1) := by decide +kernel
theorem d_Md_neighbours_25 : decode b_Md_neighbours 25 = .ok (.aload_n 0, 1) := by decide +kernel
theorem d_Md_neighbours_26 : decode b_Md_neighbours 26 = .ok (.iload_n 1, 1) := by decide +kernel
theorem d_Md_neighbours_27 : decode b_Md_neighbours 27 = .ok (.invokevirtual 205, 3) := by decide +kernel
theorem d_Md_neighbours_30 : decode b_Md_neighbours 30 = .ok (.aload_n 0, 1) := by decide +kernel
theorem d_Md_neighbours_31 : decode b_Md_neighbours 31 = .ok (.getfield 196, 3) := by decide +kernel
theorem d_Md_neighbours_34 : decode b_Md_neighbours 34 = .ok (.ireturn, 1) := by decide +kernel
theorem d_Md_neighbour_0 : decode b_Md_neighbour 0 = .ok (.aload_n 0, 1) := by decide +kernel
theorem d_Md_neighbour_1 : decode b_Md_neighbour 1 = .ok (.iconst 0, 1) := by decide +kernel
theorem d_Md_neighbour_2 : decode b_Md_neighbour 2 = .ok (.putfield 47, 3) := by decide +kernel
theorem d_Md_neighbour_5 : decode b_Md_neighbour 5 = .ok (.iload_n 1, 1) := by decide +kernel
theorem d_Md_neighbour_6 : decode b_Md_neighbour 6 = .ok (.iconst 0, 1) := by decide +kernel
theorem d_Md_neighbour_7 : decode b_Md_neighbour 7 = .ok (.aload_n 0, 1) := by decide +kernel
theorem d_Md_neighbour_8 : decode b_Md_neighbour 8 = .ok (.getfield 98, 3) := by decide +kernel
theorem d_Md_neighbour_11 : decode b_Md_neighbour 11 = .ok (.iconst 1, 1) := by decide +kernel
theorem d_Md_neighbour_12 : decode b_Md_neighbour 12 = .ok (.isub, 1) := by decide +kernel
theorem d_Md_neighbour_13 : decode b_Md_neighbour 13 = .ok (.invokestatic 52, 3) := by decide +kernel
theorem d_Md_neighbour_16 : decode b_Md_neighbour 16 = .ok (.ifCond .ne 9, 3) := by decide +kernel
theorem d_Md_neighbour_19 : decode b_Md_neighbour 19 = .ok (.aload_n 0, 1) := by decide +kernel
theorem d_Md_neighbour_20 : decode b_Md_neighbour 20 = .ok (.iconst 1, 1) := by decide +kernel
theorem d_Md_neighbour_21 : decode b_Md_neighbour 21 = .ok (.invokevirtual 109, 3) := by decide +kernel
theorem d_Md_neighbour_24 : decode b_Md_neighbour 24 = .ok (.ireturn, 1) := by decide +kernel
theorem d_Md_neighbour_25 : decode b_Md_neighbour 25 = .ok (.aload_n 0, 1) := by decide +kernel
theorem d_Md_neighbour_26 : decode b_Md_neighbour 26 = .ok (.iload_n 1, 1) := by decide +kernel
theorem d_Md_neighbour_27 : decode b_Md_neighbour 27 = .ok (.invokevirtual 205, 3) := by decide +kernel
theorem d_Md_neighbour_30 : decode b_Md_neighbour 30 = .ok (.iload_n 2, 1) := by decide +kernel
theorem d_Md_neighbour_31 : decode b_Md_neighbour 31 = .ok (.iconst 0, 1) := by decide +kernel
theorem d_Md_neighbour_32 : decode b_Md_neighbour 32 = .ok (.aload_n 0, 1) := by decide +kernel
theorem d_Md_neighbour_33 : decode b_Md_neighbour 33 = .ok (.getfield 196, 3) := by decide +kernel
theorem d_Md_neighbour_36 : decode b_Md_neighbour 36 = .ok (.iconst 1, 1) := by decide +kernel
theorem d_Md_neighbour_37 : decode b_Md_neighbour 37 = .ok (.isub, 1) := by decide +kernel
theorem d_Md_neighbour_38 : decode b_Md_neighbour 38 = .ok (.invokestatic 52, 3) := by decide +kernel
theorem d_Md_neighbour_41 : decode b_Md_neighbour 41 = .ok (.ifCond .eq 12, 3) := by decide +kernel
theorem d_Md_neighbour_44 : decode b_Md_neighbour 44 = .ok (.aload_n 0, 1) := by decide +kernel
theorem d_Md_neighbour_45 : decode b_Md_neighbour 45 = .ok (.getfield 37, 3) := by decide +kernel
theorem d_Md_neighbour_48 : decode b_Md_neighbour 48 = .ok (.iload_n 2, 1) := by decide +kernel
theorem d_Md_neighbour_49 : decode b_Md_neighbour 49 = .ok (.iaload, 1) := by decide +kernel
theorem d_Md_neighbour_50 : decode b_Md_neighbour 50 = .ok (.goto 8, 3) := by decide +kernel
theorem d_Md_neighbour_53 : decode b_Md_neighbour 53 = .ok (.aload_n 0, 1) := by decide +kernel
theorem d_Md_neighbour_54 : decode b_Md_neighbour 54 = .ok (.iconst 1, 1) := by decide +kernel
theorem d_Md_neighbour_55 : decode b_Md_neighbour 55 = .ok (.invokevirtual 109, 3) := by decide +kernel
theorem d_Md_neighbour_58 : decode b_Md_neighbour 58 = .ok (.ireturn, 1) := by decide +kernel
theorem d_Md_found_0 : decode b_Md_found 0 = .ok (.aload_n 0, 1) := by decide +kernel
theorem d_Md_found_1 : decode b_Md_found 1 = .ok (.getfield 40, 3) := by decide +kernel
theorem d_Md_found_4 : decode b_Md_found 4 = .ok (.iconst 0, 1) := by decide +kernel
theorem d_Md_found_5 : decode b_Md_found 5 = .ok (.iload_n 2, 1) := by decide +kernel
theorem d_Md_found_6 : decode b_Md_found 6 = .ok (.iastore, 1) := by decide +kernel
theorem d_Md_found_7 : decode b_Md_found 7 = .ok (.aload_n 0, 1) := by decide +kernel
theorem d_Md_found_8 : decode b_Md_found 8 = .ok (.getfield 40, 3) := by decide +kernel
theorem d_Md_found_11 : decode b_Md_found 11 = .ok (.iconst 1, 1) := by decide +kernel
theorem d_Md_found_12 : decode b_Md_found 12 = .ok (.iload_n 3, 1) := by decide +kernel
theorem d_Md_found_13 : decode b_Md_found 13 = .ok (.iastore, 1) := by decide +kernel
theorem d_Md_found_14 : decode b_Md_found 14 = .ok (.aload_n 0, 1) := by decide +kernel
theorem d_Md_found_15 : decode b_Md_found 15 = .ok (.getfield 40, 3) := by decide +kernel
theorem d_Md_found_18 : decode b_Md_found 18 = .ok (.iconst 2, 1) := by decide +kernel
theorem d_Md_found_19 : decode b_Md_found 19 = .ok (.iload 4, 2) := by decide +kernel
theorem d_Md_found_21 : decode b_Md_found 21 = .ok (.iastore, 1) := by decide +kernel
theorem d_Md_found_22 : decode b_Md_found 22 = .ok (.iload_n 1, 1) := by decide +kernel
theorem d_Md_found_23 : decode b_Md_found 23 = .ok (.ireturn, 1) := by decide +kernel
theorem d_Md_locate_0 : decode b_Md_locate 0 = .ok (.aload_n 0, 1) := by decide +kernel
theorem d_Md_locate_1 : decode b_Md_locate 1 = .ok (.iconst 0, 1) := by decide +kernel
theorem d_Md_locate_2 : decode b_Md_locate 2 = .ok (.putfield 47, 3) := by decide +kernel
theorem d_Md_locate_5 : decode b_Md_locate 5 = .ok (.iload_n 1, 1) := by decide +kernel
theorem d_Md_locate_6 : decode b_Md_locate 6 = .ok (.iload_n 2, 1) := by decide +kernel
theorem d_Md_locate_7 : decode b_Md_locate 7 = .ok (.invokestatic 105, 3) := by decide +kernel
theorem d_Md_locate_10 : decode b_Md_locate 10 = .ok (.ifCond .eq 9, 3) := by decide +kernel
theorem d_Md_locate_13 : decode b_Md_locate 13 = .ok (.aload_n 0, 1) := by decide +kernel
theorem d_Md_locate_14 : decode b_Md_locate 14 = .ok (.iconst 1, 1) := by decide +kernel
theorem d_Md_locate_15 : decode b_Md_locate 15 = .ok (.invokevirtual 109, 3) := by decide +kernel
theorem d_Md_locate_18 : decode b_Md_locate 18 = .ok (.ireturn, 1) := by decide +kernel
theorem d_Md_locate_19 : decode b_Md_locate 19 = .ok (.aload_n 0, 1) := by decide +kernel
theorem d_Md_locate_20 : decode b_Md_locate 20 = .ok (.invokevirtual 186, 3) := by decide +kernel
theorem d_Md_locate_23 : decode b_Md_locate 23 = .ok (.aload_n 0, 1) := by decide +kernel
theorem d_Md_locate_24 : decode b_Md_locate 24 = .ok (.iload_n 1, 1) := by decide +kernel
theorem d_Md_locate_25 : decode b_Md_locate 25 = .ok (.iload_n 2, 1) := by decide +kernel
theorem d_Md_locate_26 : decode b_Md_locate 26 = .ok (.invokevirtual 113, 3) := by decide +kernel
theorem d_Md_locate_29 : decode b_Md_locate 29 = .ok (.istore_n 3, 1) := by decide +kernel
theorem d_Md_locate_30 : decode b_Md_locate 30 = .ok (.iload_n 3, 1) := by decide +kernel
theorem d_Md_locate_31 : decode b_Md_locate 31 = .ok (.ifCond .lt 12, 3) := by decide +kernel
theorem d_Md_locate_34 : decode b_Md_locate 34 = .ok (.aload_n 0, 1) := by decide +kernel
theorem d_Md_locate_35 : decode b_Md_locate 35 = .ok (.iconst 3, 1) := by decide +kernel
theorem d_Md_locate_36 : decode b_Md_locate 36 = .ok (.iload_n 3, 1) := by decide +kernel
theorem d_Md_locate_37 : decode b_Md_locate 37 = .ok (.iconst (-1), 1) := by decide +kernel
theorem d_Md_locate_38 : decode b_Md_locate 38 = .ok (.iconst (-1), 1) := by decide +kernel
theorem d_Md_locate_39 : decode b_Md_locate 39 = .ok (.invokevirtual 208, 3) := by decide +kernel
theorem d_Md_locate_42 : decode b_Md_locate 42 = .ok (.ireturn, 1) := by decide +kernel
theorem d_Md_locate_43 : decode b_Md_locate 43 = .ok (.iconst 0, 1) := by decide +kernel
theorem d_Md_locate_44 : decode b_Md_locate 44 = .ok (.istore 4, 2) := by decide +kernel
theorem d_Md_locate_46 : decode b_Md_locate 46 = .ok (.iload 4, 2) := by decide +kernel
theorem d_Md_locate_48 : decode b_Md_locate 48 = .ok (.aload_n 0, 1) := by decide +kernel
theorem d_Md_locate_49 : decode b_Md_locate 49 = .ok (.getfield 98, 3) := by decide +kernel
theorem d_Md_locate_52 : decode b_Md_locate 52 = .ok (.if_icmp .ge 65, 3) := by decide +kernel
theorem d_Md_locate_55 : decode b_Md_locate 55 = .ok (.iload 4, 2) := by decide +kernel
theorem d_Md_locate_57 : decode b_Md_locate 57 = .ok (.iconst 1, 1) := by decide +kernel
theorem d_Md_locate_58 : decode b_Md_locate 58 = .ok (.iadd, 1) := by decide +kernel
theorem d_Md_locate_59 : decode b_Md_locate 59 = .ok (.istore 5, 2) := by decide +kernel
theorem d_Md_locate_61 : decode b_Md_locate 61 = .ok (.iload 5, 2) := by decide +kernel
theorem d_Md_locate_63 : decode b_Md_locate 63 = .ok (.aload_n 0, 1) := by decide +kernel
theorem d_Md_locate_64 : decode b_Md_locate 64 = .ok (.getfield 98, 3) := by decide +kernel
theorem d_Md_locate_67 : decode b_Md_locate 67 = .ok (.if_icmp .ge 44, 3) := by decide +kernel
theorem d_Md_locate_70 : decode b_Md_locate 70 = .ok (.aload_n 0, 1) := by decide +kernel
theorem d_Md_locate_71 : decode b_Md_locate 71 = .ok (.iload_n 1, 1) := by decide +kernel
theorem d_Md_locate_72 : decode b_Md_locate 72 = .ok (.iload_n 2, 1) := by decide +kernel
theorem d_Md_locate_73 : decode b_Md_locate 73 = .ok (.iload 4, 2) := by decide +kernel
theorem d_Md_locate_75 : decode b_Md_locate 75 = .ok (.iload 5, 2) := by decide +kernel
theorem d_Md_locate_77 : decode b_Md_locate 77 = .ok (.invokevirtual 189, 3) := by decide +kernel
theorem d_Md_locate_80 : decode b_Md_locate 80 = .ok (.ifCond .eq 25, 3) := by decide +kernel
theorem d_Md_locate_83 : decode b_Md_locate 83 = .ok (.aload_n 0, 1) := by decide +kernel
theorem d_Md_locate_84 : decode b_Md_locate 84 = .ok (.iload 4, 2) := by decide +kernel
theorem d_Md_locate_86 : decode b_Md_locate 86 = .ok (.iload 5, 2) := by decide +kernel
theorem d_Md_locate_88 : decode b_Md_locate 88 = .ok (.invokevirtual 199, 3) := by decide +kernel
theorem d_Md_locate_91 : decode b_Md_locate 91 = .ok (.ifCond .eq 14, 3) := by decide +kernel
theorem d_Md_locate_94 : decode b_Md_locate 94 = .ok (.aload_n 0, 1) := by decide +kernel
theorem d_Md_locate_95 : decode b_Md_locate 95 = .ok (.iconst 2, 1) := by decide +kernel
theorem d_Md_locate_96 : decode b_Md_locate 96 = .ok (.iload 4, 2) := by decide +kernel
theorem d_Md_locate_98 : decode b_Md_locate 98 = .ok (.iload 5, 2) := by decide +kernel
theorem d_Md_locate_100 : decode b_Md_locate 100 = .ok (.iconst (-1), 1) := by decide +kernel
theorem d_Md_locate_101 : decode b_Md_locate 101 = .ok (.invokevirtual 208, 3) := by decide +kernel
theorem d_Md_locate_104 : decode b_Md_locate 104 = .ok (.ireturn, 1) := by decide +kernel
theorem d_Md_locate_105 : decode b_Md_locate 105 = .ok (.iinc 5 1, 3) := by decide +kernel
theorem d_Md_locate_108 : decode b_Md_locate 108 = .ok (.goto (-47), 3) := by decide +kernel
theorem d_Md_locate_111 : decode b_Md_locate 111 = .ok (.iinc 4 1, 3) := by decide +kernel
theorem d_Md_locate_114 : decode b_Md_locate 114 = .ok (.goto (-68), 3) := by decide +kernel
theorem d_Md_locate_117 : decode b_Md_locate 117 = .ok (.iconst 0, 1) := by decide +kernel
theorem d_Md_locate_118 : decode b_Md_locate 118 = .ok (.istore 4, 2) := by decide +kernel
theorem d_Md_locate_120 : decode b_Md_locate 120 = .ok (.iload 4, 2) := by decide +kernel
theorem d_Md_locate_122 : decode b_Md_locate 122 = .ok (.aload_n 0, 1) := by decide +kernel
theorem d_Md_locate_123 : decode b_Md_locate 123 = .ok (.getfield 153, 3) := by decide +kernel
theorem d_Md_locate_126 : decode b_Md_locate 126 = .ok (.if_icmp .ge 117, 3) := by decide +kernel
theorem d_Md_locate_129 : decode b_Md_locate 129 = .ok (.aload_n 0, 1) := by decide +kernel
theorem d_Md_locate_130 : decode b_Md_locate 130 = .ok (.aload_n 0, 1) := by decide +kernel
theorem d_Md_locate_131 : decode b_Md_locate 131 = .ok (.getfield 16, 3) := by decide +kernel
theorem d_Md_locate_134 : decode b_Md_locate 134 = .ok (.iload 4, 2) := by decide +kernel
theorem d_Md_locate_136 : decode b_Md_locate 136 = .ok (.iaload, 1) := by decide +kernel
theorem d_Md_locate_137 : decode b_Md_locate 137 = .ok (.aload_n 0, 1) := by decide +kernel
theorem d_Md_locate_138 : decode b_Md_locate 138 = .ok (.getfield 19, 3) := by decide +kernel
theorem d_Md_locate_141 : decode b_Md_locate 141 = .ok (.iload 4, 2) := by decide +kernel
theorem d_Md_locate_143 : decode b_Md_locate 143 = .ok (.iaload, 1) := by decide +kernel
theorem d_Md_locate_144 : decode b_Md_locate 144 = .ok (.iload_n 1, 1) := by decide +kernel
theorem d_Md_locate_145 : decode b_Md_locate 145 = .ok (.iload_n 2, 1) := by decide +kernel
theorem d_Md_locate_146 : decode b_Md_locate 146 = .ok (.invokevirtual 64, 3) := by decide +kernel
theorem d_Md_locate_149 : decode b_Md_locate 149 = .ok (.ifCond .le 53, 3) := by decide +kernel
theorem d_Md_locate_152 : decode b_Md_locate 152 = .ok (.aload_n 0, 1) := by decide +kernel
theorem d_Md_locate_153 : decode b_Md_locate 153 = .ok (.aload_n 0, 1) := by decide +kernel
theorem d_Md_locate_154 : decode b_Md_locate 154 = .ok (.getfield 19, 3) := by decide +kernel
theorem d_Md_locate_157 : decode b_Md_locate 157 = .ok (.iload 4, 2) := by decide +kernel
theorem d_Md_locate_159 : decode b_Md_locate 159 = .ok (.iaload, 1) := by decide +kernel
theorem d_Md_locate_160 : decode b_Md_locate 160 = .ok (.aload_n 0, 1) := by decide +kernel
theorem d_Md_locate_161 : decode b_Md_locate 161 = .ok (.getfield 22, 3) := by decide +kernel
theorem d_Md_locate_164 : decode b_Md_locate 164 = .ok (.iload 4, 2) := by decide +kernel
theorem d_Md_locate_166 : decode b_Md_locate 166 = .ok (.iaload, 1) := by decide +kernel
theorem d_Md_locate_167 : decode b_Md_locate 167 = .ok (.iload_n 1, 1) := by decide +kernel
theorem d_Md_locate_168 : decode b_Md_locate 168 = .ok (.iload_n 2, 1) := by decide +kernel
theorem d_Md_locate_169 : decode b_Md_locate 169 = .ok (.invokevirtual 64, 3) := by decide +kernel
theorem d_Md_locate_172 : decode b_Md_locate 172 = .ok (.ifCond .le 30, 3) := by decide +kernel
theorem d_Md_locate_175 : decode b_Md_locate 175 = .ok (.aload_n 0, 1) := by decide +kernel
theorem d_Md_locate_176 : decode b_Md_locate 176 = .ok (.aload_n 0, 1) := by decide +kernel
theorem d_Md_locate_177 : decode b_Md_locate 177 = .ok (.getfield 22, 3) := by decide +kernel
theorem d_Md_locate_180 : decode b_Md_locate 180 = .ok (.iload 4, 2) := by decide +kernel
theorem d_Md_locate_182 : decode b_Md_locate 182 = .ok (.iaload, 1) := by decide +kernel
theorem d_Md_locate_183 : decode b_Md_locate 183 = .ok (.aload_n 0, 1) := by decide +kernel
theorem d_Md_locate_184 : decode b_Md_locate 184 = .ok (.getfield 16, 3) := by decide +kernel
theorem d_Md_locate_187 : decode b_Md_locate 187 = .ok (.iload 4, 2) := by decide +kernel
theorem d_Md_locate_189 : decode b_Md_locate 189 = .ok (.iaload, 1) := by decide +kernel
theorem d_Md_locate_190 : decode b_Md_locate 190 = .ok (.iload_n 1, 1) := by decide +kernel
theorem d_Md_locate_191 : decode b_Md_locate 191 = .ok (.iload_n 2, 1) := by decide +kernel
theorem d_Md_locate_192 : decode b_Md_locate 192 = .ok (.invokevirtual 64, 3) := by decide +kernel
theorem d_Md_locate_195 : decode b_Md_locate 195 = .ok (.ifCond .le 7, 3) := by decide +kernel
theorem d_Md_locate_198 : decode b_Md_locate 198 = .ok (.iconst 1, 1) := by decide +kernel
theorem d_Md_locate_199 : decode b_Md_locate 199 = .ok (.goto 4, 3) := by decide +kernel
theorem d_Md_locate_202 : decode b_Md_locate 202 = .ok (.iconst 0, 1) := by decide +kernel
theorem d_Md_locate_203 : decode b_Md_locate 203 = .ok (.istore 5, 2) := by decide +kernel
theorem d_Md_locate_205 : decode b_Md_locate 205 = .ok (.iload 5, 2) := by decide +kernel
theorem d_Md_locate_207 : decode b_Md_locate 207 = .ok (.ifCond .eq 30, 3) := by decide +kernel
theorem d_Md_locate_210 : decode b_Md_locate 210 = .ok (.aload_n 0, 1) := by decide +kernel
theorem d_Md_locate_211 : decode b_Md_locate 211 = .ok (.iconst 1, 1) := by decide +kernel
theorem d_Md_locate_212 : decode b_Md_locate 212 = .ok (.aload_n 0, 1) := by decide +kernel
theorem d_Md_locate_213 : decode b_Md_locate 213 = .ok (.getfield 16, 3) := by decide +kernel
theorem d_Md_locate_216 : decode b_Md_locate 216 = .ok (.iload 4, 2) := by decide +kernel
theorem d_Md_locate_218 : decode b_Md_locate 218 = .ok (.iaload, 1) := by decide +kernel
theorem d_Md_locate_219 : decode b_Md_locate 219 = .ok (.aload_n 0, 1) := by decide +kernel
theorem d_Md_locate_220 : decode b_Md_locate 220 = .ok (.getfield 19, 3) := by decide +kernel
theorem d_Md_locate_223 : decode b_Md_locate 223 = .ok (.iload 4, 2) := by decide +kernel
theorem d_Md_locate_225 : decode b_Md_locate 225 = .ok (.iaload, 1) := by decide +kernel
theorem d_Md_locate_226 : decode b_Md_locate 226 = .ok (.aload_n 0, 1) := by decide +kernel
theorem d_Md_locate_227 : decode b_Md_locate 227 = .ok (.getfield 22, 3) := by decide +kernel
theorem d_Md_locate_230 : decode b_Md_locate 230 = .ok (.iload 4, 2) := by decide +kernel
theorem d_Md_locate_232 : decode b_Md_locate 232 = .ok (.iaload, 1) := by decide +kernel
theorem d_Md_locate_233 : decode b_Md_locate 233 = .ok (.invokevirtual 208, 3) := by decide +kernel
theorem d_Md_locate_236 : decode b_Md_locate 236 = .ok (.ireturn, 1) := by decide +kernel
theorem d_Md_locate_237 : decode b_Md_locate 237 = .ok (.iinc 4 1, 3) := by decide +kernel
theorem d_Md_locate_240 : decode b_Md_locate 240 = .ok (.goto (-120), 3) := by decide +kernel
theorem d_Md_locate_243 : decode b_Md_locate 243 = .ok (.aload_n 0, 1) := by decide +kernel
theorem d_Md_locate_244 : decode b_Md_locate 244 = .ok (.iconst 0, 1) := by decide +kernel
theorem d_Md_locate_245 : decode b_Md_locate 245 = .ok (.iconst (-1), 1) := by decide +kernel
theorem d_Md_locate_246 : decode b_Md_locate 246 = .ok (.iconst (-1), 1) := by decide +kernel
theorem d_Md_locate_247 : decode b_Md_locate 247 = .ok (.iconst (-1), 1) := by decide +kernel
theorem d_Md_locate_248 : decode b_Md_locate 248 = .ok (.invokevirtual 208, 3) := by decide +kernel
theorem d_Md_locate_251 : decode b_Md_locate 251 = .ok (.ireturn, 1) := by decide +kernel
theorem d_Md_located_0 : decode b_Md_located 0 = .ok (.aload_n 0, 1) := by decide +kernel
theorem d_Md_located_1 : decode b_Md_located 1 = .ok (.iconst 0, 1) := by decide +kernel
theorem d_Md_located_2 : decode b_Md_located 2 = .ok (.putfield 47, 3) := by decide +kernel
theorem d_Md_located_5 : decode b_Md_located 5 = .ok (.iload_n 1, 1) := by decide +kernel
theorem d_Md_located_6 : decode b_Md_located 6 = .ok (.iconst 0, 1) := by decide +kernel
theorem d_Md_located_7 : decode b_Md_located 7 = .ok (.iconst 2, 1) := by decide +kernel
theorem d_Md_located_8 : decode b_Md_located 8 = .ok (.invokestatic 52, 3) := by decide +kernel
theorem d_Md_located_11 : decode b_Md_located 11 = .ok (.ifCond .eq 12, 3) := by decide +kernel
theorem d_Md_located_14 : decode b_Md_located 14 = .ok (.aload_n 0, 1) := by decide +kernel
theorem d_Md_located_15 : decode b_Md_located 15 = .ok (.getfield 40, 3) := by decide +kernel
theorem d_Md_located_18 : decode b_Md_located 18 = .ok (.iload_n 1, 1) := by decide +kernel
theorem d_Md_located_19 : decode b_Md_located 19 = .ok (.iaload, 1) := by decide +kernel
theorem d_Md_located_20 : decode b_Md_located 20 = .ok (.goto 4, 3) := by decide +kernel
theorem d_Md_located_23 : decode b_Md_located 23 = .ok (.iconst (-1), 1) := by decide +kernel
theorem d_Md_located_24 : decode b_Md_located 24 = .ok (.ireturn, 1) := by decide +kernel
theorem d_Md_nearest_0 : decode b_Md_nearest 0 = .ok (.aload_n 0, 1) := by decide +kernel
theorem d_Md_nearest_1 : decode b_Md_nearest 1 = .ok (.iconst 0, 1) := by decide +kernel
theorem d_Md_nearest_2 : decode b_Md_nearest 2 = .ok (.putfield 47, 3) := by decide +kernel
theorem d_Md_nearest_5 : decode b_Md_nearest 5 = .ok (.iload_n 1, 1) := by decide +kernel
theorem d_Md_nearest_6 : decode b_Md_nearest 6 = .ok (.iload_n 2, 1) := by decide +kernel
theorem d_Md_nearest_7 : decode b_Md_nearest 7 = .ok (.invokestatic 105, 3) := by decide +kernel
theorem d_Md_nearest_10 : decode b_Md_nearest 10 = .ok (.ifCond .eq 9, 3) := by decide +kernel
theorem d_Md_nearest_13 : decode b_Md_nearest 13 = .ok (.aload_n 0, 1) := by decide +kernel
theorem d_Md_nearest_14 : decode b_Md_nearest 14 = .ok (.iconst 1, 1) := by decide +kernel
theorem d_Md_nearest_15 : decode b_Md_nearest 15 = .ok (.invokevirtual 109, 3) := by decide +kernel
theorem d_Md_nearest_18 : decode b_Md_nearest 18 = .ok (.ireturn, 1) := by decide +kernel
theorem d_Md_nearest_19 : decode b_Md_nearest 19 = .ok (.aload_n 0, 1) := by decide +kernel
theorem d_Md_nearest_20 : decode b_Md_nearest 20 = .ok (.getfield 98, 3) := by decide +kernel
theorem d_Md_nearest_23 : decode b_Md_nearest 23 = .ok (.ifCond .ne 9, 3) := by decide +kernel
theorem d_Md_nearest_26 : decode b_Md_nearest 26 = .ok (.aload_n 0, 1) := by decide +kernel
theorem d_Md_nearest_27 : decode b_Md_nearest 27 = .ok (.iconst 2, 1) := by decide +kernel
theorem d_Md_nearest_28 : decode b_Md_nearest 28 = .ok (.invokevirtual 109, 3) := by decide +kernel
theorem d_Md_nearest_31 : decode b_Md_nearest 31 = .ok (.ireturn, 1) := by decide +kernel
theorem d_Md_nearest_32 : decode b_Md_nearest 32 = .ok (.iconst 0, 1) := by decide +kernel
theorem d_Md_nearest_33 : decode b_Md_nearest 33 = .ok (.istore_n 3, 1) := by decide +kernel
theorem d_Md_nearest_34 : decode b_Md_nearest 34 = .ok (.iconst 1, 1) := by decide +kernel
theorem d_Md_nearest_35 : decode b_Md_nearest 35 = .ok (.istore 4, 2) := by decide +kernel
theorem d_Md_nearest_37 : decode b_Md_nearest 37 = .ok (.iload 4, 2) := by decide +kernel
theorem d_Md_nearest_39 : decode b_Md_nearest 39 = .ok (.aload_n 0, 1) := by decide +kernel
theorem d_Md_nearest_40 : decode b_Md_nearest 40 = .ok (.getfield 98, 3) := by decide +kernel
theorem d_Md_nearest_43 : decode b_Md_nearest 43 = .ok (.if_icmp .ge 35, 3) := by decide +kernel
theorem d_Md_nearest_46 : decode b_Md_nearest 46 = .ok (.aload_n 0, 1) := by decide +kernel
theorem d_Md_nearest_47 : decode b_Md_nearest 47 = .ok (.iload 4, 2) := by decide +kernel
theorem d_Md_nearest_49 : decode b_Md_nearest 49 = .ok (.iload_n 1, 1) := by decide +kernel
theorem d_Md_nearest_50 : decode b_Md_nearest 50 = .ok (.iload_n 2, 1) := by decide +kernel
theorem d_Md_nearest_51 : decode b_Md_nearest 51 = .ok (.invokevirtual 127, 3) := by decide +kernel
theorem d_Md_nearest_54 : decode b_Md_nearest 54 = .ok (.aload_n 0, 1) := by decide +kernel
theorem d_Md_nearest_55 : decode b_Md_nearest 55 = .ok (.iload_n 3, 1) := by decide +kernel
theorem d_Md_nearest_56 : decode b_Md_nearest 56 = .ok (.iload_n 1, 1) := by decide +kernel
theorem d_Md_nearest_57 : decode b_Md_nearest 57 = .ok (.iload_n 2, 1) := by decide +kernel
theorem d_Md_nearest_58 : decode b_Md_nearest 58 = .ok (.invokevirtual 127, 3) := by decide +kernel
theorem d_Md_nearest_61 : decode b_Md_nearest 61 = .ok (.lcmp, 1) := by decide +kernel
theorem d_Md_nearest_62 : decode b_Md_nearest 62 = .ok (.ifCond .ge 8, 3) := by decide +kernel
theorem d_Md_nearest_65 : decode b_Md_nearest 65 = .ok (.iload 4, 2) := by decide +kernel
theorem d_Md_nearest_67 : decode b_Md_nearest 67 = .ok (.goto 4, 3) := by decide +kernel
theorem d_Md_nearest_70 : decode b_Md_nearest 70 = .ok (.iload_n 3, 1) := by decide +kernel
theorem d_Md_nearest_71 : decode b_Md_nearest 71 = .ok (.istore_n 3, 1) := by decide +kernel
theorem d_Md_nearest_72 : decode b_Md_nearest 72 = .ok (.iinc 4 1, 3) := by decide +kernel
theorem d_Md_nearest_75 : decode b_Md_nearest 75 = .ok (.goto (-38), 3) := by decide +kernel
theorem d_Md_nearest_78 : decode b_Md_nearest 78 = .ok (.iload_n 3, 1) := by decide +kernel
theorem d_Md_nearest_79 : decode b_Md_nearest 79 = .ok (.ireturn, 1) := by decide +kernel
theorem d_Md_closest_0 : decode b_Md_closest 0 = .ok (.aload_n 0, 1) := by decide +kernel
theorem d_Md_closest_1 : decode b_Md_closest 1 = .ok (.iconst 0, 1) := by decide +kernel
theorem d_Md_closest_2 : decode b_Md_closest 2 = .ok (.putfield 47, 3) := by decide +kernel
theorem d_Md_closest_5 : decode b_Md_closest 5 = .ok (.iload_n 1, 1) := by decide +kernel
theorem d_Md_closest_6 : decode b_Md_closest 6 = .ok (.iconst 0, 1) := by decide +kernel
theorem d_Md_closest_7 : decode b_Md_closest 7 = .ok (.iconst 2, 1) := by decide +kernel
theorem d_Md_closest_8 : decode b_Md_closest 8 = .ok (.invokestatic 52, 3) := by decide +kernel
theorem d_Md_closest_11 : decode b_Md_closest 11 = .ok (.ifCond .ne 10, 3) := by decide +kernel
theorem d_Md_closest_14 : decode b_Md_closest 14 = .ok (.aload_n 0, 1) := by decide +kernel
theorem d_Md_closest_15 : decode b_Md_closest 15 = .ok (.iconst 1, 1) := by decide +kernel
theorem d_Md_closest_16 : decode b_Md_closest 16 = .ok (.invokevirtual 109, 3) := by decide +kernel
theorem d_Md_closest_19 : decode b_Md_closest 19 = .ok (.i2l, 1) := by decide +kernel
theorem d_Md_closest_20 : decode b_Md_closest 20 = .ok (.lreturn, 1) := by decide +kernel
theorem d_Md_closest_21 : decode b_Md_closest 21 = .ok (.aload_n 0, 1) := by decide +kernel
theorem d_Md_closest_22 : decode b_Md_closest 22 = .ok (.getfield 98, 3) := by decide +kernel
theorem d_Md_closest_25 : decode b_Md_closest 25 = .ok (.iconst 2, 1) := by decide +kernel
theorem d_Md_closest_26 : decode b_Md_closest 26 = .ok (.if_icmp .ge 10, 3) := by decide +kernel
theorem d_Md_closest_29 : decode b_Md_closest 29 = .ok (.aload_n 0, 1) := by decide +kernel
theorem d_Md_closest_30 : decode b_Md_closest 30 = .ok (.iconst 2, 1) := by decide +kernel
theorem d_Md_closest_31 : decode b_Md_closest 31 = .ok (.invokevirtual 109, 3) := by decide +kernel
theorem d_Md_closest_34 : decode b_Md_closest 34 = .ok (.i2l, 1) := by decide +kernel
theorem d_Md_closest_35 : decode b_Md_closest 35 = .ok (.lreturn, 1) := by decide +kernel
theorem d_Md_closest_36 : decode b_Md_closest 36 = .ok (.iconst 0, 1) := by decide +kernel
theorem d_Md_closest_37 : decode b_Md_closest 37 = .ok (.istore_n 2, 1) := by decide +kernel
theorem d_Md_closest_38 : decode b_Md_closest 38 = .ok (.iconst 1, 1) := by decide +kernel
theorem d_Md_closest_39 : decode b_Md_closest 39 = .ok (.istore_n 3, 1) := by decide +kernel
theorem d_Md_closest_40 : decode b_Md_closest 40 = .ok (.iconst 0, 1) := by decide +kernel
theorem d_Md_closest_41 : decode b_Md_closest 41 = .ok (.istore 4, 2) := by decide +kernel
theorem d_Md_closest_43 : decode b_Md_closest 43 = .ok (.iload 4, 2) := by decide +kernel
theorem d_Md_closest_45 : decode b_Md_closest 45 = .ok (.aload_n 0, 1) := by decide +kernel
theorem d_Md_closest_46 : decode b_Md_closest 46 = .ok (.getfield 98, 3) := by decide +kernel
theorem d_Md_closest_49 : decode b_Md_closest 49 = .ok (.if_icmp .ge 77, 3) := by decide +kernel
theorem d_Md_closest_52 : decode b_Md_closest 52 = .ok (.iload 4, 2) := by decide +kernel
theorem d_Md_closest_54 : decode b_Md_closest 54 = .ok (.iconst 1, 1) := by decide +kernel
theorem d_Md_closest_55 : decode b_Md_closest 55 = .ok (.iadd, 1) := by decide +kernel
theorem d_Md_closest_56 : decode b_Md_closest 56 = .ok (.istore 5, 2) := by decide +kernel
theorem d_Md_closest_58 : decode b_Md_closest 58 = .ok (.iload 5, 2) := by decide +kernel
theorem d_Md_closest_60 : decode b_Md_closest 60 = .ok (.aload_n 0, 1) := by decide +kernel
theorem d_Md_closest_61 : decode b_Md_closest 61 = .ok (.getfield 98, 3) := by decide +kernel
theorem d_Md_closest_64 : decode b_Md_closest 64 = .ok (.if_icmp .ge 56, 3) := by decide +kernel
theorem d_Md_closest_67 : decode b_Md_closest 67 = .ok (.aload_n 0, 1) := by decide +kernel
theorem d_Md_closest_68 : decode b_Md_closest 68 = .ok (.iload 4, 2) := by decide +kernel
theorem d_Md_closest_70 : decode b_Md_closest 70 = .ok (.aload_n 0, 1) := by decide +kernel
theorem d_Md_closest_71 : decode b_Md_closest 71 = .ok (.getfield 7, 3) := by decide +kernel
theorem d_Md_closest_74 : decode b_Md_closest 74 = .ok (.iload 5, 2) := by decide +kernel
theorem d_Md_closest_76 : decode b_Md_closest 76 = .ok (.iaload, 1) := by decide +kernel
theorem d_Md_closest_77 : decode b_Md_closest 77 = .ok (.aload_n 0, 1) := by decide +kernel
theorem d_Md_closest_78 : decode b_Md_closest 78 = .ok (.getfield 13, 3) := by decide +kernel
theorem d_Md_closest_81 : decode b_Md_closest 81 = .ok (.iload 5, 2) := by decide +kernel
theorem d_Md_closest_83 : decode b_Md_closest 83 = .ok (.iaload, 1) := by decide +kernel
theorem d_Md_closest_84 : decode b_Md_closest 84 = .ok (.invokevirtual 127, 3) := by decide +kernel
theorem d_Md_closest_87 : decode b_Md_closest 87 = .ok (.aload_n 0, 1) := by decide +kernel
theorem d_Md_closest_88 : decode b_Md_closest 88 = .ok (.iload_n 2, 1) := by decide +kernel
theorem d_Md_closest_89 : decode b_Md_closest 89 = .ok (.aload_n 0, 1) := by decide +kernel
theorem d_Md_closest_90 : decode b_Md_closest 90 = .ok (.getfield 7, 3) := by decide +kernel
theorem d_Md_closest_93 : decode b_Md_closest 93 = .ok (.iload_n 3, 1) := by decide +kernel
theorem d_Md_closest_94 : decode b_Md_closest 94 = .ok (.iaload, 1) := by decide +kernel
theorem d_Md_closest_95 : decode b_Md_closest 95 = .ok (.aload_n 0, 1) := by decide +kernel
theorem d_Md_closest_96 : decode b_Md_closest 96 = .ok (.getfield 13, 3) := by decide +kernel
theorem d_Md_closest_99 : decode b_Md_closest 99 = .ok (.iload_n 3, 1) := by decide +kernel
theorem d_Md_closest_100 : decode b_Md_closest 100 = .ok (.iaload, 1) := by decide +kernel
theorem d_Md_closest_101 : decode b_Md_closest 101 = .ok (.invokevirtual 127, 3) := by decide +kernel
theorem d_Md_closest_104 : decode b_Md_closest 104 = .ok (.lcmp, 1) := by decide +kernel
theorem d_Md_closest_105 : decode b_Md_closest 105 = .ok (.ifCond .ge 9, 3) := by decide +kernel
theorem d_Md_closest_108 : decode b_Md_closest 108 = .ok (.iload 4, 2) := by decide +kernel
theorem d_Md_closest_110 : decode b_Md_closest 110 = .ok (.istore_n 2, 1) := by decide +kernel
theorem d_Md_closest_111 : decode b_Md_closest 111 = .ok (.iload 5, 2) := by decide +kernel
theorem d_Md_closest_113 : decode b_Md_closest 113 = .ok (.istore_n 3, 1) := by decide +kernel
theorem d_Md_closest_114 : decode b_Md_closest 114 = .ok (.iinc 5 1, 3) := by decide +kernel
theorem d_Md_closest_117 : decode b_Md_closest 117 = .ok (.goto (-59), 3) := by decide +kernel
theorem d_Md_closest_120 : decode b_Md_closest 120 = .ok (.iinc 4 1, 3) := by decide +kernel
theorem d_Md_closest_123 : decode b_Md_closest 123 = .ok (.goto (-80), 3) := by decide +kernel
theorem d_Md_closest_126 : decode b_Md_closest 126 = .ok (.iload_n 1, 1) := by decide +kernel
theorem d_Md_closest_127 : decode b_Md_closest 127 = .ok (.ifCond .ne 23, 3) := by decide +kernel
theorem d_Md_closest_130 : decode b_Md_closest 130 = .ok (.aload_n 0, 1) := by decide +kernel
theorem d_Md_closest_131 : decode b_Md_closest 131 = .ok (.iload_n 2, 1) := by decide +kernel
theorem d_Md_closest_132 : decode b_Md_closest 132 = .ok (.aload_n 0, 1) := by decide +kernel
theorem d_Md_closest_133 : decode b_Md_closest 133 = .ok (.getfield 7, 3) := by decide +kernel
theorem d_Md_closest_136 : decode b_Md_closest 136 = .ok (.iload_n 3, 1) := by decide +kernel
theorem d_Md_closest_137 : decode b_Md_closest 137 = .ok (.iaload, 1) := by decide +kernel
theorem d_Md_closest_138 : decode b_Md_closest 138 = .ok (.aload_n 0, 1) := by decide +kernel
theorem d_Md_closest_139 : decode b_Md_closest 139 = .ok (.getfield 13, 3) := by decide +kernel
theorem d_Md_closest_142 : decode b_Md_closest 142 = .ok (.iload_n 3, 1) := by decide +kernel
theorem d_Md_closest_143 : decode b_Md_closest 143 = .ok (.iaload, 1) := by decide +kernel
theorem d_Md_closest_144 : decode b_Md_closest 144 = .ok (.invokevirtual 127, 3) := by decide +kernel
theorem d_Md_closest_147 : decode b_Md_closest 147 = .ok (.goto 15, 3) := by decide +kernel
theorem d_Md_closest_150 : decode b_Md_closest 150 = .ok (.iload_n 1, 1) := by decide +kernel
theorem d_Md_closest_151 : decode b_Md_closest 151 = .ok (.iconst 1, 1) := by decide +kernel
theorem d_Md_closest_152 : decode b_Md_closest 152 = .ok (.if_icmp .ne 8, 3) := by decide +kernel
theorem d_Md_closest_155 : decode b_Md_closest 155 = .ok (.iload_n 2, 1) := by decide +kernel
theorem d_Md_closest_156 : decode b_Md_closest 156 = .ok (.i2l, 1) := by decide +kernel
theorem d_Md_closest_157 : decode b_Md_closest 157 = .ok (.goto 5, 3) := by decide +kernel
theorem d_Md_closest_160 : decode b_Md_closest 160 = .ok (.iload_n 3, 1) := by decide +kernel
theorem d_Md_closest_161 : decode b_Md_closest 161 = .ok (.i2l, 1) := by decide +kernel
theorem d_Md_closest_162 : decode b_Md_closest 162 = .ok (.lreturn, 1) := by decide +kernel
theorem d_Md_point_0 : decode b_Md_point 0 = .ok (.aload_n 0, 1) := by decide +kernel
theorem d_Md_point_1 : decode b_Md_point 1 = .ok (.iconst 0, 1) := by decide +kernel
theorem d_Md_point_2 : decode b_Md_point 2 = .ok (.putfield 47, 3) := by decide +kernel
theorem d_Md_point_5 : decode b_Md_point 5 = .ok (.iload_n 1, 1) := by decide +kernel
theorem d_Md_point_6 : decode b_Md_point 6 = .ok (.iconst 0, 1) := by decide +kernel
theorem d_Md_point_7 : decode b_Md_point 7 = .ok (.aload_n 0, 1) := by decide +kernel
theorem d_Md_point_8 : decode b_Md_point 8 = .ok (.getfield 98, 3) := by decide +kernel
theorem d_Md_point_11 : decode b_Md_point 11 = .ok (.iconst 1, 1) := by decide +kernel
theorem d_Md_point_12 : decode b_Md_point 12 = .ok (.isub, 1) := by decide +kernel
theorem d_Md_point_13 : decode b_Md_point 13 = .ok (.invokestatic 52, 3) := by decide +kernel
theorem d_Md_point_16 : decode b_Md_point 16 = .ok (.ifCond .eq 34, 3) := by decide +kernel
theorem d_Md_point_19 : decode b_Md_point 19 = .ok (.iload_n 2, 1) := by decide +kernel
theorem d_Md_point_20 : decode b_Md_point 20 = .ok (.iconst 0, 1) := by decide +kernel
theorem d_Md_point_21 : decode b_Md_point 21 = .ok (.iconst 1, 1) := by decide +kernel
theorem d_Md_point_22 : decode b_Md_point 22 = .ok (.invokestatic 52, 3) := by decide +kernel
theorem d_Md_point_25 : decode b_Md_point 25 = .ok (.ifCond .eq 25, 3) := by decide +kernel
theorem d_Md_point_28 : decode b_Md_point 28 = .ok (.iload_n 2, 1) := by decide +kernel
theorem d_Md_point_29 : decode b_Md_point 29 = .ok (.ifCond .ne 12, 3) := by decide +kernel
theorem d_Md_point_32 : decode b_Md_point 32 = .ok (.aload_n 0, 1) := by decide +kernel
theorem d_Md_point_33 : decode b_Md_point 33 = .ok (.getfield 7, 3) := by decide +kernel
theorem d_Md_point_36 : decode b_Md_point 36 = .ok (.iload_n 1, 1) := by decide +kernel
theorem d_Md_point_37 : decode b_Md_point 37 = .ok (.iaload, 1) := by decide +kernel
theorem d_Md_point_38 : decode b_Md_point 38 = .ok (.goto 17, 3) := by decide +kernel
theorem d_Md_point_41 : decode b_Md_point 41 = .ok (.aload_n 0, 1) := by decide +kernel
theorem d_Md_point_42 : decode b_Md_point 42 = .ok (.getfield 13, 3) := by decide +kernel
theorem d_Md_point_45 : decode b_Md_point 45 = .ok (.iload_n 1, 1) := by decide +kernel
theorem d_Md_point_46 : decode b_Md_point 46 = .ok (.iaload, 1) := by decide +kernel
theorem d_Md_point_47 : decode b_Md_point 47 = .ok (.goto 8, 3) := by decide +kernel
theorem d_Md_point_50 : decode b_Md_point 50 = .ok (.aload_n 0, 1) := by decide +kernel
theorem d_Md_point_51 : decode b_Md_point 51 = .ok (.iconst 1, 1) := by decide +kernel
theorem d_Md_point_52 : decode b_Md_point 52 = .ok (.invokevirtual 109, 3) := by decide +kernel
theorem d_Md_point_55 : decode b_Md_point 55 = .ok (.ireturn, 1) := by decide +kernel
theorem d_Md_count_0 : decode b_Md_count 0 = .ok (.aload_n 0, 1) := by decide +kernel
theorem d_Md_count_1 : decode b_Md_count 1 = .ok (.iconst 0, 1) := by decide +kernel
theorem d_Md_count_2 : decode b_Md_count 2 = .ok (.putfield 47, 3) := by decide +kernel
theorem d_Md_count_5 : decode b_Md_count 5 = .ok (.iload_n 1, 1) := by decide +kernel
theorem d_Md_count_6 : decode b_Md_count 6 = .ok (.iconst 0, 1) := by decide +kernel
theorem d_Md_count_7 : decode b_Md_count 7 = .ok (.iconst 2, 1) := by decide +kernel
theorem d_Md_count_8 : decode b_Md_count 8 = .ok (.invokestatic 52, 3) := by decide +kernel
theorem d_Md_count_11 : decode b_Md_count 11 = .ok (.ifCond .ne 5, 3) := by decide +kernel
theorem d_Md_count_14 : decode b_Md_count 14 = .ok (.iconst (-1), 1) := by decide +kernel
theorem d_Md_count_15 : decode b_Md_count 15 = .ok (.ireturn, 1) := by decide +kernel
theorem d_Md_count_16 : decode b_Md_count 16 = .ok (.aload_n 0, 1) := by decide +kernel
theorem d_Md_count_17 : decode b_Md_count 17 = .ok (.invokevirtual 186, 3) := by decide +kernel
theorem d_Md_count_20 : decode b_Md_count 20 = .ok (.iload_n 1, 1) := by decide +kernel
theorem d_Md_count_21 : decode b_Md_count 21 = .ok (.ifCond .ne 10, 3) := by decide +kernel
theorem d_Md_count_24 : decode b_Md_count 24 = .ok (.aload_n 0, 1) := by decide +kernel
theorem d_Md_count_25 : decode b_Md_count 25 = .ok (.getfield 98, 3) := by decide +kernel
theorem d_Md_count_28 : decode b_Md_count 28 = .ok (.goto 19, 3) := by decide +kernel
theorem d_Md_count_31 : decode b_Md_count 31 = .ok (.iload_n 1, 1) := by decide +kernel
theorem d_Md_count_32 : decode b_Md_count 32 = .ok (.iconst 1, 1) := by decide +kernel
theorem d_Md_count_33 : decode b_Md_count 33 = .ok (.if_icmp .ne 10, 3) := by decide +kernel
theorem d_Md_count_36 : decode b_Md_count 36 = .ok (.aload_n 0, 1) := by decide +kernel
theorem d_Md_count_37 : decode b_Md_count 37 = .ok (.getfield 153, 3) := by decide +kernel
theorem d_Md_count_40 : decode b_Md_count 40 = .ok (.goto 7, 3) := by decide +kernel
theorem d_Md_count_43 : decode b_Md_count 43 = .ok (.aload_n 0, 1) := by decide +kernel
theorem d_Md_count_44 : decode b_Md_count 44 = .ok (.getfield 131, 3) := by decide +kernel
theorem d_Md_count_47 : decode b_Md_count 47 = .ok (.ireturn, 1) := by decide +kernel
theorem d_Pn_init_0 : decode b_Pn_init 0 = .ok (.aload_n 0, 1) := by decide +kernel
theorem d_Pn_init_1 : decode b_Pn_init 1 = .ok (.invokespecial 3, 3) := by decide +kernel
theorem d_Pn_init_4 : decode b_Pn_init 4 = .ok (.aload_n 0, 1) := by decide +kernel
theorem d_Pn_init_5 : decode b_Pn_init 5 = .ok (.new 9, 3) := by decide +kernel
theorem d_Pn_init_8 : decode b_Pn_init 8 = .ok (.dup, 1) := by decide +kernel
theorem d_Pn_init_9 : decode b_Pn_init 9 = .ok (.iconst 1, 1) := by decide +kernel
theorem d_Pn_init_10 : decode b_Pn_init 10 = .ok (.iload_n 1, 1) := by decide +kernel
theorem d_Pn_init_11 : decode b_Pn_init 11 = .ok (.sipush 1024, 3) := by decide +kernel
theorem d_Pn_init_14 : decode b_Pn_init 14 = .ok (.invokestatic 11, 3) := by decide +kernel
theorem d_Pn_init_17 : decode b_Pn_init 17 = .ok (.invokestatic 17, 3) := by decide +kernel
theorem d_Pn_init_20 : decode b_Pn_init 20 = .ok (.invokespecial 20, 3) := by decide +kernel
theorem d_Pn_init_23 : decode b_Pn_init 23 = .ok (.putfield 23, 3) := by decide +kernel
theorem d_Pn_init_26 : decode b_Pn_init 26 = .ok (.aload_n 0, 1) := by decide +kernel
theorem d_Pn_init_27 : decode b_Pn_init 27 = .ok (.new 27, 3) := by decide +kernel
theorem d_Pn_init_30 : decode b_Pn_init 30 = .ok (.dup, 1) := by decide +kernel
theorem d_Pn_init_31 : decode b_Pn_init 31 = .ok (.aload_n 0, 1) := by decide +kernel
theorem d_Pn_init_32 : decode b_Pn_init 32 = .ok (.getfield 23, 3) := by decide +kernel
theorem d_Pn_init_35 : decode b_Pn_init 35 = .ok (.invokespecial 29, 3) := by decide +kernel
theorem d_Pn_init_38 : decode b_Pn_init 38 = .ok (.putfield 32, 3) := by decide +kernel
theorem d_Pn_init_41 : decode b_Pn_init 41 = .ok (.aload_n 0, 1) := by decide +kernel
theorem d_Pn_init_42 : decode b_Pn_init 42 = .ok (.new 36, 3) := by decide +kernel
theorem d_Pn_init_45 : decode b_Pn_init 45 = .ok (.dup, 1) := by decide +kernel
theorem d_Pn_init_46 : decode b_Pn_init 46 = .ok (.aload_n 0, 1) := by decide +kernel
theorem d_Pn_init_47 : decode b_Pn_init 47 = .ok (.getfield 23, 3) := by decide +kernel
theorem d_Pn_init_50 : decode b_Pn_init 50 = .ok (.aload_n 0, 1) := by decide +kernel
theorem d_Pn_init_51 : decode b_Pn_init 51 = .ok (.getfield 32, 3) := by decide +kernel
theorem d_Pn_init_54 : decode b_Pn_init 54 = .ok (.invokespecial 38, 3) := by decide +kernel
theorem d_Pn_init_57 : decode b_Pn_init 57 = .ok (.putfield 41, 3) := by decide +kernel
theorem d_Pn_init_60 : decode b_Pn_init 60 = .ok (.aload_n 0, 1) := by decide +kernel
theorem d_Pn_init_61 : decode b_Pn_init 61 = .ok (.new 45, 3) := by decide +kernel
theorem d_Pn_init_64 : decode b_Pn_init 64 = .ok (.dup, 1) := by decide +kernel
theorem d_Pn_init_65 : decode b_Pn_init 65 = .ok (.aload_n 0, 1) := by decide +kernel
theorem d_Pn_init_66 : decode b_Pn_init 66 = .ok (.getfield 23, 3) := by decide +kernel
theorem d_Pn_init_69 : decode b_Pn_init 69 = .ok (.aload_n 0, 1) := by decide +kernel
theorem d_Pn_init_70 : decode b_Pn_init 70 = .ok (.getfield 32, 3) := by decide +kernel
theorem d_Pn_init_73 : decode b_Pn_init 73 = .ok (.invokespecial 47, 3) := by decide +kernel
theorem d_Pn_init_76 : decode b_Pn_init 76 = .ok (.putfield 48, 3) := by decide +kernel
theorem d_Pn_init_79 : decode b_Pn_init 79 = .ok (.aload_n 0, 1) := by decide +kernel
theorem d_Pn_init_80 : decode b_Pn_init 80 = .ok (.iconst 3, 1) := by decide +kernel
theorem d_Pn_init_81 : decode b_Pn_init 81 = .ok (.newarray .int, 2) := by decide +kernel
theorem d_Pn_init_83 : decode b_Pn_init 83 = .ok (.dup, 1) := by decide +kernel
theorem d_Pn_init_84 : decode b_Pn_init 84 = .ok (.iconst 0, 1) := by decide +kernel
theorem d_Pn_init_85 : decode b_Pn_init 85 = .ok (.iconst (-1), 1) := by decide +kernel
theorem d_Pn_init_86 : decode b_Pn_init 86 = .ok (.iastore, 1) := by decide +kernel
theorem d_Pn_init_87 : decode b_Pn_init 87 = .ok (.dup, 1) := by decide +kernel
theorem d_Pn_init_88 : decode b_Pn_init 88 = .ok (.iconst 1, 1) := by decide +kernel
theorem d_Pn_init_89 : decode b_Pn_init 89 = .ok (.iconst (-1), 1) := by decide +kernel
theorem d_Pn_init_90 : decode b_Pn_init 90 = .ok (.iastore, 1) := by decide +kernel
theorem d_Pn_init_91 : decode b_Pn_init 91 = .ok (.dup, 1) := by decide +kernel
theorem d_Pn_init_92 : decode b_Pn_init 92 = .ok (.iconst 2, 1) := by decide +kernel
theorem d_Pn_init_93 : decode b_Pn_init 93 = .ok (.iconst (-1), 1) := by decide +kernel
theorem d_Pn_init_94 : decode b_Pn_init 94 = .ok (.iastore, 1) := by decide +kernel
theorem d_Pn_init_95 : decode b_Pn_init 95 = .ok (.putfield 52, 3) := by decide +kernel
theorem d_Pn_init_98 : decode b_Pn_init 98 = .ok (.aload_n 0, 1) := by decide +kernel
theorem d_Pn_init_99 : decode b_Pn_init 99 = .ok (.lconst 0, 1) := by decide +kernel
theorem d_Pn_init_100 : decode b_Pn_init 100 = .ok (.putfield 56, 3) := by decide +kernel
theorem d_Pn_init_103 : decode b_Pn_init 103 = .ok (.aload_n 0, 1) := by decide +kernel
theorem d_Pn_init_104 : decode b_Pn_init 104 = .ok (.iconst (-1), 1) := by decide +kernel
theorem d_Pn_init_105 : decode b_Pn_init 105 = .ok (.putfield 60, 3) := by decide +kernel
theorem d_Pn_init_108 : decode b_Pn_init 108 = .ok (.aload_n 0, 1) := by decide +kernel
theorem d_Pn_init_109 : decode b_Pn_init 109 = .ok (.iconst (-1), 1) := by decide +kernel
theorem d_Pn_init_110 : decode b_Pn_init 110 = .ok (.putfield 64, 3) := by decide +kernel
theorem d_Pn_init_113 : decode b_Pn_init 113 = .ok (.return_, 1) := by decide +kernel
theorem d_Md_init_0 : decode b_Md_init 0 = .ok (.aload_n 0, 1) := by decide +kernel
theorem d_Md_init_1 : decode b_Md_init 1 = .ok (.invokespecial 1, 3) := by decide +kernel
theorem d_Md_init_4 : decode b_Md_init 4 = .ok (.aload_n 0, 1) := by decide +kernel
theorem d_Md_init_5 : decode b_Md_init 5 = .ok (.sipush 1024, 3) := by decide +kernel
theorem d_Md_init_8 : decode b_Md_init 8 = .ok (.newarray .int, 2) := by decide +kernel
theorem d_Md_init_10 : decode b_Md_init 10 = .ok (.putfield 7, 3) := by decide +kernel
theorem d_Md_init_13 : decode b_Md_init 13 = .ok (.aload_n 0, 1) := by decide +kernel
theorem d_Md_init_14 : decode b_Md_init 14 = .ok (.sipush 1024, 3) := by decide +kernel
theorem d_Md_init_17 : decode b_Md_init 17 = .ok (.newarray .int, 2) := by decide +kernel
theorem d_Md_init_19 : decode b_Md_init 19 = .ok (.putfield 13, 3) := by decide +kernel
theorem d_Md_init_22 : decode b_Md_init 22 = .ok (.aload_n 0, 1) := by decide +kernel
theorem d_Md_init_23 : decode b_Md_init 23 = .ok (.sipush 2048, 3) := by decide +kernel
theorem d_Md_init_26 : decode b_Md_init 26 = .ok (.newarray .int, 2) := by decide +kernel
theorem d_Md_init_28 : decode b_Md_init 28 = .ok (.putfield 16, 3) := by decide +kernel
theorem d_Md_init_31 : decode b_Md_init 31 = .ok (.aload_n 0, 1) := by decide +kernel
theorem d_Md_init_32 : decode b_Md_init 32 = .ok (.sipush 2048, 3) := by decide +kernel
theorem d_Md_init_35 : decode b_Md_init 35 = .ok (.newarray .int, 2) := by decide +kernel
theorem d_Md_init_37 : decode b_Md_init 37 = .ok (.putfield 19, 3) := by decide +kernel
theorem d_Md_init_40 : decode b_Md_init 40 = .ok (.aload_n 0, 1) := by decide +kernel
theorem d_Md_init_41 : decode b_Md_init 41 = .ok (.sipush 2048, 3) := by decide +kernel
theorem d_Md_init_44 : decode b_Md_init 44 = .ok (.newarray .int, 2) := by decide +kernel
theorem d_Md_init_46 : decode b_Md_init 46 = .ok (.putfield 22, 3) := by decide +kernel
theorem d_Md_init_49 : decode b_Md_init 49 = .ok (.aload_n 0, 1) := by decide +kernel
theorem d_Md_init_50 : decode b_Md_init 50 = .ok (.sipush 1024, 3) := by decide +kernel
theorem d_Md_init_53 : decode b_Md_init 53 = .ok (.newarray .int, 2) := by decide +kernel
theorem d_Md_init_55 : decode b_Md_init 55 = .ok (.putfield 25, 3) := by decide +kernel
theorem d_Md_init_58 : decode b_Md_init 58 = .ok (.aload_n 0, 1) := by decide +kernel
theorem d_Md_init_59 : decode b_Md_init 59 = .ok (.sipush 6200, 3) := by decide +kernel
theorem d_Md_init_62 : decode b_Md_init 62 = .ok (.newarray .int, 2) := by decide +kernel
theorem d_Md_init_64 : decode b_Md_init 64 = .ok (.putfield 28, 3) := by decide +kernel
theorem d_Md_init_67 : decode b_Md_init 67 = .ok (.aload_n 0, 1) := by decide +kernel
theorem d_Md_init_68 : decode b_Md_init 68 = .ok (.sipush 6200, 3) := by decide +kernel
theorem d_Md_init_71 : decode b_Md_init 71 = .ok (.newarray .int, 2) := by decide +kernel
theorem d_Md_init_73 : decode b_Md_init 73 = .ok (.putfield 31, 3) := by decide +kernel
theorem d_Md_init_76 : decode b_Md_init 76 = .ok (.aload_n 0, 1) := by decide +kernel
theorem d_Md_init_77 : decode b_Md_init 77 = .ok (.sipush 1024, 3) := by decide +kernel
theorem d_Md_init_80 : decode b_Md_init 80 = .ok (.newarray .int, 2) := by decide +kernel
theorem d_Md_init_82 : decode b_Md_init 82 = .ok (.putfield 34, 3) := by decide +kernel
theorem d_Md_init_85 : decode b_Md_init 85 = .ok (.aload_n 0, 1) := by decide +kernel
theorem d_Md_init_86 : decode b_Md_init 86 = .ok (.sipush 1024, 3) := by decide +kernel
theorem d_Md_init_89 : decode b_Md_init 89 = .ok (.newarray .int, 2) := by decide +kernel
theorem d_Md_init_91 : decode b_Md_init 91 = .ok (.putfield 37, 3) := by decide +kernel
theorem d_Md_init_94 : decode b_Md_init 94 = .ok (.aload_n 0, 1) := by decide +kernel
theorem d_Md_init_95 : decode b_Md_init 95 = .ok (.iconst 3, 1) := by decide +kernel
theorem d_Md_init_96 : decode b_Md_init 96 = .ok (.newarray .int, 2) := by decide +kernel
theorem d_Md_init_98 : decode b_Md_init 98 = .ok (.dup, 1) := by decide +kernel
theorem d_Md_init_99 : decode b_Md_init 99 = .ok (.iconst 0, 1) := by decide +kernel
theorem d_Md_init_100 : decode b_Md_init 100 = .ok (.iconst (-1), 1) := by decide +kernel
theorem d_Md_init_101 : decode b_Md_init 101 = .ok (.iastore, 1) := by decide +kernel
theorem d_Md_init_102 : decode b_Md_init 102 = .ok (.dup, 1) := by decide +kernel
theorem d_Md_init_103 : decode b_Md_init 103 = .ok (.iconst 1, 1) := by decide +kernel
theorem d_Md_init_104 : decode b_Md_init 104 = .ok (.iconst (-1), 1) := by decide +kernel
theorem d_Md_init_105 : decode b_Md_init 105 = .ok (.iastore, 1) := by decide +kernel
theorem d_Md_init_106 : decode b_Md_init 106 = .ok (.dup, 1) := by decide +kernel
theorem d_Md_init_107 : decode b_Md_init 107 = .ok (.iconst 2, 1) := by decide +kernel
theorem d_Md_init_108 : decode b_Md_init 108 = .ok (.iconst (-1), 1) := by decide +kernel
theorem d_Md_init_109 : decode b_Md_init 109 = .ok (.iastore, 1) := by decide +kernel
theorem d_Md_init_110 : decode b_Md_init 110 = .ok (.putfield 40, 3) := by decide +kernel
theorem d_Md_init_113 : decode b_Md_init 113 = .ok (.aload_n 0, 1) := by decide +kernel
theorem d_Md_init_114 : decode b_Md_init 114 = .ok (.iload_n 1, 1) := by decide +kernel
theorem d_Md_init_115 : decode b_Md_init 115 = .ok (.iconst 1, 1) := by decide +kernel
theorem d_Md_init_116 : decode b_Md_init 116 = .ok (.if_icmp .ge 7, 3) := by decide +kernel
theorem d_Md_init_119 : decode b_Md_init 119 = .ok (.iconst 1, 1) := by decide +kernel
theorem d_Md_init_120 : decode b_Md_init 120 = .ok (.goto 17, 3) := by decide +kernel
theorem d_Md_init_123 : decode b_Md_init 123 = .ok (.iload_n 1, 1) := by decide +kernel
theorem d_Md_init_124 : decode b_Md_init 124 = .ok (.sipush 1024, 3) := by decide +kernel
theorem d_Md_init_127 : decode b_Md_init 127 = .ok (.if_icmp .le 9, 3) := by decide +kernel
theorem d_Md_init_130 : decode b_Md_init 130 = .ok (.sipush 1024, 3) := by decide +kernel
theorem d_Md_init_133 : decode b_Md_init 133 = .ok (.goto 4, 3) := by decide +kernel
theorem d_Md_init_136 : decode b_Md_init 136 = .ok (.iload_n 1, 1) := by decide +kernel
theorem d_Md_init_137 : decode b_Md_init 137 = .ok (.putfield 43, 3) := by decide +kernel
theorem d_Md_init_140 : decode b_Md_init 140 = .ok (.return_, 1) := by decide +kernel
theorem d_Nt_init_0 : decode b_Nt_init 0 = .ok (.aload_n 0, 1) := by decide +kernel
theorem d_Nt_init_1 : decode b_Nt_init 1 = .ok (.invokespecial 3, 3) := by decide +kernel
theorem d_Nt_init_4 : decode b_Nt_init 4 = .ok (.aload_n 0, 1) := by decide +kernel
theorem d_Nt_init_5 : decode b_Nt_init 5 = .ok (.aload_n 1, 1) := by decide +kernel
theorem d_Nt_init_6 : decode b_Nt_init 6 = .ok (.putfield 9, 3) := by decide +kernel
theorem d_Nt_init_9 : decode b_Nt_init 9 = .ok (.aload_n 0, 1) := by decide +kernel
theorem d_Nt_init_10 : decode b_Nt_init 10 = .ok (.aload_n 1, 1) := by decide +kernel
theorem d_Nt_init_11 : decode b_Nt_init 11 = .ok (.getfield 15, 3) := by decide +kernel
theorem d_Nt_init_14 : decode b_Nt_init 14 = .ok (.putfield 21, 3) := by decide +kernel
theorem d_Nt_init_17 : decode b_Nt_init 17 = .ok (.aload_n 0, 1) := by decide +kernel
theorem d_Nt_init_18 : decode b_Nt_init 18 = .ok (.new 24, 3) := by decide +kernel
theorem d_Nt_init_21 : decode b_Nt_init 21 = .ok (.dup, 1) := by decide +kernel
theorem d_Nt_init_22 : decode b_Nt_init 22 = .ok (.bipush 6, 2) := by decide +kernel
theorem d_Nt_init_24 : decode b_Nt_init 24 = .ok (.aload_n 1, 1) := by decide +kernel
theorem d_Nt_init_25 : decode b_Nt_init 25 = .ok (.getfield 15, 3) := by decide +kernel
theorem d_Nt_init_28 : decode b_Nt_init 28 = .ok (.imul, 1) := by decide +kernel
theorem d_Nt_init_29 : decode b_Nt_init 29 = .ok (.invokespecial 26, 3) := by decide +kernel
theorem d_Nt_init_32 : decode b_Nt_init 32 = .ok (.putfield 29, 3) := by decide +kernel
theorem d_Nt_init_35 : decode b_Nt_init 35 = .ok (.aload_n 0, 1) := by decide +kernel
theorem d_Nt_init_36 : decode b_Nt_init 36 = .ok (.new 24, 3) := by decide +kernel
theorem d_Nt_init_39 : decode b_Nt_init 39 = .ok (.dup, 1) := by decide +kernel
theorem d_Nt_init_40 : decode b_Nt_init 40 = .ok (.bipush 6, 2) := by decide +kernel
theorem d_Nt_init_42 : decode b_Nt_init 42 = .ok (.aload_n 1, 1) := by decide +kernel
theorem d_Nt_init_43 : decode b_Nt_init 43 = .ok (.getfield 15, 3) := by decide +kernel
theorem d_Nt_init_46 : decode b_Nt_init 46 = .ok (.imul, 1) := by decide +kernel
theorem d_Nt_init_47 : decode b_Nt_init 47 = .ok (.invokespecial 26, 3) := by decide +kernel
theorem d_Nt_init_50 : decode b_Nt_init 50 = .ok (.putfield 33, 3) := by decide +kernel
theorem d_Nt_init_53 : decode b_Nt_init 53 = .ok (.aload_n 0, 1) := by decide +kernel
theorem d_Nt_init_54 : decode b_Nt_init 54 = .ok (.new 24, 3) := by decide +kernel
theorem d_Nt_init_57 : decode b_Nt_init 57 = .ok (.dup, 1) := by decide +kernel
theorem d_Nt_init_58 : decode b_Nt_init 58 = .ok (.aload_n 1, 1) := by decide +kernel
theorem d_Nt_init_59 : decode b_Nt_init 59 = .ok (.getfield 15, 3) := by decide +kernel
theorem d_Nt_init_62 : decode b_Nt_init 62 = .ok (.iconst 1, 1) := by decide +kernel
theorem d_Nt_init_63 : decode b_Nt_init 63 = .ok (.iadd, 1) := by decide +kernel
theorem d_Nt_init_64 : decode b_Nt_init 64 = .ok (.invokespecial 26, 3) := by decide +kernel
theorem d_Nt_init_67 : decode b_Nt_init 67 = .ok (.putfield 36, 3) := by decide +kernel
theorem d_Nt_init_70 : decode b_Nt_init 70 = .ok (.aload_n 0, 1) := by decide +kernel
theorem d_Nt_init_71 : decode b_Nt_init 71 = .ok (.new 24, 3) := by decide +kernel
theorem d_Nt_init_74 : decode b_Nt_init 74 = .ok (.dup, 1) := by decide +kernel
theorem d_Nt_init_75 : decode b_Nt_init 75 = .ok (.iconst 2, 1) := by decide +kernel
theorem d_Nt_init_76 : decode b_Nt_init 76 = .ok (.aload_n 1, 1) := by decide +kernel
theorem d_Nt_init_77 : decode b_Nt_init 77 = .ok (.getfield 15, 3) := by decide +kernel
theorem d_Nt_init_80 : decode b_Nt_init 80 = .ok (.imul, 1) := by decide +kernel
theorem d_Nt_init_81 : decode b_Nt_init 81 = .ok (.invokespecial 26, 3) := by decide +kernel
theorem d_Nt_init_84 : decode b_Nt_init 84 = .ok (.putfield 39, 3) := by decide +kernel
theorem d_Nt_init_87 : decode b_Nt_init 87 = .ok (.aload_n 0, 1) := by decide +kernel
theorem d_Nt_init_88 : decode b_Nt_init 88 = .ok (.new 24, 3) := by decide +kernel
theorem d_Nt_init_91 : decode b_Nt_init 91 = .ok (.dup, 1) := by decide +kernel
theorem d_Nt_init_92 : decode b_Nt_init 92 = .ok (.iconst 2, 1) := by decide +kernel
theorem d_Nt_init_93 : decode b_Nt_init 93 = .ok (.aload_n 1, 1) := by decide +kernel
theorem d_Nt_init_94 : decode b_Nt_init 94 = .ok (.getfield 15, 3) := by decide +kernel
theorem d_Nt_init_97 : decode b_Nt_init 97 = .ok (.imul, 1) := by decide +kernel
theorem d_Nt_init_98 : decode b_Nt_init 98 = .ok (.invokespecial 26, 3) := by decide +kernel
theorem d_Nt_init_101 : decode b_Nt_init 101 = .ok (.putfield 42, 3) := by decide +kernel
theorem d_Nt_init_104 : decode b_Nt_init 104 = .ok (.aload_n 0, 1) := by decide +kernel
theorem d_Nt_init_105 : decode b_Nt_init 105 = .ok (.new 24, 3) := by decide +kernel
theorem d_Nt_init_108 : decode b_Nt_init 108 = .ok (.dup, 1) := by decide +kernel
theorem d_Nt_init_109 : decode b_Nt_init 109 = .ok (.iconst 2, 1) := by decide +kernel
theorem d_Nt_init_110 : decode b_Nt_init 110 = .ok (.aload_n 1, 1) := by decide +kernel
theorem d_Nt_init_111 : decode b_Nt_init 111 = .ok (.getfield 15, 3) := by decide +kernel
theorem d_Nt_init_114 : decode b_Nt_init 114 = .ok (.imul, 1) := by decide +kernel
theorem d_Nt_init_115 : decode b_Nt_init 115 = .ok (.invokespecial 26, 3) := by decide +kernel
theorem d_Nt_init_118 : decode b_Nt_init 118 = .ok (.putfield 45, 3) := by decide +kernel
theorem d_Nt_init_121 : decode b_Nt_init 121 = .ok (.aload_n 0, 1) := by decide +kernel
theorem d_Nt_init_122 : decode b_Nt_init 122 = .ok (.iconst 0, 1) := by decide +kernel
theorem d_Nt_init_123 : decode b_Nt_init 123 = .ok (.putfield 48, 3) := by decide +kernel
theorem d_Nt_init_126 : decode b_Nt_init 126 = .ok (.aload_n 0, 1) := by decide +kernel
theorem d_Nt_init_127 : decode b_Nt_init 127 = .ok (.iconst 0, 1) := by decide +kernel
theorem d_Nt_init_128 : decode b_Nt_init 128 = .ok (.putfield 51, 3) := by decide +kernel
theorem d_Nt_init_131 : decode b_Nt_init 131 = .ok (.aload_n 0, 1) := by decide +kernel
theorem d_Nt_init_132 : decode b_Nt_init 132 = .ok (.iconst 0, 1) := by decide +kernel
theorem d_Nt_init_133 : decode b_Nt_init 133 = .ok (.putfield 54, 3) := by decide +kernel
theorem d_Nt_init_136 : decode b_Nt_init 136 = .ok (.aload_n 0, 1) := by decide +kernel
theorem d_Nt_init_137 : decode b_Nt_init 137 = .ok (.iconst 0, 1) := by decide +kernel
theorem d_Nt_init_138 : decode b_Nt_init 138 = .ok (.putfield 57, 3) := by decide +kernel
theorem d_Nt_init_141 : decode b_Nt_init 141 = .ok (.aload_n 0, 1) := by decide +kernel
theorem d_Nt_init_142 : decode b_Nt_init 142 = .ok (.iconst 0, 1) := by decide +kernel
theorem d_Nt_init_143 : decode b_Nt_init 143 = .ok (.putfield 60, 3) := by decide +kernel
theorem d_Nt_init_146 : decode b_Nt_init 146 = .ok (.return_, 1) := by decide +kernel
theorem d_Ol_init_0 : decode b_Ol_init 0 = .ok (.aload_n 0, 1) := by decide +kernel
theorem d_Ol_init_1 : decode b_Ol_init 1 = .ok (.invokespecial 3, 3) := by decide +kernel
theorem d_Ol_init_4 : decode b_Ol_init 4 = .ok (.aload_n 0, 1) := by decide +kernel
theorem d_Ol_init_5 : decode b_Ol_init 5 = .ok (.aload_n 1, 1) := by decide +kernel
theorem d_Ol_init_6 : decode b_Ol_init 6 = .ok (.putfield 9, 3) := by decide +kernel
theorem d_Ol_init_9 : decode b_Ol_init 9 = .ok (.aload_n 0, 1) := by decide +kernel
theorem d_Ol_init_10 : decode b_Ol_init 10 = .ok (.aload_n 2, 1) := by decide +kernel
theorem d_Ol_init_11 : decode b_Ol_init 11 = .ok (.putfield 15, 3) := by decide +kernel
theorem d_Ol_init_14 : decode b_Ol_init 14 = .ok (.aload_n 0, 1) := by decide +kernel
theorem d_Ol_init_15 : decode b_Ol_init 15 = .ok (.new 19, 3) := by decide +kernel
theorem d_Ol_init_18 : decode b_Ol_init 18 = .ok (.dup, 1) := by decide +kernel
theorem d_Ol_init_19 : decode b_Ol_init 19 = .ok (.aload_n 1, 1) := by decide +kernel
theorem d_Ol_init_20 : decode b_Ol_init 20 = .ok (.getfield 21, 3) := by decide +kernel
theorem d_Ol_init_23 : decode b_Ol_init 23 = .ok (.invokespecial 27, 3) := by decide +kernel
theorem d_Ol_init_26 : decode b_Ol_init 26 = .ok (.putfield 30, 3) := by decide +kernel
theorem d_Ol_init_29 : decode b_Ol_init 29 = .ok (.aload_n 0, 1) := by decide +kernel
theorem d_Ol_init_30 : decode b_Ol_init 30 = .ok (.iconst 0, 1) := by decide +kernel
theorem d_Ol_init_31 : decode b_Ol_init 31 = .ok (.putfield 34, 3) := by decide +kernel
theorem d_Ol_init_34 : decode b_Ol_init 34 = .ok (.aload_n 0, 1) := by decide +kernel
theorem d_Ol_init_35 : decode b_Ol_init 35 = .ok (.iconst 0, 1) := by decide +kernel
theorem d_Ol_init_36 : decode b_Ol_init 36 = .ok (.putfield 37, 3) := by decide +kernel
theorem d_Ol_init_39 : decode b_Ol_init 39 = .ok (.return_, 1) := by decide +kernel
theorem d_Pt_init_0 : decode b_Pt_init 0 = .ok (.aload_n 0, 1) := by decide +kernel
theorem d_Pt_init_1 : decode b_Pt_init 1 = .ok (.invokespecial 3, 3) := by decide +kernel
theorem d_Pt_init_4 : decode b_Pt_init 4 = .ok (.aload_n 0, 1) := by decide +kernel
theorem d_Pt_init_5 : decode b_Pt_init 5 = .ok (.iload_n 1, 1) := by decide +kernel
theorem d_Pt_init_6 : decode b_Pt_init 6 = .ok (.putfield 9, 3) := by decide +kernel
theorem d_Pt_init_9 : decode b_Pt_init 9 = .ok (.aload_n 0, 1) := by decide +kernel
theorem d_Pt_init_10 : decode b_Pt_init 10 = .ok (.iconst 0, 1) := by decide +kernel
theorem d_Pt_init_11 : decode b_Pt_init 11 = .ok (.putfield 15, 3) := by decide +kernel
theorem d_Pt_init_14 : decode b_Pt_init 14 = .ok (.aload_n 0, 1) := by decide +kernel
theorem d_Pt_init_15 : decode b_Pt_init 15 = .ok (.new 18, 3) := by decide +kernel
theorem d_Pt_init_18 : decode b_Pt_init 18 = .ok (.dup, 1) := by decide +kernel
theorem d_Pt_init_19 : decode b_Pt_init 19 = .ok (.iload_n 1, 1) := by decide +kernel
theorem d_Pt_init_20 : decode b_Pt_init 20 = .ok (.invokespecial 20, 3) := by decide +kernel
theorem d_Pt_init_23 : decode b_Pt_init 23 = .ok (.putfield 23, 3) := by decide +kernel
theorem d_Pt_init_26 : decode b_Pt_init 26 = .ok (.aload_n 0, 1) := by decide +kernel
theorem d_Pt_init_27 : decode b_Pt_init 27 = .ok (.new 18, 3) := by decide +kernel
theorem d_Pt_init_30 : decode b_Pt_init 30 = .ok (.dup, 1) := by decide +kernel
theorem d_Pt_init_31 : decode b_Pt_init 31 = .ok (.iload_n 1, 1) := by decide +kernel
theorem d_Pt_init_32 : decode b_Pt_init 32 = .ok (.invokespecial 20, 3) := by decide +kernel
theorem d_Pt_init_35 : decode b_Pt_init 35 = .ok (.putfield 27, 3) := by decide +kernel
theorem d_Pt_init_38 : decode b_Pt_init 38 = .ok (.aload_n 0, 1) := by decide +kernel
theorem d_Pt_init_39 : decode b_Pt_init 39 = .ok (.new 30, 3) := by decide +kernel
theorem d_Pt_init_42 : decode b_Pt_init 42 = .ok (.dup, 1) := by decide +kernel
theorem d_Pt_init_43 : decode b_Pt_init 43 = .ok (.invokespecial 32, 3) := by decide +kernel
theorem d_Pt_init_46 : decode b_Pt_init 46 = .ok (.putfield 33, 3) := by decide +kernel
theorem d_Pt_init_49 : decode b_Pt_init 49 = .ok (.return_, 1) := by decide +kernel
theorem d_Rl_init_0 : decode b_Rl_init 0 = .ok (.aload_n 0, 1) := by decide +kernel
theorem d_Rl_init_1 : decode b_Rl_init 1 = .ok (.invokespecial 1, 3) := by decide +kernel
theorem d_Rl_init_4 : decode b_Rl_init 4 = .ok (.aload_n 0, 1) := by decide +kernel
theorem d_Rl_init_5 : decode b_Rl_init 5 = .ok (.aload_n 1, 1) := by decide +kernel
theorem d_Rl_init_6 : decode b_Rl_init 6 = .ok (.putfield 7, 3) := by decide +kernel
theorem d_Rl_init_9 : decode b_Rl_init 9 = .ok (.aload_n 0, 1) := by decide +kernel
theorem d_Rl_init_10 : decode b_Rl_init 10 = .ok (.aload_n 2, 1) := by decide +kernel
theorem d_Rl_init_11 : decode b_Rl_init 11 = .ok (.putfield 13, 3) := by decide +kernel
theorem d_Rl_init_14 : decode b_Rl_init 14 = .ok (.aload_n 0, 1) := by decide +kernel
theorem d_Rl_init_15 : decode b_Rl_init 15 = .ok (.new 17, 3) := by decide +kernel
theorem d_Rl_init_18 : decode b_Rl_init 18 = .ok (.dup, 1) := by decide +kernel
theorem d_Rl_init_19 : decode b_Rl_init 19 = .ok (.iconst 2, 1) := by decide +kernel
theorem d_Rl_init_20 : decode b_Rl_init 20 = .ok (.aload_n 1, 1) := by decide +kernel
theorem d_Rl_init_21 : decode b_Rl_init 21 = .ok (.getfield 19, 3) := by decide +kernel
theorem d_Rl_init_24 : decode b_Rl_init 24 = .ok (.imul, 1) := by decide +kernel
theorem d_Rl_init_25 : decode b_Rl_init 25 = .ok (.invokespecial 25, 3) := by decide +kernel
theorem d_Rl_init_28 : decode b_Rl_init 28 = .ok (.putfield 28, 3) := by decide +kernel
theorem d_Rl_init_31 : decode b_Rl_init 31 = .ok (.aload_n 0, 1) := by decide +kernel
theorem d_Rl_init_32 : decode b_Rl_init 32 = .ok (.new 17, 3) := by decide +kernel
theorem d_Rl_init_35 : decode b_Rl_init 35 = .ok (.dup, 1) := by decide +kernel
theorem d_Rl_init_36 : decode b_Rl_init 36 = .ok (.iconst 2, 1) := by decide +kernel
theorem d_Rl_init_37 : decode b_Rl_init 37 = .ok (.aload_n 1, 1) := by decide +kernel
theorem d_Rl_init_38 : decode b_Rl_init 38 = .ok (.getfield 19, 3) := by decide +kernel
theorem d_Rl_init_41 : decode b_Rl_init 41 = .ok (.imul, 1) := by decide +kernel
theorem d_Rl_init_42 : decode b_Rl_init 42 = .ok (.invokespecial 25, 3) := by decide +kernel
theorem d_Rl_init_45 : decode b_Rl_init 45 = .ok (.putfield 32, 3) := by decide +kernel
theorem d_Rl_init_48 : decode b_Rl_init 48 = .ok (.aload_n 0, 1) := by decide +kernel
theorem d_Rl_init_49 : decode b_Rl_init 49 = .ok (.new 17, 3) := by decide +kernel
theorem d_Rl_init_52 : decode b_Rl_init 52 = .ok (.dup, 1) := by decide +kernel
theorem d_Rl_init_53 : decode b_Rl_init 53 = .ok (.aload_n 1, 1) := by decide +kernel
theorem d_Rl_init_54 : decode b_Rl_init 54 = .ok (.getfield 19, 3) := by decide +kernel
theorem d_Rl_init_57 : decode b_Rl_init 57 = .ok (.iconst 1, 1) := by decide +kernel
theorem d_Rl_init_58 : decode b_Rl_init 58 = .ok (.iadd, 1) := by decide +kernel
theorem d_Rl_init_59 : decode b_Rl_init 59 = .ok (.invokespecial 25, 3) := by decide +kernel
theorem d_Rl_init_62 : decode b_Rl_init 62 = .ok (.putfield 35, 3) := by decide +kernel
theorem d_Rl_init_65 : decode b_Rl_init 65 = .ok (.aload_n 0, 1) := by decide +kernel
theorem d_Rl_init_66 : decode b_Rl_init 66 = .ok (.iconst 0, 1) := by decide +kernel
theorem d_Rl_init_67 : decode b_Rl_init 67 = .ok (.putfield 38, 3) := by decide +kernel
theorem d_Rl_init_70 : decode b_Rl_init 70 = .ok (.return_, 1) := by decide +kernel
theorem d_Rw_init_0 : decode b_Rw_init 0 = .ok (.aload_n 0, 1) := by decide +kernel
theorem d_Rw_init_1 : decode b_Rw_init 1 = .ok (.invokespecial 1, 3) := by decide +kernel
theorem d_Rw_init_4 : decode b_Rw_init 4 = .ok (.aload_n 0, 1) := by decide +kernel
theorem d_Rw_init_5 : decode b_Rw_init 5 = .ok (.iload_n 1, 1) := by decide +kernel
theorem d_Rw_init_6 : decode b_Rw_init 6 = .ok (.ifCond .le 14, 3) := by decide +kernel
theorem d_Rw_init_9 : decode b_Rw_init 9 = .ok (.iload_n 1, 1) := by decide +kernel
theorem d_Rw_init_10 : decode b_Rw_init 10 = .ok (.iconst 1, 1) := by decide +kernel
theorem d_Rw_init_11 : decode b_Rw_init 11 = .ok (.isub, 1) := by decide +kernel
theorem d_Rw_init_12 : decode b_Rw_init 12 = .ok (.bipush 32, 2) := by decide +kernel
theorem d_Rw_init_14 : decode b_Rw_init 14 = .ok (.idiv, 1) := by decide +kernel
theorem d_Rw_init_15 : decode b_Rw_init 15 = .ok (.iconst 1, 1) := by decide +kernel
theorem d_Rw_init_16 : decode b_Rw_init 16 = .ok (.iadd, 1) := by decide +kernel
theorem d_Rw_init_17 : decode b_Rw_init 17 = .ok (.goto 4, 3) := by decide +kernel
theorem d_Rw_init_20 : decode b_Rw_init 20 = .ok (.iconst 0, 1) := by decide +kernel
theorem d_Rw_init_21 : decode b_Rw_init 21 = .ok (.anewarray 9, 3) := by decide +kernel
theorem d_Rw_init_24 : decode b_Rw_init 24 = .ok (.putfield 11, 3) := by decide +kernel
theorem d_Rw_init_27 : decode b_Rw_init 27 = .ok (.aload_n 0, 1) := by decide +kernel
theorem d_Rw_init_28 : decode b_Rw_init 28 = .ok (.iconst 0, 1) := by decide +kernel
theorem d_Rw_init_29 : decode b_Rw_init 29 = .ok (.putfield 15, 3) := by decide +kernel
theorem d_Rw_init_32 : decode b_Rw_init 32 = .ok (.return_, 1) := by decide +kernel
theorem d_Wd_init_0 : decode b_Wd_init 0 = .ok (.aload_n 0, 1) := by decide +kernel
theorem d_Wd_init_1 : decode b_Wd_init 1 = .ok (.invokespecial 1, 3) := by decide +kernel
theorem d_Wd_init_4 : decode b_Wd_init 4 = .ok (.aload_n 0, 1) := by decide +kernel
theorem d_Wd_init_5 : decode b_Wd_init 5 = .ok (.lconst 0, 1) := by decide +kernel
theorem d_Wd_init_6 : decode b_Wd_init 6 = .ok (.putfield 7, 3) := by decide +kernel
theorem d_Wd_init_9 : decode b_Wd_init 9 = .ok (.aload_n 0, 1) := by decide +kernel
theorem d_Wd_init_10 : decode b_Wd_init 10 = .ok (.lconst 0, 1) := by decide +kernel
theorem d_Wd_init_11 : decode b_Wd_init 11 = .ok (.putfield 13, 3) := by decide +kernel
theorem d_Wd_init_14 : decode b_Wd_init 14 = .ok (.return_, 1) := by decide +kernel
