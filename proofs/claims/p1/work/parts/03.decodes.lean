theorem d_Pn_write_0 : decode b_Pn_write 0 = .ok (.iload_n 1, 1) := by decide +kernel
theorem d_Pn_write_1 : decode b_Pn_write 1 = .ok (.ifCond .lt 13, 3) := by decide +kernel
theorem d_Pn_write_4 : decode b_Pn_write 4 = .ok (.iload_n 1, 1) := by decide +kernel
theorem d_Pn_write_5 : decode b_Pn_write 5 = .ok (.aload_n 0, 1) := by decide +kernel
theorem d_Pn_write_6 : decode b_Pn_write 6 = .ok (.arraylength, 1) := by decide +kernel
theorem d_Pn_write_7 : decode b_Pn_write 7 = .ok (.if_icmp .ge 7, 3) := by decide +kernel
theorem d_Pn_write_10 : decode b_Pn_write 10 = .ok (.aload_n 0, 1) := by decide +kernel
theorem d_Pn_write_11 : decode b_Pn_write 11 = .ok (.iload_n 1, 1) := by decide +kernel
theorem d_Pn_write_12 : decode b_Pn_write 12 = .ok (.iload_n 2, 1) := by decide +kernel
theorem d_Pn_write_13 : decode b_Pn_write 13 = .ok (.iastore, 1) := by decide +kernel
theorem d_Pn_write_14 : decode b_Pn_write 14 = .ok (.return_, 1) := by decide +kernel
theorem d_Pn_read_0 : decode b_Pn_read 0 = .ok (.iload_n 1, 1) := by decide +kernel
theorem d_Pn_read_1 : decode b_Pn_read 1 = .ok (.ifCond .lt 15, 3) := by decide +kernel
theorem d_Pn_read_4 : decode b_Pn_read 4 = .ok (.iload_n 1, 1) := by decide +kernel
theorem d_Pn_read_5 : decode b_Pn_read 5 = .ok (.aload_n 0, 1) := by decide +kernel
theorem d_Pn_read_6 : decode b_Pn_read 6 = .ok (.arraylength, 1) := by decide +kernel
theorem d_Pn_read_7 : decode b_Pn_read 7 = .ok (.if_icmp .ge 9, 3) := by decide +kernel
theorem d_Pn_read_10 : decode b_Pn_read 10 = .ok (.aload_n 0, 1) := by decide +kernel
theorem d_Pn_read_11 : decode b_Pn_read 11 = .ok (.iload_n 1, 1) := by decide +kernel
theorem d_Pn_read_12 : decode b_Pn_read 12 = .ok (.iaload, 1) := by decide +kernel
theorem d_Pn_read_13 : decode b_Pn_read 13 = .ok (.goto 4, 3) := by decide +kernel
theorem d_Pn_read_16 : decode b_Pn_read 16 = .ok (.iconst 0, 1) := by decide +kernel
theorem d_Pn_read_17 : decode b_Pn_read 17 = .ok (.ireturn, 1) := by decide +kernel
theorem d_Wd_reset_0 : decode b_Wd_reset 0 = .ok (.aload_n 0, 1) := by decide +kernel
theorem d_Wd_reset_1 : decode b_Wd_reset 1 = .ok (.lconst 0, 1) := by decide +kernel
theorem d_Wd_reset_2 : decode b_Wd_reset 2 = .ok (.putfield 7, 3) := by decide +kernel
theorem d_Wd_reset_5 : decode b_Wd_reset 5 = .ok (.aload_n 0, 1) := by decide +kernel
theorem d_Wd_reset_6 : decode b_Wd_reset 6 = .ok (.lconst 0, 1) := by decide +kernel
theorem d_Wd_reset_7 : decode b_Wd_reset 7 = .ok (.putfield 13, 3) := by decide +kernel
theorem d_Wd_reset_10 : decode b_Wd_reset 10 = .ok (.return_, 1) := by decide +kernel
theorem d_Wd_addProduct_0 : decode b_Wd_addProduct 0 = .ok (.lload_n 1, 1) := by decide +kernel
theorem d_Wd_addProduct_1 : decode b_Wd_addProduct 1 = .ok (.bipush 32, 2) := by decide +kernel
theorem d_Wd_addProduct_3 : decode b_Wd_addProduct 3 = .ok (.lshr, 1) := by decide +kernel
theorem d_Wd_addProduct_4 : decode b_Wd_addProduct 4 = .ok (.lstore 5, 2) := by decide +kernel
theorem d_Wd_addProduct_6 : decode b_Wd_addProduct 6 = .ok (.lload_n 1, 1) := by decide +kernel
theorem d_Wd_addProduct_7 : decode b_Wd_addProduct 7 = .ok (.ldc2_w 16, 3) := by decide +kernel
theorem d_Wd_addProduct_10 : decode b_Wd_addProduct 10 = .ok (.land, 1) := by decide +kernel
theorem d_Wd_addProduct_11 : decode b_Wd_addProduct 11 = .ok (.lstore 7, 2) := by decide +kernel
theorem d_Wd_addProduct_13 : decode b_Wd_addProduct 13 = .ok (.lload_n 3, 1) := by decide +kernel
theorem d_Wd_addProduct_14 : decode b_Wd_addProduct 14 = .ok (.bipush 32, 2) := by decide +kernel
theorem d_Wd_addProduct_16 : decode b_Wd_addProduct 16 = .ok (.lshr, 1) := by decide +kernel
theorem d_Wd_addProduct_17 : decode b_Wd_addProduct 17 = .ok (.lstore 9, 2) := by decide +kernel
theorem d_Wd_addProduct_19 : decode b_Wd_addProduct 19 = .ok (.lload_n 3, 1) := by decide +kernel
theorem d_Wd_addProduct_20 : decode b_Wd_addProduct 20 = .ok (.ldc2_w 16, 3) := by decide +kernel
theorem d_Wd_addProduct_23 : decode b_Wd_addProduct 23 = .ok (.land, 1) := by decide +kernel
theorem d_Wd_addProduct_24 : decode b_Wd_addProduct 24 = .ok (.lstore 11, 2) := by decide +kernel
theorem d_Wd_addProduct_26 : decode b_Wd_addProduct 26 = .ok (.lload 5, 2) := by decide +kernel
theorem d_Wd_addProduct_28 : decode b_Wd_addProduct 28 = .ok (.lload 11, 2) := by decide +kernel
theorem d_Wd_addProduct_30 : decode b_Wd_addProduct 30 = .ok (.lmul, 1) := by decide +kernel
theorem d_Wd_addProduct_31 : decode b_Wd_addProduct 31 = .ok (.lload 7, 2) := by decide +kernel
theorem d_Wd_addProduct_33 : decode b_Wd_addProduct 33 = .ok (.lload 11, 2) := by decide +kernel
theorem d_Wd_addProduct_35 : decode b_Wd_addProduct 35 = .ok (.lmul, 1) := by decide +kernel
theorem d_Wd_addProduct_36 : decode b_Wd_addProduct 36 = .ok (.bipush 32, 2) := by decide +kernel
theorem d_Wd_addProduct_38 : decode b_Wd_addProduct 38 = .ok (.lushr, 1) := by decide +kernel
theorem d_Wd_addProduct_39 : decode b_Wd_addProduct 39 = .ok (.ladd, 1) := by decide +kernel
theorem d_Wd_addProduct_40 : decode b_Wd_addProduct 40 = .ok (.lstore 13, 2) := by decide +kernel
theorem d_Wd_addProduct_42 : decode b_Wd_addProduct 42 = .ok (.lload 7, 2) := by decide +kernel
theorem d_Wd_addProduct_44 : decode b_Wd_addProduct 44 = .ok (.lload 9, 2) := by decide +kernel
theorem d_Wd_addProduct_46 : decode b_Wd_addProduct 46 = .ok (.lmul, 1) := by decide +kernel
theorem d_Wd_addProduct_47 : decode b_Wd_addProduct 47 = .ok (.lload 13, 2) := by decide +kernel
theorem d_Wd_addProduct_49 : decode b_Wd_addProduct 49 = .ok (.ldc2_w 16, 3) := by decide +kernel
theorem d_Wd_addProduct_52 : decode b_Wd_addProduct 52 = .ok (.land, 1) := by decide +kernel
theorem d_Wd_addProduct_53 : decode b_Wd_addProduct 53 = .ok (.ladd, 1) := by decide +kernel
theorem d_Wd_addProduct_54 : decode b_Wd_addProduct 54 = .ok (.lstore 15, 2) := by decide +kernel
theorem d_Wd_addProduct_56 : decode b_Wd_addProduct 56 = .ok (.lload 5, 2) := by decide +kernel
theorem d_Wd_addProduct_58 : decode b_Wd_addProduct 58 = .ok (.lload 9, 2) := by decide +kernel
theorem d_Wd_addProduct_60 : decode b_Wd_addProduct 60 = .ok (.lmul, 1) := by decide +kernel
theorem d_Wd_addProduct_61 : decode b_Wd_addProduct 61 = .ok (.lload 13, 2) := by decide +kernel
theorem d_Wd_addProduct_63 : decode b_Wd_addProduct 63 = .ok (.bipush 32, 2) := by decide +kernel
theorem d_Wd_addProduct_65 : decode b_Wd_addProduct 65 = .ok (.lshr, 1) := by decide +kernel
theorem d_Wd_addProduct_66 : decode b_Wd_addProduct 66 = .ok (.ladd, 1) := by decide +kernel
theorem d_Wd_addProduct_67 : decode b_Wd_addProduct 67 = .ok (.lload 15, 2) := by decide +kernel
theorem d_Wd_addProduct_69 : decode b_Wd_addProduct 69 = .ok (.bipush 32, 2) := by decide +kernel
theorem d_Wd_addProduct_71 : decode b_Wd_addProduct 71 = .ok (.lshr, 1) := by decide +kernel
theorem d_Wd_addProduct_72 : decode b_Wd_addProduct 72 = .ok (.ladd, 1) := by decide +kernel
theorem d_Wd_addProduct_73 : decode b_Wd_addProduct 73 = .ok (.lstore 17, 2) := by decide +kernel
theorem d_Wd_addProduct_75 : decode b_Wd_addProduct 75 = .ok (.lload_n 1, 1) := by decide +kernel
theorem d_Wd_addProduct_76 : decode b_Wd_addProduct 76 = .ok (.lload_n 3, 1) := by decide +kernel
theorem d_Wd_addProduct_77 : decode b_Wd_addProduct 77 = .ok (.lmul, 1) := by decide +kernel
theorem d_Wd_addProduct_78 : decode b_Wd_addProduct 78 = .ok (.lstore 19, 2) := by decide +kernel
theorem d_Wd_addProduct_80 : decode b_Wd_addProduct 80 = .ok (.aload_n 0, 1) := by decide +kernel
theorem d_Wd_addProduct_81 : decode b_Wd_addProduct 81 = .ok (.getfield 13, 3) := by decide +kernel
theorem d_Wd_addProduct_84 : decode b_Wd_addProduct 84 = .ok (.lload 19, 2) := by decide +kernel
theorem d_Wd_addProduct_86 : decode b_Wd_addProduct 86 = .ok (.ladd, 1) := by decide +kernel
theorem d_Wd_addProduct_87 : decode b_Wd_addProduct 87 = .ok (.lstore 21, 2) := by decide +kernel
theorem d_Wd_addProduct_89 : decode b_Wd_addProduct 89 = .ok (.aload_n 0, 1) := by decide +kernel
theorem d_Wd_addProduct_90 : decode b_Wd_addProduct 90 = .ok (.getfield 13, 3) := by decide +kernel
theorem d_Wd_addProduct_93 : decode b_Wd_addProduct 93 = .ok (.lload 19, 2) := by decide +kernel
theorem d_Wd_addProduct_95 : decode b_Wd_addProduct 95 = .ok (.land, 1) := by decide +kernel
theorem d_Wd_addProduct_96 : decode b_Wd_addProduct 96 = .ok (.aload_n 0, 1) := by decide +kernel
theorem d_Wd_addProduct_97 : decode b_Wd_addProduct 97 = .ok (.getfield 13, 3) := by decide +kernel
theorem d_Wd_addProduct_100 : decode b_Wd_addProduct 100 = .ok (.lload 19, 2) := by decide +kernel
theorem d_Wd_addProduct_102 : decode b_Wd_addProduct 102 = .ok (.lor, 1) := by decide +kernel
theorem d_Wd_addProduct_103 : decode b_Wd_addProduct 103 = .ok (.lload 21, 2) := by decide +kernel
theorem d_Wd_addProduct_105 : decode b_Wd_addProduct 105 = .ok (.ldc2_w 18, 3) := by decide +kernel
theorem d_Wd_addProduct_108 : decode b_Wd_addProduct 108 = .ok (.lxor, 1) := by decide +kernel
theorem d_Wd_addProduct_109 : decode b_Wd_addProduct 109 = .ok (.land, 1) := by decide +kernel
theorem d_Wd_addProduct_110 : decode b_Wd_addProduct 110 = .ok (.lor, 1) := by decide +kernel
theorem d_Wd_addProduct_111 : decode b_Wd_addProduct 111 = .ok (.bipush 63, 2) := by decide +kernel
theorem d_Wd_addProduct_113 : decode b_Wd_addProduct 113 = .ok (.lushr, 1) := by decide +kernel
theorem d_Wd_addProduct_114 : decode b_Wd_addProduct 114 = .ok (.lstore 23, 2) := by decide +kernel
theorem d_Wd_addProduct_116 : decode b_Wd_addProduct 116 = .ok (.aload_n 0, 1) := by decide +kernel
theorem d_Wd_addProduct_117 : decode b_Wd_addProduct 117 = .ok (.lload 21, 2) := by decide +kernel
theorem d_Wd_addProduct_119 : decode b_Wd_addProduct 119 = .ok (.putfield 13, 3) := by decide +kernel
theorem d_Wd_addProduct_122 : decode b_Wd_addProduct 122 = .ok (.aload_n 0, 1) := by decide +kernel
theorem d_Wd_addProduct_123 : decode b_Wd_addProduct 123 = .ok (.aload_n 0, 1) := by decide +kernel
theorem d_Wd_addProduct_124 : decode b_Wd_addProduct 124 = .ok (.getfield 7, 3) := by decide +kernel
theorem d_Wd_addProduct_127 : decode b_Wd_addProduct 127 = .ok (.lload 17, 2) := by decide +kernel
theorem d_Wd_addProduct_129 : decode b_Wd_addProduct 129 = .ok (.ladd, 1) := by decide +kernel
theorem d_Wd_addProduct_130 : decode b_Wd_addProduct 130 = .ok (.lload 23, 2) := by decide +kernel
theorem d_Wd_addProduct_132 : decode b_Wd_addProduct 132 = .ok (.ladd, 1) := by decide +kernel
theorem d_Wd_addProduct_133 : decode b_Wd_addProduct 133 = .ok (.putfield 7, 3) := by decide +kernel
theorem d_Wd_addProduct_136 : decode b_Wd_addProduct 136 = .ok (.return_, 1) := by decide +kernel
theorem d_Wd_sign_0 : decode b_Wd_sign 0 = .ok (.aload_n 0, 1) := by decide +kernel
theorem d_Wd_sign_1 : decode b_Wd_sign 1 = .ok (.getfield 7, 3) := by decide +kernel
theorem d_Wd_sign_4 : decode b_Wd_sign 4 = .ok (.lconst 0, 1) := by decide +kernel
theorem d_Wd_sign_5 : decode b_Wd_sign 5 = .ok (.lcmp, 1) := by decide +kernel
theorem d_Wd_sign_6 : decode b_Wd_sign 6 = .ok (.ifCond .ge 5, 3) := by decide +kernel
theorem d_Wd_sign_9 : decode b_Wd_sign 9 = .ok (.iconst (-1), 1) := by decide +kernel
theorem d_Wd_sign_10 : decode b_Wd_sign 10 = .ok (.ireturn, 1) := by decide +kernel
theorem d_Wd_sign_11 : decode b_Wd_sign 11 = .ok (.aload_n 0, 1) := by decide +kernel
theorem d_Wd_sign_12 : decode b_Wd_sign 12 = .ok (.getfield 7, 3) := by decide +kernel
theorem d_Wd_sign_15 : decode b_Wd_sign 15 = .ok (.lconst 0, 1) := by decide +kernel
theorem d_Wd_sign_16 : decode b_Wd_sign 16 = .ok (.lcmp, 1) := by decide +kernel
theorem d_Wd_sign_17 : decode b_Wd_sign 17 = .ok (.ifCond .ne 16, 3) := by decide +kernel
theorem d_Wd_sign_20 : decode b_Wd_sign 20 = .ok (.aload_n 0, 1) := by decide +kernel
theorem d_Wd_sign_21 : decode b_Wd_sign 21 = .ok (.getfield 13, 3) := by decide +kernel
theorem d_Wd_sign_24 : decode b_Wd_sign 24 = .ok (.lconst 0, 1) := by decide +kernel
theorem d_Wd_sign_25 : decode b_Wd_sign 25 = .ok (.lcmp, 1) := by decide +kernel
theorem d_Wd_sign_26 : decode b_Wd_sign 26 = .ok (.ifCond .ne 7, 3) := by decide +kernel
theorem d_Wd_sign_29 : decode b_Wd_sign 29 = .ok (.iconst 0, 1) := by decide +kernel
theorem d_Wd_sign_30 : decode b_Wd_sign 30 = .ok (.goto 4, 3) := by decide +kernel
theorem d_Wd_sign_33 : decode b_Wd_sign 33 = .ok (.iconst 1, 1) := by decide +kernel
theorem d_Wd_sign_34 : decode b_Wd_sign 34 = .ok (.ireturn, 1) := by decide +kernel
theorem d_Ar_fill_0 : decode b_Ar_fill 0 = .ok (.iconst 0, 1) := by decide +kernel
theorem d_Ar_fill_1 : decode b_Ar_fill 1 = .ok (.istore_n 2, 1) := by decide +kernel
theorem d_Ar_fill_2 : decode b_Ar_fill 2 = .ok (.aload_n 0, 1) := by decide +kernel
theorem d_Ar_fill_3 : decode b_Ar_fill 3 = .ok (.arraylength, 1) := by decide +kernel
theorem d_Ar_fill_4 : decode b_Ar_fill 4 = .ok (.istore_n 3, 1) := by decide +kernel
theorem d_Ar_fill_5 : decode b_Ar_fill 5 = .ok (.iload_n 2, 1) := by decide +kernel
theorem d_Ar_fill_6 : decode b_Ar_fill 6 = .ok (.iload_n 3, 1) := by decide +kernel
theorem d_Ar_fill_7 : decode b_Ar_fill 7 = .ok (.if_icmp .ge 13, 3) := by decide +kernel
theorem d_Ar_fill_10 : decode b_Ar_fill 10 = .ok (.aload_n 0, 1) := by decide +kernel
theorem d_Ar_fill_11 : decode b_Ar_fill 11 = .ok (.iload_n 2, 1) := by decide +kernel
theorem d_Ar_fill_12 : decode b_Ar_fill 12 = .ok (.iload_n 1, 1) := by decide +kernel
theorem d_Ar_fill_13 : decode b_Ar_fill 13 = .ok (.iastore, 1) := by decide +kernel
theorem d_Ar_fill_14 : decode b_Ar_fill 14 = .ok (.iinc 2 1, 3) := by decide +kernel
theorem d_Ar_fill_17 : decode b_Ar_fill 17 = .ok (.goto (-12), 3) := by decide +kernel
theorem d_Ar_fill_20 : decode b_Ar_fill 20 = .ok (.return_, 1) := by decide +kernel
