/-! each instruction, decoded -/
theorem dX0_init_0 : decode cX0_init 0 = .ok (.aload_n 0, 1) := by decide +kernel
theorem dX0_init_1 : decode cX0_init 1 = .ok (.invokespecial 3, 3) := by decide +kernel
theorem dX0_init_4 : decode cX0_init 4 = .ok (.aload_n 0, 1) := by decide +kernel
theorem dX0_init_5 : decode cX0_init 5 = .ok (.iconst 5, 1) := by decide +kernel
theorem dX0_init_6 : decode cX0_init 6 = .ok (.bipush 16, 2) := by decide +kernel
theorem dX0_init_8 : decode cX0_init 8 = .ok (.multianewarray 9 2, 4) := by decide +kernel
theorem dX0_init_12 : decode cX0_init 12 = .ok (.putfield 11, 3) := by decide +kernel
theorem dX0_init_15 : decode cX0_init 15 = .ok (.aload_n 0, 1) := by decide +kernel
theorem dX0_init_16 : decode cX0_init 16 = .ok (.iconst 5, 1) := by decide +kernel
theorem dX0_init_17 : decode cX0_init 17 = .ok (.bipush 16, 2) := by decide +kernel
theorem dX0_init_19 : decode cX0_init 19 = .ok (.multianewarray 9 2, 4) := by decide +kernel
theorem dX0_init_23 : decode cX0_init 23 = .ok (.putfield 16, 3) := by decide +kernel
theorem dX0_init_26 : decode cX0_init 26 = .ok (.aload_n 0, 1) := by decide +kernel
theorem dX0_init_27 : decode cX0_init 27 = .ok (.bipush 8, 2) := by decide +kernel
theorem dX0_init_29 : decode cX0_init 29 = .ok (.iconst 3, 1) := by decide +kernel
theorem dX0_init_30 : decode cX0_init 30 = .ok (.invokevirtual 19, 3) := by decide +kernel
theorem dX0_init_33 : decode cX0_init 33 = .ok (.return_, 1) := by decide +kernel
theorem dX0_lay_0 : decode cX0_lay 0 = .ok (.aload_n 0, 1) := by decide +kernel
theorem dX0_lay_1 : decode cX0_lay 1 = .ok (.iload_n 1, 1) := by decide +kernel
theorem dX0_lay_2 : decode cX0_lay 2 = .ok (.putfield 23, 3) := by decide +kernel
theorem dX0_lay_5 : decode cX0_lay 5 = .ok (.aload_n 0, 1) := by decide +kernel
theorem dX0_lay_6 : decode cX0_lay 6 = .ok (.iload_n 2, 1) := by decide +kernel
theorem dX0_lay_7 : decode cX0_lay 7 = .ok (.putfield 27, 3) := by decide +kernel
theorem dX0_lay_10 : decode cX0_lay 10 = .ok (.iconst 0, 1) := by decide +kernel
theorem dX0_lay_11 : decode cX0_lay 11 = .ok (.istore_n 3, 1) := by decide +kernel
theorem dX0_lay_12 : decode cX0_lay 12 = .ok (.iload_n 3, 1) := by decide +kernel
theorem dX0_lay_13 : decode cX0_lay 13 = .ok (.iconst 5, 1) := by decide +kernel
theorem dX0_lay_14 : decode cX0_lay 14 = .ok (.if_icmp .ge 45, 3) := by decide +kernel
theorem dX0_lay_17 : decode cX0_lay 17 = .ok (.iconst 0, 1) := by decide +kernel
theorem dX0_lay_18 : decode cX0_lay 18 = .ok (.istore 4, 2) := by decide +kernel
theorem dX0_lay_20 : decode cX0_lay 20 = .ok (.iload 4, 2) := by decide +kernel
theorem dX0_lay_22 : decode cX0_lay 22 = .ok (.bipush 16, 2) := by decide +kernel
theorem dX0_lay_24 : decode cX0_lay 24 = .ok (.if_icmp .ge 29, 3) := by decide +kernel
theorem dX0_lay_27 : decode cX0_lay 27 = .ok (.aload_n 0, 1) := by decide +kernel
theorem dX0_lay_28 : decode cX0_lay 28 = .ok (.getfield 11, 3) := by decide +kernel
theorem dX0_lay_31 : decode cX0_lay 31 = .ok (.iload_n 3, 1) := by decide +kernel
theorem dX0_lay_32 : decode cX0_lay 32 = .ok (.aaload, 1) := by decide +kernel
theorem dX0_lay_33 : decode cX0_lay 33 = .ok (.iload 4, 2) := by decide +kernel
theorem dX0_lay_35 : decode cX0_lay 35 = .ok (.iconst 1, 1) := by decide +kernel
theorem dX0_lay_36 : decode cX0_lay 36 = .ok (.iastore, 1) := by decide +kernel
theorem dX0_lay_37 : decode cX0_lay 37 = .ok (.aload_n 0, 1) := by decide +kernel
theorem dX0_lay_38 : decode cX0_lay 38 = .ok (.getfield 16, 3) := by decide +kernel
theorem dX0_lay_41 : decode cX0_lay 41 = .ok (.iload_n 3, 1) := by decide +kernel
theorem dX0_lay_42 : decode cX0_lay 42 = .ok (.aaload, 1) := by decide +kernel
theorem dX0_lay_43 : decode cX0_lay 43 = .ok (.iload 4, 2) := by decide +kernel
theorem dX0_lay_45 : decode cX0_lay 45 = .ok (.iconst 1, 1) := by decide +kernel
theorem dX0_lay_46 : decode cX0_lay 46 = .ok (.iastore, 1) := by decide +kernel
theorem dX0_lay_47 : decode cX0_lay 47 = .ok (.iinc 4 1, 3) := by decide +kernel
theorem dX0_lay_50 : decode cX0_lay 50 = .ok (.goto (-30), 3) := by decide +kernel
theorem dX0_lay_53 : decode cX0_lay 53 = .ok (.iinc 3 1, 3) := by decide +kernel
theorem dX0_lay_56 : decode cX0_lay 56 = .ok (.goto (-44), 3) := by decide +kernel
theorem dX0_lay_59 : decode cX0_lay 59 = .ok (.return_, 1) := by decide +kernel
theorem dX0_copy_0 : decode cX0_copy 0 = .ok (.aload_n 0, 1) := by decide +kernel
theorem dX0_copy_1 : decode cX0_copy 1 = .ok (.aload_n 1, 1) := by decide +kernel
theorem dX0_copy_2 : decode cX0_copy 2 = .ok (.getfield 23, 3) := by decide +kernel
theorem dX0_copy_5 : decode cX0_copy 5 = .ok (.putfield 23, 3) := by decide +kernel
theorem dX0_copy_8 : decode cX0_copy 8 = .ok (.aload_n 0, 1) := by decide +kernel
theorem dX0_copy_9 : decode cX0_copy 9 = .ok (.aload_n 1, 1) := by decide +kernel
theorem dX0_copy_10 : decode cX0_copy 10 = .ok (.getfield 27, 3) := by decide +kernel
theorem dX0_copy_13 : decode cX0_copy 13 = .ok (.putfield 27, 3) := by decide +kernel
theorem dX0_copy_16 : decode cX0_copy 16 = .ok (.iconst 0, 1) := by decide +kernel
theorem dX0_copy_17 : decode cX0_copy 17 = .ok (.istore_n 2, 1) := by decide +kernel
theorem dX0_copy_18 : decode cX0_copy 18 = .ok (.iload_n 2, 1) := by decide +kernel
theorem dX0_copy_19 : decode cX0_copy 19 = .ok (.iconst 5, 1) := by decide +kernel
theorem dX0_copy_20 : decode cX0_copy 20 = .ok (.if_icmp .ge 55, 3) := by decide +kernel
theorem dX0_copy_23 : decode cX0_copy 23 = .ok (.iconst 0, 1) := by decide +kernel
theorem dX0_copy_24 : decode cX0_copy 24 = .ok (.istore_n 3, 1) := by decide +kernel
theorem dX0_copy_25 : decode cX0_copy 25 = .ok (.iload_n 3, 1) := by decide +kernel
theorem dX0_copy_26 : decode cX0_copy 26 = .ok (.bipush 16, 2) := by decide +kernel
theorem dX0_copy_28 : decode cX0_copy 28 = .ok (.if_icmp .ge 41, 3) := by decide +kernel
theorem dX0_copy_31 : decode cX0_copy 31 = .ok (.aload_n 0, 1) := by decide +kernel
theorem dX0_copy_32 : decode cX0_copy 32 = .ok (.getfield 11, 3) := by decide +kernel
theorem dX0_copy_35 : decode cX0_copy 35 = .ok (.iload_n 2, 1) := by decide +kernel
theorem dX0_copy_36 : decode cX0_copy 36 = .ok (.aaload, 1) := by decide +kernel
theorem dX0_copy_37 : decode cX0_copy 37 = .ok (.iload_n 3, 1) := by decide +kernel
theorem dX0_copy_38 : decode cX0_copy 38 = .ok (.aload_n 1, 1) := by decide +kernel
theorem dX0_copy_39 : decode cX0_copy 39 = .ok (.getfield 11, 3) := by decide +kernel
theorem dX0_copy_42 : decode cX0_copy 42 = .ok (.iload_n 2, 1) := by decide +kernel
theorem dX0_copy_43 : decode cX0_copy 43 = .ok (.aaload, 1) := by decide +kernel
theorem dX0_copy_44 : decode cX0_copy 44 = .ok (.iload_n 3, 1) := by decide +kernel
theorem dX0_copy_45 : decode cX0_copy 45 = .ok (.iaload, 1) := by decide +kernel
theorem dX0_copy_46 : decode cX0_copy 46 = .ok (.iastore, 1) := by decide +kernel
theorem dX0_copy_47 : decode cX0_copy 47 = .ok (.aload_n 0, 1) := by decide +kernel
theorem dX0_copy_48 : decode cX0_copy 48 = .ok (.getfield 16, 3) := by decide +kernel
theorem dX0_copy_51 : decode cX0_copy 51 = .ok (.iload_n 2, 1) := by decide +kernel
theorem dX0_copy_52 : decode cX0_copy 52 = .ok (.aaload, 1) := by decide +kernel
theorem dX0_copy_53 : decode cX0_copy 53 = .ok (.iload_n 3, 1) := by decide +kernel
theorem dX0_copy_54 : decode cX0_copy 54 = .ok (.aload_n 1, 1) := by decide +kernel
theorem dX0_copy_55 : decode cX0_copy 55 = .ok (.getfield 16, 3) := by decide +kernel
theorem dX0_copy_58 : decode cX0_copy 58 = .ok (.iload_n 2, 1) := by decide +kernel
theorem dX0_copy_59 : decode cX0_copy 59 = .ok (.aaload, 1) := by decide +kernel
theorem dX0_copy_60 : decode cX0_copy 60 = .ok (.iload_n 3, 1) := by decide +kernel
theorem dX0_copy_61 : decode cX0_copy 61 = .ok (.iaload, 1) := by decide +kernel
theorem dX0_copy_62 : decode cX0_copy 62 = .ok (.iastore, 1) := by decide +kernel
theorem dX0_copy_63 : decode cX0_copy 63 = .ok (.iinc 3 1, 3) := by decide +kernel
theorem dX0_copy_66 : decode cX0_copy 66 = .ok (.goto (-41), 3) := by decide +kernel
theorem dX0_copy_69 : decode cX0_copy 69 = .ok (.iinc 2 1, 3) := by decide +kernel
theorem dX0_copy_72 : decode cX0_copy 72 = .ok (.goto (-54), 3) := by decide +kernel
theorem dX0_copy_75 : decode cX0_copy 75 = .ok (.return_, 1) := by decide +kernel
theorem dX0_hasAgent_0 : decode cX0_hasAgent 0 = .ok (.iload_n 1, 1) := by decide +kernel
theorem dX0_hasAgent_1 : decode cX0_hasAgent 1 = .ok (.ifCond .lt 15, 3) := by decide +kernel
theorem dX0_hasAgent_4 : decode cX0_hasAgent 4 = .ok (.iload_n 1, 1) := by decide +kernel
theorem dX0_hasAgent_5 : decode cX0_hasAgent 5 = .ok (.aload_n 0, 1) := by decide +kernel
theorem dX0_hasAgent_6 : decode cX0_hasAgent 6 = .ok (.getfield 27, 3) := by decide +kernel
theorem dX0_hasAgent_9 : decode cX0_hasAgent 9 = .ok (.if_icmp .ge 7, 3) := by decide +kernel
theorem dX0_hasAgent_12 : decode cX0_hasAgent 12 = .ok (.iconst 1, 1) := by decide +kernel
theorem dX0_hasAgent_13 : decode cX0_hasAgent 13 = .ok (.goto 4, 3) := by decide +kernel
theorem dX0_hasAgent_16 : decode cX0_hasAgent 16 = .ok (.iconst 0, 1) := by decide +kernel
theorem dX0_hasAgent_17 : decode cX0_hasAgent 17 = .ok (.ireturn, 1) := by decide +kernel
theorem dX0_hasStrip_0 : decode cX0_hasStrip 0 = .ok (.iload_n 1, 1) := by decide +kernel
theorem dX0_hasStrip_1 : decode cX0_hasStrip 1 = .ok (.ifCond .lt 15, 3) := by decide +kernel
theorem dX0_hasStrip_4 : decode cX0_hasStrip 4 = .ok (.iload_n 1, 1) := by decide +kernel
theorem dX0_hasStrip_5 : decode cX0_hasStrip 5 = .ok (.aload_n 0, 1) := by decide +kernel
theorem dX0_hasStrip_6 : decode cX0_hasStrip 6 = .ok (.getfield 23, 3) := by decide +kernel
theorem dX0_hasStrip_9 : decode cX0_hasStrip 9 = .ok (.if_icmp .ge 7, 3) := by decide +kernel
theorem dX0_hasStrip_12 : decode cX0_hasStrip 12 = .ok (.iconst 1, 1) := by decide +kernel
theorem dX0_hasStrip_13 : decode cX0_hasStrip 13 = .ok (.goto 4, 3) := by decide +kernel
theorem dX0_hasStrip_16 : decode cX0_hasStrip 16 = .ok (.iconst 0, 1) := by decide +kernel
theorem dX0_hasStrip_17 : decode cX0_hasStrip 17 = .ok (.ireturn, 1) := by decide +kernel
theorem dX0_row_0 : decode cX0_row 0 = .ok (.iload_n 2, 1) := by decide +kernel
theorem dX0_row_1 : decode cX0_row 1 = .ok (.iconst 1, 1) := by decide +kernel
theorem dX0_row_2 : decode cX0_row 2 = .ok (.if_icmp .ne 12, 3) := by decide +kernel
theorem dX0_row_5 : decode cX0_row 5 = .ok (.aload_n 0, 1) := by decide +kernel
theorem dX0_row_6 : decode cX0_row 6 = .ok (.getfield 16, 3) := by decide +kernel
theorem dX0_row_9 : decode cX0_row 9 = .ok (.iload_n 1, 1) := by decide +kernel
theorem dX0_row_10 : decode cX0_row 10 = .ok (.aaload, 1) := by decide +kernel
theorem dX0_row_11 : decode cX0_row 11 = .ok (.goto 9, 3) := by decide +kernel
theorem dX0_row_14 : decode cX0_row 14 = .ok (.aload_n 0, 1) := by decide +kernel
theorem dX0_row_15 : decode cX0_row 15 = .ok (.getfield 11, 3) := by decide +kernel
theorem dX0_row_18 : decode cX0_row 18 = .ok (.iload_n 1, 1) := by decide +kernel
theorem dX0_row_19 : decode cX0_row 19 = .ok (.aaload, 1) := by decide +kernel
theorem dX0_row_20 : decode cX0_row 20 = .ok (.areturn, 1) := by decide +kernel
theorem dX0_total_0 : decode cX0_total 0 = .ok (.iconst 0, 1) := by decide +kernel
theorem dX0_total_1 : decode cX0_total 1 = .ok (.istore_n 2, 1) := by decide +kernel
theorem dX0_total_2 : decode cX0_total 2 = .ok (.iconst 0, 1) := by decide +kernel
theorem dX0_total_3 : decode cX0_total 3 = .ok (.istore_n 3, 1) := by decide +kernel
theorem dX0_total_4 : decode cX0_total 4 = .ok (.iload_n 3, 1) := by decide +kernel
theorem dX0_total_5 : decode cX0_total 5 = .ok (.aload_n 0, 1) := by decide +kernel
theorem dX0_total_6 : decode cX0_total 6 = .ok (.getfield 23, 3) := by decide +kernel
theorem dX0_total_9 : decode cX0_total 9 = .ok (.if_icmp .ge 15, 3) := by decide +kernel
theorem dX0_total_12 : decode cX0_total 12 = .ok (.iload_n 2, 1) := by decide +kernel
theorem dX0_total_13 : decode cX0_total 13 = .ok (.aload_n 1, 1) := by decide +kernel
theorem dX0_total_14 : decode cX0_total 14 = .ok (.iload_n 3, 1) := by decide +kernel
theorem dX0_total_15 : decode cX0_total 15 = .ok (.iaload, 1) := by decide +kernel
theorem dX0_total_16 : decode cX0_total 16 = .ok (.iadd, 1) := by decide +kernel
theorem dX0_total_17 : decode cX0_total 17 = .ok (.istore_n 2, 1) := by decide +kernel
theorem dX0_total_18 : decode cX0_total 18 = .ok (.iinc 3 1, 3) := by decide +kernel
theorem dX0_total_21 : decode cX0_total 21 = .ok (.goto (-17), 3) := by decide +kernel
theorem dX0_total_24 : decode cX0_total 24 = .ok (.iload_n 2, 1) := by decide +kernel
theorem dX0_total_25 : decode cX0_total 25 = .ok (.ireturn, 1) := by decide +kernel
theorem dX0_moveTold_0 : decode cX0_moveTold 0 = .ok (.aload_n 0, 1) := by decide +kernel
theorem dX0_moveTold_1 : decode cX0_moveTold 1 = .ok (.getfield 16, 3) := by decide +kernel
theorem dX0_moveTold_4 : decode cX0_moveTold 4 = .ok (.iload_n 1, 1) := by decide +kernel
theorem dX0_moveTold_5 : decode cX0_moveTold 5 = .ok (.aaload, 1) := by decide +kernel
theorem dX0_moveTold_6 : decode cX0_moveTold 6 = .ok (.astore 4, 2) := by decide +kernel
theorem dX0_moveTold_8 : decode cX0_moveTold 8 = .ok (.iload_n 2, 1) := by decide +kernel
theorem dX0_moveTold_9 : decode cX0_moveTold 9 = .ok (.iload_n 3, 1) := by decide +kernel
theorem dX0_moveTold_10 : decode cX0_moveTold 10 = .ok (.if_icmp .eq 20, 3) := by decide +kernel
theorem dX0_moveTold_13 : decode cX0_moveTold 13 = .ok (.aload 4, 2) := by decide +kernel
theorem dX0_moveTold_15 : decode cX0_moveTold 15 = .ok (.iload_n 2, 1) := by decide +kernel
theorem dX0_moveTold_16 : decode cX0_moveTold 16 = .ok (.iaload, 1) := by decide +kernel
theorem dX0_moveTold_17 : decode cX0_moveTold 17 = .ok (.iconst 1, 1) := by decide +kernel
theorem dX0_moveTold_18 : decode cX0_moveTold 18 = .ok (.if_icmp .lt 12, 3) := by decide +kernel
theorem dX0_moveTold_21 : decode cX0_moveTold 21 = .ok (.aload 4, 2) := by decide +kernel
theorem dX0_moveTold_23 : decode cX0_moveTold 23 = .ok (.iload_n 3, 1) := by decide +kernel
theorem dX0_moveTold_24 : decode cX0_moveTold 24 = .ok (.iaload, 1) := by decide +kernel
theorem dX0_moveTold_25 : decode cX0_moveTold 25 = .ok (.bipush 9, 2) := by decide +kernel
theorem dX0_moveTold_27 : decode cX0_moveTold 27 = .ok (.if_icmp .lt 5, 3) := by decide +kernel
theorem dX0_moveTold_30 : decode cX0_moveTold 30 = .ok (.iconst 0, 1) := by decide +kernel
theorem dX0_moveTold_31 : decode cX0_moveTold 31 = .ok (.ireturn, 1) := by decide +kernel
theorem dX0_moveTold_32 : decode cX0_moveTold 32 = .ok (.aload 4, 2) := by decide +kernel
theorem dX0_moveTold_34 : decode cX0_moveTold 34 = .ok (.iload_n 2, 1) := by decide +kernel
theorem dX0_moveTold_35 : decode cX0_moveTold 35 = .ok (.dup2, 1) := by decide +kernel
theorem dX0_moveTold_36 : decode cX0_moveTold 36 = .ok (.iaload, 1) := by decide +kernel
theorem dX0_moveTold_37 : decode cX0_moveTold 37 = .ok (.iconst 1, 1) := by decide +kernel
theorem dX0_moveTold_38 : decode cX0_moveTold 38 = .ok (.isub, 1) := by decide +kernel
theorem dX0_moveTold_39 : decode cX0_moveTold 39 = .ok (.iastore, 1) := by decide +kernel
theorem dX0_moveTold_40 : decode cX0_moveTold 40 = .ok (.aload 4, 2) := by decide +kernel
theorem dX0_moveTold_42 : decode cX0_moveTold 42 = .ok (.iload_n 3, 1) := by decide +kernel
theorem dX0_moveTold_43 : decode cX0_moveTold 43 = .ok (.dup2, 1) := by decide +kernel
theorem dX0_moveTold_44 : decode cX0_moveTold 44 = .ok (.iaload, 1) := by decide +kernel
theorem dX0_moveTold_45 : decode cX0_moveTold 45 = .ok (.iconst 1, 1) := by decide +kernel
theorem dX0_moveTold_46 : decode cX0_moveTold 46 = .ok (.iadd, 1) := by decide +kernel
theorem dX0_moveTold_47 : decode cX0_moveTold 47 = .ok (.iastore, 1) := by decide +kernel
theorem dX0_moveTold_48 : decode cX0_moveTold 48 = .ok (.iconst 1, 1) := by decide +kernel
theorem dX0_moveTold_49 : decode cX0_moveTold 49 = .ok (.ireturn, 1) := by decide +kernel
theorem dX0_upTo_0 : decode cX0_upTo 0 = .ok (.lconst 0, 1) := by decide +kernel
theorem dX0_upTo_1 : decode cX0_upTo 1 = .ok (.lstore 6, 2) := by decide +kernel
theorem dX0_upTo_3 : decode cX0_upTo 3 = .ok (.lload_n 2, 1) := by decide +kernel
theorem dX0_upTo_4 : decode cX0_upTo 4 = .ok (.lstore 8, 2) := by decide +kernel
theorem dX0_upTo_6 : decode cX0_upTo 6 = .ok (.iconst 0, 1) := by decide +kernel
theorem dX0_upTo_7 : decode cX0_upTo 7 = .ok (.istore 10, 2) := by decide +kernel
theorem dX0_upTo_9 : decode cX0_upTo 9 = .ok (.iload 10, 2) := by decide +kernel
theorem dX0_upTo_11 : decode cX0_upTo 11 = .ok (.aload_n 0, 1) := by decide +kernel
theorem dX0_upTo_12 : decode cX0_upTo 12 = .ok (.getfield 23, 3) := by decide +kernel
theorem dX0_upTo_15 : decode cX0_upTo 15 = .ok (.if_icmp .ge 45, 3) := by decide +kernel
theorem dX0_upTo_18 : decode cX0_upTo 18 = .ok (.lload 8, 2) := by decide +kernel
theorem dX0_upTo_20 : decode cX0_upTo 20 = .ok (.lconst 0, 1) := by decide +kernel
theorem dX0_upTo_21 : decode cX0_upTo 21 = .ok (.lcmp, 1) := by decide +kernel
theorem dX0_upTo_22 : decode cX0_upTo 22 = .ok (.ifCond .le 38, 3) := by decide +kernel
theorem dX0_upTo_25 : decode cX0_upTo 25 = .ok (.lload 8, 2) := by decide +kernel
theorem dX0_upTo_27 : decode cX0_upTo 27 = .ok (.lload 4, 2) := by decide +kernel
theorem dX0_upTo_29 : decode cX0_upTo 29 = .ok (.invokestatic 30, 3) := by decide +kernel
theorem dX0_upTo_32 : decode cX0_upTo 32 = .ok (.lstore 11, 2) := by decide +kernel
theorem dX0_upTo_34 : decode cX0_upTo 34 = .ok (.lload 6, 2) := by decide +kernel
theorem dX0_upTo_36 : decode cX0_upTo 36 = .ok (.aload_n 1, 1) := by decide +kernel
theorem dX0_upTo_37 : decode cX0_upTo 37 = .ok (.iload 10, 2) := by decide +kernel
theorem dX0_upTo_39 : decode cX0_upTo 39 = .ok (.iaload, 1) := by decide +kernel
theorem dX0_upTo_40 : decode cX0_upTo 40 = .ok (.i2l, 1) := by decide +kernel
theorem dX0_upTo_41 : decode cX0_upTo 41 = .ok (.lload 11, 2) := by decide +kernel
theorem dX0_upTo_43 : decode cX0_upTo 43 = .ok (.lmul, 1) := by decide +kernel
theorem dX0_upTo_44 : decode cX0_upTo 44 = .ok (.ladd, 1) := by decide +kernel
theorem dX0_upTo_45 : decode cX0_upTo 45 = .ok (.lstore 6, 2) := by decide +kernel
theorem dX0_upTo_47 : decode cX0_upTo 47 = .ok (.lload 8, 2) := by decide +kernel
theorem dX0_upTo_49 : decode cX0_upTo 49 = .ok (.lload 11, 2) := by decide +kernel
theorem dX0_upTo_51 : decode cX0_upTo 51 = .ok (.lsub, 1) := by decide +kernel
theorem dX0_upTo_52 : decode cX0_upTo 52 = .ok (.lstore 8, 2) := by decide +kernel
theorem dX0_upTo_54 : decode cX0_upTo 54 = .ok (.iinc 10 1, 3) := by decide +kernel
theorem dX0_upTo_57 : decode cX0_upTo 57 = .ok (.goto (-48), 3) := by decide +kernel
theorem dX0_upTo_60 : decode cX0_upTo 60 = .ok (.lload 6, 2) := by decide +kernel
theorem dX0_upTo_62 : decode cX0_upTo 62 = .ok (.lreturn, 1) := by decide +kernel
theorem dX0_between_0 : decode cX0_between 0 = .ok (.aload_n 0, 1) := by decide +kernel
theorem dX0_between_1 : decode cX0_between 1 = .ok (.aload_n 1, 1) := by decide +kernel
theorem dX0_between_2 : decode cX0_between 2 = .ok (.aload_n 3, 1) := by decide +kernel
theorem dX0_between_3 : decode cX0_between 3 = .ok (.lload 4, 2) := by decide +kernel
theorem dX0_between_5 : decode cX0_between 5 = .ok (.invokevirtual 36, 3) := by decide +kernel
theorem dX0_between_8 : decode cX0_between 8 = .ok (.lload 4, 2) := by decide +kernel
theorem dX0_between_10 : decode cX0_between 10 = .ok (.invokevirtual 42, 3) := by decide +kernel
theorem dX0_between_13 : decode cX0_between 13 = .ok (.aload_n 0, 1) := by decide +kernel
theorem dX0_between_14 : decode cX0_between 14 = .ok (.aload_n 1, 1) := by decide +kernel
theorem dX0_between_15 : decode cX0_between 15 = .ok (.aload_n 2, 1) := by decide +kernel
theorem dX0_between_16 : decode cX0_between 16 = .ok (.lload 4, 2) := by decide +kernel
theorem dX0_between_18 : decode cX0_between 18 = .ok (.invokevirtual 36, 3) := by decide +kernel
theorem dX0_between_21 : decode cX0_between 21 = .ok (.lload 4, 2) := by decide +kernel
theorem dX0_between_23 : decode cX0_between 23 = .ok (.invokevirtual 42, 3) := by decide +kernel
theorem dX0_between_26 : decode cX0_between 26 = .ok (.lsub, 1) := by decide +kernel
theorem dX0_between_27 : decode cX0_between 27 = .ok (.lreturn, 1) := by decide +kernel
theorem dX0_reach_0 : decode cX0_reach 0 = .ok (.lload 7, 2) := by decide +kernel
theorem dX0_reach_2 : decode cX0_reach 2 = .ok (.lconst 0, 1) := by decide +kernel
theorem dX0_reach_3 : decode cX0_reach 3 = .ok (.lcmp, 1) := by decide +kernel
theorem dX0_reach_4 : decode cX0_reach 4 = .ok (.ifCond .ne 12, 3) := by decide +kernel
theorem dX0_reach_7 : decode cX0_reach 7 = .ok (.aload_n 1, 1) := by decide +kernel
theorem dX0_reach_8 : decode cX0_reach 8 = .ok (.lload_n 3, 1) := by decide +kernel
theorem dX0_reach_9 : decode cX0_reach 9 = .ok (.lload 5, 2) := by decide +kernel
theorem dX0_reach_11 : decode cX0_reach 11 = .ok (.invokevirtual 46, 3) := by decide +kernel
theorem dX0_reach_14 : decode cX0_reach 14 = .ok (.iconst 1, 1) := by decide +kernel
theorem dX0_reach_15 : decode cX0_reach 15 = .ok (.ireturn, 1) := by decide +kernel
theorem dX0_reach_16 : decode cX0_reach 16 = .ok (.lload 7, 2) := by decide +kernel
theorem dX0_reach_18 : decode cX0_reach 18 = .ok (.lstore 11, 2) := by decide +kernel
theorem dX0_reach_20 : decode cX0_reach 20 = .ok (.iconst 0, 1) := by decide +kernel
theorem dX0_reach_21 : decode cX0_reach 21 = .ok (.istore 13, 2) := by decide +kernel
theorem dX0_reach_23 : decode cX0_reach 23 = .ok (.iload 13, 2) := by decide +kernel
theorem dX0_reach_25 : decode cX0_reach 25 = .ok (.aload_n 0, 1) := by decide +kernel
theorem dX0_reach_26 : decode cX0_reach 26 = .ok (.getfield 23, 3) := by decide +kernel
theorem dX0_reach_29 : decode cX0_reach 29 = .ok (.if_icmp .ge 85, 3) := by decide +kernel
theorem dX0_reach_32 : decode cX0_reach 32 = .ok (.lload_n 3, 1) := by decide +kernel
theorem dX0_reach_33 : decode cX0_reach 33 = .ok (.iload 13, 2) := by decide +kernel
theorem dX0_reach_35 : decode cX0_reach 35 = .ok (.i2l, 1) := by decide +kernel
theorem dX0_reach_36 : decode cX0_reach 36 = .ok (.lload 5, 2) := by decide +kernel
theorem dX0_reach_38 : decode cX0_reach 38 = .ok (.lmul, 1) := by decide +kernel
theorem dX0_reach_39 : decode cX0_reach 39 = .ok (.invokestatic 50, 3) := by decide +kernel
theorem dX0_reach_42 : decode cX0_reach 42 = .ok (.lstore 14, 2) := by decide +kernel
theorem dX0_reach_44 : decode cX0_reach 44 = .ok (.aload_n 2, 1) := by decide +kernel
theorem dX0_reach_45 : decode cX0_reach 45 = .ok (.iload 13, 2) := by decide +kernel
theorem dX0_reach_47 : decode cX0_reach 47 = .ok (.iaload, 1) := by decide +kernel
theorem dX0_reach_48 : decode cX0_reach 48 = .ok (.i2l, 1) := by decide +kernel
theorem dX0_reach_49 : decode cX0_reach 49 = .ok (.lload 9, 2) := by decide +kernel
theorem dX0_reach_51 : decode cX0_reach 51 = .ok (.lmul, 1) := by decide +kernel
theorem dX0_reach_52 : decode cX0_reach 52 = .ok (.lstore 16, 2) := by decide +kernel
theorem dX0_reach_54 : decode cX0_reach 54 = .ok (.lload 16, 2) := by decide +kernel
theorem dX0_reach_56 : decode cX0_reach 56 = .ok (.lconst 0, 1) := by decide +kernel
theorem dX0_reach_57 : decode cX0_reach 57 = .ok (.iload 13, 2) := by decide +kernel
theorem dX0_reach_59 : decode cX0_reach 59 = .ok (.iconst 1, 1) := by decide +kernel
theorem dX0_reach_60 : decode cX0_reach 60 = .ok (.iadd, 1) := by decide +kernel
theorem dX0_reach_61 : decode cX0_reach 61 = .ok (.i2l, 1) := by decide +kernel
theorem dX0_reach_62 : decode cX0_reach 62 = .ok (.lload 5, 2) := by decide +kernel
theorem dX0_reach_64 : decode cX0_reach 64 = .ok (.lmul, 1) := by decide +kernel
theorem dX0_reach_65 : decode cX0_reach 65 = .ok (.lload 14, 2) := by decide +kernel
theorem dX0_reach_67 : decode cX0_reach 67 = .ok (.lsub, 1) := by decide +kernel
theorem dX0_reach_68 : decode cX0_reach 68 = .ok (.invokestatic 50, 3) := by decide +kernel
theorem dX0_reach_71 : decode cX0_reach 71 = .ok (.lmul, 1) := by decide +kernel
theorem dX0_reach_72 : decode cX0_reach 72 = .ok (.lstore 18, 2) := by decide +kernel
theorem dX0_reach_74 : decode cX0_reach 74 = .ok (.lload 18, 2) := by decide +kernel
theorem dX0_reach_76 : decode cX0_reach 76 = .ok (.lload 11, 2) := by decide +kernel
theorem dX0_reach_78 : decode cX0_reach 78 = .ok (.lcmp, 1) := by decide +kernel
theorem dX0_reach_79 : decode cX0_reach 79 = .ok (.ifCond .lt 22, 3) := by decide +kernel
theorem dX0_reach_82 : decode cX0_reach 82 = .ok (.aload_n 1, 1) := by decide +kernel
theorem dX0_reach_83 : decode cX0_reach 83 = .ok (.lload 14, 2) := by decide +kernel
theorem dX0_reach_85 : decode cX0_reach 85 = .ok (.lload 16, 2) := by decide +kernel
theorem dX0_reach_87 : decode cX0_reach 87 = .ok (.lmul, 1) := by decide +kernel
theorem dX0_reach_88 : decode cX0_reach 88 = .ok (.lload 11, 2) := by decide +kernel
theorem dX0_reach_90 : decode cX0_reach 90 = .ok (.ladd, 1) := by decide +kernel
theorem dX0_reach_91 : decode cX0_reach 91 = .ok (.lload 5, 2) := by decide +kernel
theorem dX0_reach_93 : decode cX0_reach 93 = .ok (.lload 16, 2) := by decide +kernel
theorem dX0_reach_95 : decode cX0_reach 95 = .ok (.lmul, 1) := by decide +kernel
theorem dX0_reach_96 : decode cX0_reach 96 = .ok (.invokevirtual 46, 3) := by decide +kernel
theorem dX0_reach_99 : decode cX0_reach 99 = .ok (.iconst 1, 1) := by decide +kernel
theorem dX0_reach_100 : decode cX0_reach 100 = .ok (.ireturn, 1) := by decide +kernel
theorem dX0_reach_101 : decode cX0_reach 101 = .ok (.lload 11, 2) := by decide +kernel
theorem dX0_reach_103 : decode cX0_reach 103 = .ok (.lload 18, 2) := by decide +kernel
theorem dX0_reach_105 : decode cX0_reach 105 = .ok (.lsub, 1) := by decide +kernel
theorem dX0_reach_106 : decode cX0_reach 106 = .ok (.lstore 11, 2) := by decide +kernel
theorem dX0_reach_108 : decode cX0_reach 108 = .ok (.iinc 13 1, 3) := by decide +kernel
theorem dX0_reach_111 : decode cX0_reach 111 = .ok (.goto (-88), 3) := by decide +kernel
theorem dX0_reach_114 : decode cX0_reach 114 = .ok (.iconst 0, 1) := by decide +kernel
theorem dX0_reach_115 : decode cX0_reach 115 = .ok (.ireturn, 1) := by decide +kernel
theorem dX0_hasNoZero_0 : decode cX0_hasNoZero 0 = .ok (.iconst 0, 1) := by decide +kernel
theorem dX0_hasNoZero_1 : decode cX0_hasNoZero 1 = .ok (.istore_n 2, 1) := by decide +kernel
theorem dX0_hasNoZero_2 : decode cX0_hasNoZero 2 = .ok (.iload_n 2, 1) := by decide +kernel
theorem dX0_hasNoZero_3 : decode cX0_hasNoZero 3 = .ok (.aload_n 0, 1) := by decide +kernel
theorem dX0_hasNoZero_4 : decode cX0_hasNoZero 4 = .ok (.getfield 23, 3) := by decide +kernel
theorem dX0_hasNoZero_7 : decode cX0_hasNoZero 7 = .ok (.if_icmp .ge 18, 3) := by decide +kernel
theorem dX0_hasNoZero_10 : decode cX0_hasNoZero 10 = .ok (.aload_n 1, 1) := by decide +kernel
theorem dX0_hasNoZero_11 : decode cX0_hasNoZero 11 = .ok (.iload_n 2, 1) := by decide +kernel
theorem dX0_hasNoZero_12 : decode cX0_hasNoZero 12 = .ok (.iaload, 1) := by decide +kernel
theorem dX0_hasNoZero_13 : decode cX0_hasNoZero 13 = .ok (.iconst 1, 1) := by decide +kernel
theorem dX0_hasNoZero_14 : decode cX0_hasNoZero 14 = .ok (.if_icmp .ge 5, 3) := by decide +kernel
theorem dX0_hasNoZero_17 : decode cX0_hasNoZero 17 = .ok (.iconst 0, 1) := by decide +kernel
theorem dX0_hasNoZero_18 : decode cX0_hasNoZero 18 = .ok (.ireturn, 1) := by decide +kernel
theorem dX0_hasNoZero_19 : decode cX0_hasNoZero 19 = .ok (.iinc 2 1, 3) := by decide +kernel
theorem dX0_hasNoZero_22 : decode cX0_hasNoZero 22 = .ok (.goto (-20), 3) := by decide +kernel
theorem dX0_hasNoZero_25 : decode cX0_hasNoZero 25 = .ok (.iconst 1, 1) := by decide +kernel
theorem dX0_hasNoZero_26 : decode cX0_hasNoZero 26 = .ok (.ireturn, 1) := by decide +kernel
theorem dX0_excess_0 : decode cX0_excess 0 = .ok (.ldc2_w 53, 3) := by decide +kernel
theorem dX0_excess_3 : decode cX0_excess 3 = .ok (.aload_n 0, 1) := by decide +kernel
theorem dX0_excess_4 : decode cX0_excess 4 = .ok (.aload_n 1, 1) := by decide +kernel
theorem dX0_excess_5 : decode cX0_excess 5 = .ok (.lload 4, 2) := by decide +kernel
theorem dX0_excess_7 : decode cX0_excess 7 = .ok (.ldc2_w 55, 3) := by decide +kernel
theorem dX0_excess_10 : decode cX0_excess 10 = .ok (.invokevirtual 42, 3) := by decide +kernel
theorem dX0_excess_13 : decode cX0_excess 13 = .ok (.aload_n 0, 1) := by decide +kernel
theorem dX0_excess_14 : decode cX0_excess 14 = .ok (.aload_n 1, 1) := by decide +kernel
theorem dX0_excess_15 : decode cX0_excess 15 = .ok (.lload_n 2, 1) := by decide +kernel
theorem dX0_excess_16 : decode cX0_excess 16 = .ok (.ldc2_w 55, 3) := by decide +kernel
theorem dX0_excess_19 : decode cX0_excess 19 = .ok (.invokevirtual 42, 3) := by decide +kernel
theorem dX0_excess_22 : decode cX0_excess 22 = .ok (.lsub, 1) := by decide +kernel
theorem dX0_excess_23 : decode cX0_excess 23 = .ok (.lmul, 1) := by decide +kernel
theorem dX0_excess_24 : decode cX0_excess 24 = .ok (.aload_n 0, 1) := by decide +kernel
theorem dX0_excess_25 : decode cX0_excess 25 = .ok (.aload_n 1, 1) := by decide +kernel
theorem dX0_excess_26 : decode cX0_excess 26 = .ok (.invokevirtual 57, 3) := by decide +kernel
theorem dX0_excess_29 : decode cX0_excess 29 = .ok (.i2l, 1) := by decide +kernel
theorem dX0_excess_30 : decode cX0_excess 30 = .ok (.ldc2_w 55, 3) := by decide +kernel
theorem dX0_excess_33 : decode cX0_excess 33 = .ok (.lmul, 1) := by decide +kernel
theorem dX0_excess_34 : decode cX0_excess 34 = .ok (.lsub, 1) := by decide +kernel
theorem dX0_excess_35 : decode cX0_excess 35 = .ok (.lreturn, 1) := by decide +kernel
theorem dX0_halfForBoth_0 : decode cX0_halfForBoth 0 = .ok (.aload_n 0, 1) := by decide +kernel
theorem dX0_halfForBoth_1 : decode cX0_halfForBoth 1 = .ok (.aload_n 2, 1) := by decide +kernel
theorem dX0_halfForBoth_2 : decode cX0_halfForBoth 2 = .ok (.invokevirtual 61, 3) := by decide +kernel
theorem dX0_halfForBoth_5 : decode cX0_halfForBoth 5 = .ok (.ifCond .eq 40, 3) := by decide +kernel
theorem dX0_halfForBoth_8 : decode cX0_halfForBoth 8 = .ok (.aload_n 0, 1) := by decide +kernel
theorem dX0_halfForBoth_9 : decode cX0_halfForBoth 9 = .ok (.aload_n 3, 1) := by decide +kernel
theorem dX0_halfForBoth_10 : decode cX0_halfForBoth 10 = .ok (.invokevirtual 61, 3) := by decide +kernel
theorem dX0_halfForBoth_13 : decode cX0_halfForBoth 13 = .ok (.ifCond .eq 32, 3) := by decide +kernel
theorem dX0_halfForBoth_16 : decode cX0_halfForBoth 16 = .ok (.aload_n 0, 1) := by decide +kernel
theorem dX0_halfForBoth_17 : decode cX0_halfForBoth 17 = .ok (.aload_n 1, 1) := by decide +kernel
theorem dX0_halfForBoth_18 : decode cX0_halfForBoth 18 = .ok (.getfield 65, 3) := by decide +kernel
theorem dX0_halfForBoth_21 : decode cX0_halfForBoth 21 = .ok (.aload_n 2, 1) := by decide +kernel
theorem dX0_halfForBoth_22 : decode cX0_halfForBoth 22 = .ok (.lconst 0, 1) := by decide +kernel
theorem dX0_halfForBoth_23 : decode cX0_halfForBoth 23 = .ok (.ldc2_w 55, 3) := by decide +kernel
theorem dX0_halfForBoth_26 : decode cX0_halfForBoth 26 = .ok (.aload_n 0, 1) := by decide +kernel
theorem dX0_halfForBoth_27 : decode cX0_halfForBoth 27 = .ok (.aload_n 2, 1) := by decide +kernel
theorem dX0_halfForBoth_28 : decode cX0_halfForBoth 28 = .ok (.invokevirtual 57, 3) := by decide +kernel
theorem dX0_halfForBoth_31 : decode cX0_halfForBoth 31 = .ok (.i2l, 1) := by decide +kernel
theorem dX0_halfForBoth_32 : decode cX0_halfForBoth 32 = .ok (.ldc2_w 55, 3) := by decide +kernel
theorem dX0_halfForBoth_35 : decode cX0_halfForBoth 35 = .ok (.lmul, 1) := by decide +kernel
theorem dX0_halfForBoth_36 : decode cX0_halfForBoth 36 = .ok (.ldc2_w 53, 3) := by decide +kernel
theorem dX0_halfForBoth_39 : decode cX0_halfForBoth 39 = .ok (.invokevirtual 71, 3) := by decide +kernel
theorem dX0_halfForBoth_42 : decode cX0_halfForBoth 42 = .ok (.ifCond .ne 5, 3) := by decide +kernel
theorem dX0_halfForBoth_45 : decode cX0_halfForBoth 45 = .ok (.iconst 0, 1) := by decide +kernel
theorem dX0_halfForBoth_46 : decode cX0_halfForBoth 46 = .ok (.ireturn, 1) := by decide +kernel
theorem dX0_halfForBoth_47 : decode cX0_halfForBoth 47 = .ok (.lconst 0, 1) := by decide +kernel
theorem dX0_halfForBoth_48 : decode cX0_halfForBoth 48 = .ok (.lstore 4, 2) := by decide +kernel
theorem dX0_halfForBoth_50 : decode cX0_halfForBoth 50 = .ok (.aload_n 1, 1) := by decide +kernel
theorem dX0_halfForBoth_51 : decode cX0_halfForBoth 51 = .ok (.getfield 65, 3) := by decide +kernel
theorem dX0_halfForBoth_54 : decode cX0_halfForBoth 54 = .ok (.ldc2_w 55, 3) := by decide +kernel
theorem dX0_halfForBoth_57 : decode cX0_halfForBoth 57 = .ok (.invokevirtual 36, 3) := by decide +kernel
theorem dX0_halfForBoth_60 : decode cX0_halfForBoth 60 = .ok (.lstore 6, 2) := by decide +kernel
theorem dX0_halfForBoth_62 : decode cX0_halfForBoth 62 = .ok (.aload_n 0, 1) := by decide +kernel
theorem dX0_halfForBoth_63 : decode cX0_halfForBoth 63 = .ok (.aload_n 3, 1) := by decide +kernel
theorem dX0_halfForBoth_64 : decode cX0_halfForBoth 64 = .ok (.lload 4, 2) := by decide +kernel
theorem dX0_halfForBoth_66 : decode cX0_halfForBoth 66 = .ok (.lload 6, 2) := by decide +kernel
theorem dX0_halfForBoth_68 : decode cX0_halfForBoth 68 = .ok (.invokevirtual 75, 3) := by decide +kernel
theorem dX0_halfForBoth_71 : decode cX0_halfForBoth 71 = .ok (.lstore 8, 2) := by decide +kernel
theorem dX0_halfForBoth_73 : decode cX0_halfForBoth 73 = .ok (.iconst 0, 1) := by decide +kernel
theorem dX0_halfForBoth_74 : decode cX0_halfForBoth 74 = .ok (.istore 10, 2) := by decide +kernel
theorem dX0_halfForBoth_76 : decode cX0_halfForBoth 76 = .ok (.iload 10, 2) := by decide +kernel
theorem dX0_halfForBoth_78 : decode cX0_halfForBoth 78 = .ok (.bipush 48, 2) := by decide +kernel
theorem dX0_halfForBoth_80 : decode cX0_halfForBoth 80 = .ok (.if_icmp .ge 264, 3) := by decide +kernel
theorem dX0_halfForBoth_83 : decode cX0_halfForBoth 83 = .ok (.lload 4, 2) := by decide +kernel
theorem dX0_halfForBoth_85 : decode cX0_halfForBoth 85 = .ok (.ldc2_w 55, 3) := by decide +kernel
theorem dX0_halfForBoth_88 : decode cX0_halfForBoth 88 = .ok (.ldiv, 1) := by decide +kernel
theorem dX0_halfForBoth_89 : decode cX0_halfForBoth 89 = .ok (.l2i, 1) := by decide +kernel
theorem dX0_halfForBoth_90 : decode cX0_halfForBoth 90 = .ok (.istore 11, 2) := by decide +kernel
theorem dX0_halfForBoth_92 : decode cX0_halfForBoth 92 = .ok (.lload 6, 2) := by decide +kernel
theorem dX0_halfForBoth_94 : decode cX0_halfForBoth 94 = .ok (.ldc2_w 55, 3) := by decide +kernel
theorem dX0_halfForBoth_97 : decode cX0_halfForBoth 97 = .ok (.ldiv, 1) := by decide +kernel
theorem dX0_halfForBoth_98 : decode cX0_halfForBoth 98 = .ok (.l2i, 1) := by decide +kernel
theorem dX0_halfForBoth_99 : decode cX0_halfForBoth 99 = .ok (.istore 12, 2) := by decide +kernel
theorem dX0_halfForBoth_101 : decode cX0_halfForBoth 101 = .ok (.lload 8, 2) := by decide +kernel
theorem dX0_halfForBoth_103 : decode cX0_halfForBoth 103 = .ok (.lconst 0, 1) := by decide +kernel
theorem dX0_halfForBoth_104 : decode cX0_halfForBoth 104 = .ok (.lcmp, 1) := by decide +kernel
theorem dX0_halfForBoth_105 : decode cX0_halfForBoth 105 = .ok (.ifCond .eq 239, 3) := by decide +kernel
theorem dX0_halfForBoth_108 : decode cX0_halfForBoth 108 = .ok (.aload_n 0, 1) := by decide +kernel
theorem dX0_halfForBoth_109 : decode cX0_halfForBoth 109 = .ok (.iload 11, 2) := by decide +kernel
theorem dX0_halfForBoth_111 : decode cX0_halfForBoth 111 = .ok (.invokevirtual 78, 3) := by decide +kernel
theorem dX0_halfForBoth_114 : decode cX0_halfForBoth 114 = .ok (.ifCond .eq 230, 3) := by decide +kernel
theorem dX0_halfForBoth_117 : decode cX0_halfForBoth 117 = .ok (.aload_n 0, 1) := by decide +kernel
theorem dX0_halfForBoth_118 : decode cX0_halfForBoth 118 = .ok (.iload 12, 2) := by decide +kernel
theorem dX0_halfForBoth_120 : decode cX0_halfForBoth 120 = .ok (.invokevirtual 78, 3) := by decide +kernel
theorem dX0_halfForBoth_123 : decode cX0_halfForBoth 123 = .ok (.ifCond .ne 6, 3) := by decide +kernel
theorem dX0_halfForBoth_126 : decode cX0_halfForBoth 126 = .ok (.goto 218, 3) := by decide +kernel
theorem dX0_halfForBoth_129 : decode cX0_halfForBoth 129 = .ok (.iload 11, 2) := by decide +kernel
theorem dX0_halfForBoth_131 : decode cX0_halfForBoth 131 = .ok (.iconst 1, 1) := by decide +kernel
theorem dX0_halfForBoth_132 : decode cX0_halfForBoth 132 = .ok (.iadd, 1) := by decide +kernel
theorem dX0_halfForBoth_133 : decode cX0_halfForBoth 133 = .ok (.i2l, 1) := by decide +kernel
theorem dX0_halfForBoth_134 : decode cX0_halfForBoth 134 = .ok (.ldc2_w 55, 3) := by decide +kernel
theorem dX0_halfForBoth_137 : decode cX0_halfForBoth 137 = .ok (.lmul, 1) := by decide +kernel
theorem dX0_halfForBoth_138 : decode cX0_halfForBoth 138 = .ok (.lload 4, 2) := by decide +kernel
theorem dX0_halfForBoth_140 : decode cX0_halfForBoth 140 = .ok (.lsub, 1) := by decide +kernel
theorem dX0_halfForBoth_141 : decode cX0_halfForBoth 141 = .ok (.lstore 13, 2) := by decide +kernel
theorem dX0_halfForBoth_143 : decode cX0_halfForBoth 143 = .ok (.iload 12, 2) := by decide +kernel
theorem dX0_halfForBoth_145 : decode cX0_halfForBoth 145 = .ok (.iconst 1, 1) := by decide +kernel
theorem dX0_halfForBoth_146 : decode cX0_halfForBoth 146 = .ok (.iadd, 1) := by decide +kernel
theorem dX0_halfForBoth_147 : decode cX0_halfForBoth 147 = .ok (.i2l, 1) := by decide +kernel
theorem dX0_halfForBoth_148 : decode cX0_halfForBoth 148 = .ok (.ldc2_w 55, 3) := by decide +kernel
theorem dX0_halfForBoth_151 : decode cX0_halfForBoth 151 = .ok (.lmul, 1) := by decide +kernel
theorem dX0_halfForBoth_152 : decode cX0_halfForBoth 152 = .ok (.lload 6, 2) := by decide +kernel
theorem dX0_halfForBoth_154 : decode cX0_halfForBoth 154 = .ok (.lsub, 1) := by decide +kernel
theorem dX0_halfForBoth_155 : decode cX0_halfForBoth 155 = .ok (.lstore 15, 2) := by decide +kernel
theorem dX0_halfForBoth_157 : decode cX0_halfForBoth 157 = .ok (.lload 13, 2) := by decide +kernel
theorem dX0_halfForBoth_159 : decode cX0_halfForBoth 159 = .ok (.aload_n 2, 1) := by decide +kernel
theorem dX0_halfForBoth_160 : decode cX0_halfForBoth 160 = .ok (.iload 11, 2) := by decide +kernel
theorem dX0_halfForBoth_162 : decode cX0_halfForBoth 162 = .ok (.iaload, 1) := by decide +kernel
theorem dX0_halfForBoth_163 : decode cX0_halfForBoth 163 = .ok (.i2l, 1) := by decide +kernel
theorem dX0_halfForBoth_164 : decode cX0_halfForBoth 164 = .ok (.lmul, 1) := by decide +kernel
theorem dX0_halfForBoth_165 : decode cX0_halfForBoth 165 = .ok (.lload 15, 2) := by decide +kernel
theorem dX0_halfForBoth_167 : decode cX0_halfForBoth 167 = .ok (.aload_n 2, 1) := by decide +kernel
theorem dX0_halfForBoth_168 : decode cX0_halfForBoth 168 = .ok (.iload 12, 2) := by decide +kernel
theorem dX0_halfForBoth_170 : decode cX0_halfForBoth 170 = .ok (.iaload, 1) := by decide +kernel
theorem dX0_halfForBoth_171 : decode cX0_halfForBoth 171 = .ok (.i2l, 1) := by decide +kernel
theorem dX0_halfForBoth_172 : decode cX0_halfForBoth 172 = .ok (.lmul, 1) := by decide +kernel
theorem dX0_halfForBoth_173 : decode cX0_halfForBoth 173 = .ok (.lcmp, 1) := by decide +kernel
theorem dX0_halfForBoth_174 : decode cX0_halfForBoth 174 = .ok (.ifCond .le 22, 3) := by decide +kernel
theorem dX0_halfForBoth_177 : decode cX0_halfForBoth 177 = .ok (.lload 15, 2) := by decide +kernel
theorem dX0_halfForBoth_179 : decode cX0_halfForBoth 179 = .ok (.aload_n 2, 1) := by decide +kernel
theorem dX0_halfForBoth_180 : decode cX0_halfForBoth 180 = .ok (.iload 12, 2) := by decide +kernel
theorem dX0_halfForBoth_182 : decode cX0_halfForBoth 182 = .ok (.iaload, 1) := by decide +kernel
theorem dX0_halfForBoth_183 : decode cX0_halfForBoth 183 = .ok (.i2l, 1) := by decide +kernel
theorem dX0_halfForBoth_184 : decode cX0_halfForBoth 184 = .ok (.lmul, 1) := by decide +kernel
theorem dX0_halfForBoth_185 : decode cX0_halfForBoth 185 = .ok (.aload_n 2, 1) := by decide +kernel
theorem dX0_halfForBoth_186 : decode cX0_halfForBoth 186 = .ok (.iload 11, 2) := by decide +kernel
theorem dX0_halfForBoth_188 : decode cX0_halfForBoth 188 = .ok (.iaload, 1) := by decide +kernel
theorem dX0_halfForBoth_189 : decode cX0_halfForBoth 189 = .ok (.i2l, 1) := by decide +kernel
theorem dX0_halfForBoth_190 : decode cX0_halfForBoth 190 = .ok (.ldiv, 1) := by decide +kernel
theorem dX0_halfForBoth_191 : decode cX0_halfForBoth 191 = .ok (.lstore 13, 2) := by decide +kernel
theorem dX0_halfForBoth_193 : decode cX0_halfForBoth 193 = .ok (.goto 19, 3) := by decide +kernel
theorem dX0_halfForBoth_196 : decode cX0_halfForBoth 196 = .ok (.lload 13, 2) := by decide +kernel
theorem dX0_halfForBoth_198 : decode cX0_halfForBoth 198 = .ok (.aload_n 2, 1) := by decide +kernel
theorem dX0_halfForBoth_199 : decode cX0_halfForBoth 199 = .ok (.iload 11, 2) := by decide +kernel
theorem dX0_halfForBoth_201 : decode cX0_halfForBoth 201 = .ok (.iaload, 1) := by decide +kernel
theorem dX0_halfForBoth_202 : decode cX0_halfForBoth 202 = .ok (.i2l, 1) := by decide +kernel
theorem dX0_halfForBoth_203 : decode cX0_halfForBoth 203 = .ok (.lmul, 1) := by decide +kernel
theorem dX0_halfForBoth_204 : decode cX0_halfForBoth 204 = .ok (.aload_n 2, 1) := by decide +kernel
theorem dX0_halfForBoth_205 : decode cX0_halfForBoth 205 = .ok (.iload 12, 2) := by decide +kernel
theorem dX0_halfForBoth_207 : decode cX0_halfForBoth 207 = .ok (.iaload, 1) := by decide +kernel
theorem dX0_halfForBoth_208 : decode cX0_halfForBoth 208 = .ok (.i2l, 1) := by decide +kernel
theorem dX0_halfForBoth_209 : decode cX0_halfForBoth 209 = .ok (.ldiv, 1) := by decide +kernel
theorem dX0_halfForBoth_210 : decode cX0_halfForBoth 210 = .ok (.lstore 15, 2) := by decide +kernel
theorem dX0_halfForBoth_212 : decode cX0_halfForBoth 212 = .ok (.aload_n 0, 1) := by decide +kernel
theorem dX0_halfForBoth_213 : decode cX0_halfForBoth 213 = .ok (.aload_n 3, 1) := by decide +kernel
theorem dX0_halfForBoth_214 : decode cX0_halfForBoth 214 = .ok (.lload 4, 2) := by decide +kernel
theorem dX0_halfForBoth_216 : decode cX0_halfForBoth 216 = .ok (.lload 13, 2) := by decide +kernel
theorem dX0_halfForBoth_218 : decode cX0_halfForBoth 218 = .ok (.ladd, 1) := by decide +kernel
theorem dX0_halfForBoth_219 : decode cX0_halfForBoth 219 = .ok (.lload 6, 2) := by decide +kernel
theorem dX0_halfForBoth_221 : decode cX0_halfForBoth 221 = .ok (.lload 15, 2) := by decide +kernel
theorem dX0_halfForBoth_223 : decode cX0_halfForBoth 223 = .ok (.ladd, 1) := by decide +kernel
theorem dX0_halfForBoth_224 : decode cX0_halfForBoth 224 = .ok (.invokevirtual 75, 3) := by decide +kernel
theorem dX0_halfForBoth_227 : decode cX0_halfForBoth 227 = .ok (.lstore 17, 2) := by decide +kernel
theorem dX0_halfForBoth_229 : decode cX0_halfForBoth 229 = .ok (.lload 8, 2) := by decide +kernel
theorem dX0_halfForBoth_231 : decode cX0_halfForBoth 231 = .ok (.lconst 0, 1) := by decide +kernel
theorem dX0_halfForBoth_232 : decode cX0_halfForBoth 232 = .ok (.lcmp, 1) := by decide +kernel
theorem dX0_halfForBoth_233 : decode cX0_halfForBoth 233 = .ok (.ifCond .ge 13, 3) := by decide +kernel
theorem dX0_halfForBoth_236 : decode cX0_halfForBoth 236 = .ok (.lload 17, 2) := by decide +kernel
theorem dX0_halfForBoth_238 : decode cX0_halfForBoth 238 = .ok (.lconst 0, 1) := by decide +kernel
theorem dX0_halfForBoth_239 : decode cX0_halfForBoth 239 = .ok (.lcmp, 1) := by decide +kernel
theorem dX0_halfForBoth_240 : decode cX0_halfForBoth 240 = .ok (.ifCond .le 80, 3) := by decide +kernel
theorem dX0_halfForBoth_243 : decode cX0_halfForBoth 243 = .ok (.goto 10, 3) := by decide +kernel
theorem dX0_halfForBoth_246 : decode cX0_halfForBoth 246 = .ok (.lload 17, 2) := by decide +kernel
theorem dX0_halfForBoth_248 : decode cX0_halfForBoth 248 = .ok (.lconst 0, 1) := by decide +kernel
theorem dX0_halfForBoth_249 : decode cX0_halfForBoth 249 = .ok (.lcmp, 1) := by decide +kernel
theorem dX0_halfForBoth_250 : decode cX0_halfForBoth 250 = .ok (.ifCond .ge 70, 3) := by decide +kernel
theorem dX0_halfForBoth_253 : decode cX0_halfForBoth 253 = .ok (.lload 8, 2) := by decide +kernel
theorem dX0_halfForBoth_255 : decode cX0_halfForBoth 255 = .ok (.invokestatic 82, 3) := by decide +kernel
theorem dX0_halfForBoth_258 : decode cX0_halfForBoth 258 = .ok (.lstore 19, 2) := by decide +kernel
theorem dX0_halfForBoth_260 : decode cX0_halfForBoth 260 = .ok (.lload 19, 2) := by decide +kernel
theorem dX0_halfForBoth_262 : decode cX0_halfForBoth 262 = .ok (.lload 17, 2) := by decide +kernel
theorem dX0_halfForBoth_264 : decode cX0_halfForBoth 264 = .ok (.invokestatic 82, 3) := by decide +kernel
theorem dX0_halfForBoth_267 : decode cX0_halfForBoth 267 = .ok (.ladd, 1) := by decide +kernel
theorem dX0_halfForBoth_268 : decode cX0_halfForBoth 268 = .ok (.lstore 21, 2) := by decide +kernel
theorem dX0_halfForBoth_270 : decode cX0_halfForBoth 270 = .ok (.aload_n 1, 1) := by decide +kernel
theorem dX0_halfForBoth_271 : decode cX0_halfForBoth 271 = .ok (.getfield 85, 3) := by decide +kernel
theorem dX0_halfForBoth_274 : decode cX0_halfForBoth 274 = .ok (.lload 4, 2) := by decide +kernel
theorem dX0_halfForBoth_276 : decode cX0_halfForBoth 276 = .ok (.lload 21, 2) := by decide +kernel
theorem dX0_halfForBoth_278 : decode cX0_halfForBoth 278 = .ok (.lmul, 1) := by decide +kernel
theorem dX0_halfForBoth_279 : decode cX0_halfForBoth 279 = .ok (.lload 13, 2) := by decide +kernel
theorem dX0_halfForBoth_281 : decode cX0_halfForBoth 281 = .ok (.lload 19, 2) := by decide +kernel
theorem dX0_halfForBoth_283 : decode cX0_halfForBoth 283 = .ok (.lmul, 1) := by decide +kernel
theorem dX0_halfForBoth_284 : decode cX0_halfForBoth 284 = .ok (.ladd, 1) := by decide +kernel
theorem dX0_halfForBoth_285 : decode cX0_halfForBoth 285 = .ok (.ldc2_w 55, 3) := by decide +kernel
theorem dX0_halfForBoth_288 : decode cX0_halfForBoth 288 = .ok (.lload 21, 2) := by decide +kernel
theorem dX0_halfForBoth_290 : decode cX0_halfForBoth 290 = .ok (.lmul, 1) := by decide +kernel
theorem dX0_halfForBoth_291 : decode cX0_halfForBoth 291 = .ok (.invokevirtual 46, 3) := by decide +kernel
theorem dX0_halfForBoth_294 : decode cX0_halfForBoth 294 = .ok (.aload_n 1, 1) := by decide +kernel
theorem dX0_halfForBoth_295 : decode cX0_halfForBoth 295 = .ok (.getfield 65, 3) := by decide +kernel
theorem dX0_halfForBoth_298 : decode cX0_halfForBoth 298 = .ok (.lload 6, 2) := by decide +kernel
theorem dX0_halfForBoth_300 : decode cX0_halfForBoth 300 = .ok (.lload 21, 2) := by decide +kernel
theorem dX0_halfForBoth_302 : decode cX0_halfForBoth 302 = .ok (.lmul, 1) := by decide +kernel
theorem dX0_halfForBoth_303 : decode cX0_halfForBoth 303 = .ok (.lload 15, 2) := by decide +kernel
theorem dX0_halfForBoth_305 : decode cX0_halfForBoth 305 = .ok (.lload 19, 2) := by decide +kernel
theorem dX0_halfForBoth_307 : decode cX0_halfForBoth 307 = .ok (.lmul, 1) := by decide +kernel
theorem dX0_halfForBoth_308 : decode cX0_halfForBoth 308 = .ok (.ladd, 1) := by decide +kernel
theorem dX0_halfForBoth_309 : decode cX0_halfForBoth 309 = .ok (.ldc2_w 55, 3) := by decide +kernel
theorem dX0_halfForBoth_312 : decode cX0_halfForBoth 312 = .ok (.lload 21, 2) := by decide +kernel
theorem dX0_halfForBoth_314 : decode cX0_halfForBoth 314 = .ok (.lmul, 1) := by decide +kernel
theorem dX0_halfForBoth_315 : decode cX0_halfForBoth 315 = .ok (.invokevirtual 46, 3) := by decide +kernel
theorem dX0_halfForBoth_318 : decode cX0_halfForBoth 318 = .ok (.iconst 1, 1) := by decide +kernel
theorem dX0_halfForBoth_319 : decode cX0_halfForBoth 319 = .ok (.ireturn, 1) := by decide +kernel
theorem dX0_halfForBoth_320 : decode cX0_halfForBoth 320 = .ok (.lload 4, 2) := by decide +kernel
theorem dX0_halfForBoth_322 : decode cX0_halfForBoth 322 = .ok (.lload 13, 2) := by decide +kernel
theorem dX0_halfForBoth_324 : decode cX0_halfForBoth 324 = .ok (.ladd, 1) := by decide +kernel
theorem dX0_halfForBoth_325 : decode cX0_halfForBoth 325 = .ok (.lstore 4, 2) := by decide +kernel
theorem dX0_halfForBoth_327 : decode cX0_halfForBoth 327 = .ok (.lload 6, 2) := by decide +kernel
theorem dX0_halfForBoth_329 : decode cX0_halfForBoth 329 = .ok (.lload 15, 2) := by decide +kernel
theorem dX0_halfForBoth_331 : decode cX0_halfForBoth 331 = .ok (.ladd, 1) := by decide +kernel
theorem dX0_halfForBoth_332 : decode cX0_halfForBoth 332 = .ok (.lstore 6, 2) := by decide +kernel
theorem dX0_halfForBoth_334 : decode cX0_halfForBoth 334 = .ok (.lload 17, 2) := by decide +kernel
theorem dX0_halfForBoth_336 : decode cX0_halfForBoth 336 = .ok (.lstore 8, 2) := by decide +kernel
theorem dX0_halfForBoth_338 : decode cX0_halfForBoth 338 = .ok (.iinc 10 1, 3) := by decide +kernel
theorem dX0_halfForBoth_341 : decode cX0_halfForBoth 341 = .ok (.goto (-265), 3) := by decide +kernel
theorem dX0_halfForBoth_344 : decode cX0_halfForBoth 344 = .ok (.aload_n 1, 1) := by decide +kernel
theorem dX0_halfForBoth_345 : decode cX0_halfForBoth 345 = .ok (.getfield 85, 3) := by decide +kernel
theorem dX0_halfForBoth_348 : decode cX0_halfForBoth 348 = .ok (.lload 4, 2) := by decide +kernel
theorem dX0_halfForBoth_350 : decode cX0_halfForBoth 350 = .ok (.ldc2_w 55, 3) := by decide +kernel
theorem dX0_halfForBoth_353 : decode cX0_halfForBoth 353 = .ok (.invokevirtual 46, 3) := by decide +kernel
theorem dX0_halfForBoth_356 : decode cX0_halfForBoth 356 = .ok (.aload_n 1, 1) := by decide +kernel
theorem dX0_halfForBoth_357 : decode cX0_halfForBoth 357 = .ok (.getfield 65, 3) := by decide +kernel
theorem dX0_halfForBoth_360 : decode cX0_halfForBoth 360 = .ok (.lload 6, 2) := by decide +kernel
theorem dX0_halfForBoth_362 : decode cX0_halfForBoth 362 = .ok (.ldc2_w 55, 3) := by decide +kernel
theorem dX0_halfForBoth_365 : decode cX0_halfForBoth 365 = .ok (.invokevirtual 46, 3) := by decide +kernel
theorem dX0_halfForBoth_368 : decode cX0_halfForBoth 368 = .ok (.lload 8, 2) := by decide +kernel
theorem dX0_halfForBoth_370 : decode cX0_halfForBoth 370 = .ok (.lconst 0, 1) := by decide +kernel
theorem dX0_halfForBoth_371 : decode cX0_halfForBoth 371 = .ok (.lcmp, 1) := by decide +kernel
theorem dX0_halfForBoth_372 : decode cX0_halfForBoth 372 = .ok (.ifCond .ne 7, 3) := by decide +kernel
theorem dX0_halfForBoth_375 : decode cX0_halfForBoth 375 = .ok (.iconst 1, 1) := by decide +kernel
theorem dX0_halfForBoth_376 : decode cX0_halfForBoth 376 = .ok (.goto 4, 3) := by decide +kernel
theorem dX0_halfForBoth_379 : decode cX0_halfForBoth 379 = .ok (.iconst 0, 1) := by decide +kernel
theorem dX0_halfForBoth_380 : decode cX0_halfForBoth 380 = .ok (.ireturn, 1) := by decide +kernel
theorem dX1_init_0 : decode cX1_init 0 = .ok (.aload_n 0, 1) := by decide +kernel
theorem dX1_init_1 : decode cX1_init 1 = .ok (.invokespecial 3, 3) := by decide +kernel
theorem dX1_init_4 : decode cX1_init 4 = .ok (.aload_n 0, 1) := by decide +kernel
theorem dX1_init_5 : decode cX1_init 5 = .ok (.bipush 19, 2) := by decide +kernel
theorem dX1_init_7 : decode cX1_init 7 = .ok (.anewarray 11, 3) := by decide +kernel
theorem dX1_init_10 : decode cX1_init 10 = .ok (.putfield 13, 3) := by decide +kernel
theorem dX1_init_13 : decode cX1_init 13 = .ok (.aload_n 0, 1) := by decide +kernel
theorem dX1_init_14 : decode cX1_init 14 = .ok (.iconst 5, 1) := by decide +kernel
theorem dX1_init_15 : decode cX1_init 15 = .ok (.newarray .int, 2) := by decide +kernel
theorem dX1_init_17 : decode cX1_init 17 = .ok (.putfield 17, 3) := by decide +kernel
theorem dX1_init_20 : decode cX1_init 20 = .ok (.aload_n 0, 1) := by decide +kernel
theorem dX1_init_21 : decode cX1_init 21 = .ok (.bipush 10, 2) := by decide +kernel
theorem dX1_init_23 : decode cX1_init 23 = .ok (.anewarray 21, 3) := by decide +kernel
theorem dX1_init_26 : decode cX1_init 26 = .ok (.putfield 23, 3) := by decide +kernel
theorem dX1_init_29 : decode cX1_init 29 = .ok (.aload_n 0, 1) := by decide +kernel
theorem dX1_init_30 : decode cX1_init 30 = .ok (.bipush 20, 2) := by decide +kernel
theorem dX1_init_32 : decode cX1_init 32 = .ok (.anewarray 27, 3) := by decide +kernel
theorem dX1_init_35 : decode cX1_init 35 = .ok (.putfield 29, 3) := by decide +kernel
theorem dX1_init_38 : decode cX1_init 38 = .ok (.aload_n 0, 1) := by decide +kernel
theorem dX1_init_39 : decode cX1_init 39 = .ok (.bipush 25, 2) := by decide +kernel
theorem dX1_init_41 : decode cX1_init 41 = .ok (.newarray .long, 2) := by decide +kernel
theorem dX1_init_43 : decode cX1_init 43 = .ok (.putfield 33, 3) := by decide +kernel
theorem dX1_init_46 : decode cX1_init 46 = .ok (.aload_n 0, 1) := by decide +kernel
theorem dX1_init_47 : decode cX1_init 47 = .ok (.new 27, 3) := by decide +kernel
theorem dX1_init_50 : decode cX1_init 50 = .ok (.dup, 1) := by decide +kernel
theorem dX1_init_51 : decode cX1_init 51 = .ok (.invokespecial 37, 3) := by decide +kernel
theorem dX1_init_54 : decode cX1_init 54 = .ok (.putfield 38, 3) := by decide +kernel
theorem dX1_init_57 : decode cX1_init 57 = .ok (.iconst 0, 1) := by decide +kernel
theorem dX1_init_58 : decode cX1_init 58 = .ok (.istore_n 1, 1) := by decide +kernel
theorem dX1_init_59 : decode cX1_init 59 = .ok (.iload_n 1, 1) := by decide +kernel
theorem dX1_init_60 : decode cX1_init 60 = .ok (.aload_n 0, 1) := by decide +kernel
theorem dX1_init_61 : decode cX1_init 61 = .ok (.getfield 13, 3) := by decide +kernel
theorem dX1_init_64 : decode cX1_init 64 = .ok (.arraylength, 1) := by decide +kernel
theorem dX1_init_65 : decode cX1_init 65 = .ok (.if_icmp .ge 22, 3) := by decide +kernel
theorem dX1_init_68 : decode cX1_init 68 = .ok (.aload_n 0, 1) := by decide +kernel
theorem dX1_init_69 : decode cX1_init 69 = .ok (.getfield 13, 3) := by decide +kernel
theorem dX1_init_72 : decode cX1_init 72 = .ok (.iload_n 1, 1) := by decide +kernel
theorem dX1_init_73 : decode cX1_init 73 = .ok (.new 11, 3) := by decide +kernel
theorem dX1_init_76 : decode cX1_init 76 = .ok (.dup, 1) := by decide +kernel
theorem dX1_init_77 : decode cX1_init 77 = .ok (.invokespecial 42, 3) := by decide +kernel
theorem dX1_init_80 : decode cX1_init 80 = .ok (.aastore, 1) := by decide +kernel
theorem dX1_init_81 : decode cX1_init 81 = .ok (.iinc 1 1, 3) := by decide +kernel
theorem dX1_init_84 : decode cX1_init 84 = .ok (.goto (-25), 3) := by decide +kernel
theorem dX1_init_87 : decode cX1_init 87 = .ok (.iconst 0, 1) := by decide +kernel
theorem dX1_init_88 : decode cX1_init 88 = .ok (.istore_n 1, 1) := by decide +kernel
theorem dX1_init_89 : decode cX1_init 89 = .ok (.iload_n 1, 1) := by decide +kernel
theorem dX1_init_90 : decode cX1_init 90 = .ok (.aload_n 0, 1) := by decide +kernel
theorem dX1_init_91 : decode cX1_init 91 = .ok (.getfield 23, 3) := by decide +kernel
theorem dX1_init_94 : decode cX1_init 94 = .ok (.arraylength, 1) := by decide +kernel
theorem dX1_init_95 : decode cX1_init 95 = .ok (.if_icmp .ge 22, 3) := by decide +kernel
theorem dX1_init_98 : decode cX1_init 98 = .ok (.aload_n 0, 1) := by decide +kernel
theorem dX1_init_99 : decode cX1_init 99 = .ok (.getfield 23, 3) := by decide +kernel
theorem dX1_init_102 : decode cX1_init 102 = .ok (.iload_n 1, 1) := by decide +kernel
theorem dX1_init_103 : decode cX1_init 103 = .ok (.new 21, 3) := by decide +kernel
theorem dX1_init_106 : decode cX1_init 106 = .ok (.dup, 1) := by decide +kernel
theorem dX1_init_107 : decode cX1_init 107 = .ok (.invokespecial 43, 3) := by decide +kernel
theorem dX1_init_110 : decode cX1_init 110 = .ok (.aastore, 1) := by decide +kernel
theorem dX1_init_111 : decode cX1_init 111 = .ok (.iinc 1 1, 3) := by decide +kernel
theorem dX1_init_114 : decode cX1_init 114 = .ok (.goto (-25), 3) := by decide +kernel
theorem dX1_init_117 : decode cX1_init 117 = .ok (.iconst 0, 1) := by decide +kernel
theorem dX1_init_118 : decode cX1_init 118 = .ok (.istore_n 1, 1) := by decide +kernel
theorem dX1_init_119 : decode cX1_init 119 = .ok (.iload_n 1, 1) := by decide +kernel
theorem dX1_init_120 : decode cX1_init 120 = .ok (.aload_n 0, 1) := by decide +kernel
theorem dX1_init_121 : decode cX1_init 121 = .ok (.getfield 29, 3) := by decide +kernel
theorem dX1_init_124 : decode cX1_init 124 = .ok (.arraylength, 1) := by decide +kernel
theorem dX1_init_125 : decode cX1_init 125 = .ok (.if_icmp .ge 22, 3) := by decide +kernel
theorem dX1_init_128 : decode cX1_init 128 = .ok (.aload_n 0, 1) := by decide +kernel
theorem dX1_init_129 : decode cX1_init 129 = .ok (.getfield 29, 3) := by decide +kernel
theorem dX1_init_132 : decode cX1_init 132 = .ok (.iload_n 1, 1) := by decide +kernel
theorem dX1_init_133 : decode cX1_init 133 = .ok (.new 27, 3) := by decide +kernel
theorem dX1_init_136 : decode cX1_init 136 = .ok (.dup, 1) := by decide +kernel
theorem dX1_init_137 : decode cX1_init 137 = .ok (.invokespecial 37, 3) := by decide +kernel
theorem dX1_init_140 : decode cX1_init 140 = .ok (.aastore, 1) := by decide +kernel
theorem dX1_init_141 : decode cX1_init 141 = .ok (.iinc 1 1, 3) := by decide +kernel
theorem dX1_init_144 : decode cX1_init 144 = .ok (.goto (-25), 3) := by decide +kernel
theorem dX1_init_147 : decode cX1_init 147 = .ok (.aload_n 0, 1) := by decide +kernel
theorem dX1_init_148 : decode cX1_init 148 = .ok (.invokevirtual 44, 3) := by decide +kernel
theorem dX1_init_151 : decode cX1_init 151 = .ok (.return_, 1) := by decide +kernel
theorem dX1_clear_0 : decode cX1_clear 0 = .ok (.aload_n 0, 1) := by decide +kernel
theorem dX1_clear_1 : decode cX1_clear 1 = .ok (.iconst 0, 1) := by decide +kernel
theorem dX1_clear_2 : decode cX1_clear 2 = .ok (.putfield 47, 3) := by decide +kernel
theorem dX1_clear_5 : decode cX1_clear 5 = .ok (.aload_n 0, 1) := by decide +kernel
theorem dX1_clear_6 : decode cX1_clear 6 = .ok (.iconst 0, 1) := by decide +kernel
theorem dX1_clear_7 : decode cX1_clear 7 = .ok (.putfield 51, 3) := by decide +kernel
theorem dX1_clear_10 : decode cX1_clear 10 = .ok (.aload_n 0, 1) := by decide +kernel
theorem dX1_clear_11 : decode cX1_clear 11 = .ok (.lconst 1, 1) := by decide +kernel
theorem dX1_clear_12 : decode cX1_clear 12 = .ok (.putfield 54, 3) := by decide +kernel
theorem dX1_clear_15 : decode cX1_clear 15 = .ok (.aload_n 0, 1) := by decide +kernel
theorem dX1_clear_16 : decode cX1_clear 16 = .ok (.iconst 0, 1) := by decide +kernel
theorem dX1_clear_17 : decode cX1_clear 17 = .ok (.putfield 58, 3) := by decide +kernel
theorem dX1_clear_20 : decode cX1_clear 20 = .ok (.iconst 0, 1) := by decide +kernel
theorem dX1_clear_21 : decode cX1_clear 21 = .ok (.istore_n 1, 1) := by decide +kernel
theorem dX1_clear_22 : decode cX1_clear 22 = .ok (.iload_n 1, 1) := by decide +kernel
theorem dX1_clear_23 : decode cX1_clear 23 = .ok (.iconst 5, 1) := by decide +kernel
theorem dX1_clear_24 : decode cX1_clear 24 = .ok (.if_icmp .ge 16, 3) := by decide +kernel
theorem dX1_clear_27 : decode cX1_clear 27 = .ok (.aload_n 0, 1) := by decide +kernel
theorem dX1_clear_28 : decode cX1_clear 28 = .ok (.getfield 17, 3) := by decide +kernel
theorem dX1_clear_31 : decode cX1_clear 31 = .ok (.iload_n 1, 1) := by decide +kernel
theorem dX1_clear_32 : decode cX1_clear 32 = .ok (.iconst 0, 1) := by decide +kernel
theorem dX1_clear_33 : decode cX1_clear 33 = .ok (.iastore, 1) := by decide +kernel
theorem dX1_clear_34 : decode cX1_clear 34 = .ok (.iinc 1 1, 3) := by decide +kernel
theorem dX1_clear_37 : decode cX1_clear 37 = .ok (.goto (-15), 3) := by decide +kernel
theorem dX1_clear_40 : decode cX1_clear 40 = .ok (.return_, 1) := by decide +kernel
theorem dX1_copy_0 : decode cX1_copy 0 = .ok (.aload_n 0, 1) := by decide +kernel
theorem dX1_copy_1 : decode cX1_copy 1 = .ok (.aload_n 1, 1) := by decide +kernel
theorem dX1_copy_2 : decode cX1_copy 2 = .ok (.getfield 47, 3) := by decide +kernel
theorem dX1_copy_5 : decode cX1_copy 5 = .ok (.putfield 47, 3) := by decide +kernel
theorem dX1_copy_8 : decode cX1_copy 8 = .ok (.aload_n 0, 1) := by decide +kernel
theorem dX1_copy_9 : decode cX1_copy 9 = .ok (.aload_n 1, 1) := by decide +kernel
theorem dX1_copy_10 : decode cX1_copy 10 = .ok (.getfield 51, 3) := by decide +kernel
theorem dX1_copy_13 : decode cX1_copy 13 = .ok (.putfield 51, 3) := by decide +kernel
theorem dX1_copy_16 : decode cX1_copy 16 = .ok (.aload_n 0, 1) := by decide +kernel
theorem dX1_copy_17 : decode cX1_copy 17 = .ok (.aload_n 1, 1) := by decide +kernel
theorem dX1_copy_18 : decode cX1_copy 18 = .ok (.getfield 54, 3) := by decide +kernel
theorem dX1_copy_21 : decode cX1_copy 21 = .ok (.putfield 54, 3) := by decide +kernel
theorem dX1_copy_24 : decode cX1_copy 24 = .ok (.aload_n 0, 1) := by decide +kernel
theorem dX1_copy_25 : decode cX1_copy 25 = .ok (.aload_n 1, 1) := by decide +kernel
theorem dX1_copy_26 : decode cX1_copy 26 = .ok (.getfield 58, 3) := by decide +kernel
theorem dX1_copy_29 : decode cX1_copy 29 = .ok (.putfield 58, 3) := by decide +kernel
theorem dX1_copy_32 : decode cX1_copy 32 = .ok (.iconst 0, 1) := by decide +kernel
theorem dX1_copy_33 : decode cX1_copy 33 = .ok (.istore_n 2, 1) := by decide +kernel
theorem dX1_copy_34 : decode cX1_copy 34 = .ok (.iload_n 2, 1) := by decide +kernel
theorem dX1_copy_35 : decode cX1_copy 35 = .ok (.aload_n 0, 1) := by decide +kernel
theorem dX1_copy_36 : decode cX1_copy 36 = .ok (.getfield 58, 3) := by decide +kernel
theorem dX1_copy_39 : decode cX1_copy 39 = .ok (.if_icmp .ge 24, 3) := by decide +kernel
theorem dX1_copy_42 : decode cX1_copy 42 = .ok (.aload_n 0, 1) := by decide +kernel
theorem dX1_copy_43 : decode cX1_copy 43 = .ok (.getfield 13, 3) := by decide +kernel
theorem dX1_copy_46 : decode cX1_copy 46 = .ok (.iload_n 2, 1) := by decide +kernel
theorem dX1_copy_47 : decode cX1_copy 47 = .ok (.aaload, 1) := by decide +kernel
theorem dX1_copy_48 : decode cX1_copy 48 = .ok (.aload_n 1, 1) := by decide +kernel
theorem dX1_copy_49 : decode cX1_copy 49 = .ok (.getfield 13, 3) := by decide +kernel
theorem dX1_copy_52 : decode cX1_copy 52 = .ok (.iload_n 2, 1) := by decide +kernel
theorem dX1_copy_53 : decode cX1_copy 53 = .ok (.aaload, 1) := by decide +kernel
theorem dX1_copy_54 : decode cX1_copy 54 = .ok (.invokevirtual 62, 3) := by decide +kernel
theorem dX1_copy_57 : decode cX1_copy 57 = .ok (.iinc 2 1, 3) := by decide +kernel
theorem dX1_copy_60 : decode cX1_copy 60 = .ok (.goto (-26), 3) := by decide +kernel
theorem dX1_copy_63 : decode cX1_copy 63 = .ok (.iconst 0, 1) := by decide +kernel
theorem dX1_copy_64 : decode cX1_copy 64 = .ok (.istore_n 2, 1) := by decide +kernel
theorem dX1_copy_65 : decode cX1_copy 65 = .ok (.iload_n 2, 1) := by decide +kernel
theorem dX1_copy_66 : decode cX1_copy 66 = .ok (.iconst 5, 1) := by decide +kernel
theorem dX1_copy_67 : decode cX1_copy 67 = .ok (.if_icmp .ge 54, 3) := by decide +kernel
theorem dX1_copy_70 : decode cX1_copy 70 = .ok (.aload_n 0, 1) := by decide +kernel
theorem dX1_copy_71 : decode cX1_copy 71 = .ok (.getfield 17, 3) := by decide +kernel
theorem dX1_copy_74 : decode cX1_copy 74 = .ok (.iload_n 2, 1) := by decide +kernel
theorem dX1_copy_75 : decode cX1_copy 75 = .ok (.aload_n 1, 1) := by decide +kernel
theorem dX1_copy_76 : decode cX1_copy 76 = .ok (.getfield 17, 3) := by decide +kernel
theorem dX1_copy_79 : decode cX1_copy 79 = .ok (.iload_n 2, 1) := by decide +kernel
theorem dX1_copy_80 : decode cX1_copy 80 = .ok (.iaload, 1) := by decide +kernel
theorem dX1_copy_81 : decode cX1_copy 81 = .ok (.iastore, 1) := by decide +kernel
theorem dX1_copy_82 : decode cX1_copy 82 = .ok (.iconst 0, 1) := by decide +kernel
theorem dX1_copy_83 : decode cX1_copy 83 = .ok (.istore_n 3, 1) := by decide +kernel
theorem dX1_copy_84 : decode cX1_copy 84 = .ok (.iload_n 3, 1) := by decide +kernel
theorem dX1_copy_85 : decode cX1_copy 85 = .ok (.aload_n 0, 1) := by decide +kernel
theorem dX1_copy_86 : decode cX1_copy 86 = .ok (.getfield 17, 3) := by decide +kernel
theorem dX1_copy_89 : decode cX1_copy 89 = .ok (.iload_n 2, 1) := by decide +kernel
theorem dX1_copy_90 : decode cX1_copy 90 = .ok (.iaload, 1) := by decide +kernel
theorem dX1_copy_91 : decode cX1_copy 91 = .ok (.if_icmp .ge 24, 3) := by decide +kernel
theorem dX1_copy_94 : decode cX1_copy 94 = .ok (.aload_n 0, 1) := by decide +kernel
theorem dX1_copy_95 : decode cX1_copy 95 = .ok (.iload_n 2, 1) := by decide +kernel
theorem dX1_copy_96 : decode cX1_copy 96 = .ok (.iload_n 3, 1) := by decide +kernel
theorem dX1_copy_97 : decode cX1_copy 97 = .ok (.invokevirtual 66, 3) := by decide +kernel
theorem dX1_copy_100 : decode cX1_copy 100 = .ok (.aload_n 1, 1) := by decide +kernel
theorem dX1_copy_101 : decode cX1_copy 101 = .ok (.iload_n 2, 1) := by decide +kernel
theorem dX1_copy_102 : decode cX1_copy 102 = .ok (.iload_n 3, 1) := by decide +kernel
theorem dX1_copy_103 : decode cX1_copy 103 = .ok (.invokevirtual 66, 3) := by decide +kernel
theorem dX1_copy_106 : decode cX1_copy 106 = .ok (.invokevirtual 70, 3) := by decide +kernel
theorem dX1_copy_109 : decode cX1_copy 109 = .ok (.iinc 3 1, 3) := by decide +kernel
theorem dX1_copy_112 : decode cX1_copy 112 = .ok (.goto (-28), 3) := by decide +kernel
theorem dX1_copy_115 : decode cX1_copy 115 = .ok (.iinc 2 1, 3) := by decide +kernel
theorem dX1_copy_118 : decode cX1_copy 118 = .ok (.goto (-53), 3) := by decide +kernel
theorem dX1_copy_121 : decode cX1_copy 121 = .ok (.return_, 1) := by decide +kernel
theorem dX1_held_0 : decode cX1_held 0 = .ok (.aload_n 0, 1) := by decide +kernel
theorem dX1_held_1 : decode cX1_held 1 = .ok (.getfield 23, 3) := by decide +kernel
theorem dX1_held_4 : decode cX1_held 4 = .ok (.iload_n 1, 1) := by decide +kernel
theorem dX1_held_5 : decode cX1_held 5 = .ok (.iconst 2, 1) := by decide +kernel
theorem dX1_held_6 : decode cX1_held 6 = .ok (.imul, 1) := by decide +kernel
theorem dX1_held_7 : decode cX1_held 7 = .ok (.iload_n 2, 1) := by decide +kernel
theorem dX1_held_8 : decode cX1_held 8 = .ok (.iadd, 1) := by decide +kernel
theorem dX1_held_9 : decode cX1_held 9 = .ok (.aaload, 1) := by decide +kernel
theorem dX1_held_10 : decode cX1_held 10 = .ok (.areturn, 1) := by decide +kernel
theorem dX1_takesIn_0 : decode cX1_takesIn 0 = .ok (.aload_n 1, 1) := by decide +kernel
theorem dX1_takesIn_1 : decode cX1_takesIn 1 = .ok (.getfield 73, 3) := by decide +kernel
theorem dX1_takesIn_4 : decode cX1_takesIn 4 = .ok (.lstore_n 2, 1) := by decide +kernel
theorem dX1_takesIn_5 : decode cX1_takesIn 5 = .ok (.aload_n 0, 1) := by decide +kernel
theorem dX1_takesIn_6 : decode cX1_takesIn 6 = .ok (.getfield 38, 3) := by decide +kernel
theorem dX1_takesIn_9 : decode cX1_takesIn 9 = .ok (.aload_n 0, 1) := by decide +kernel
theorem dX1_takesIn_10 : decode cX1_takesIn 10 = .ok (.getfield 54, 3) := by decide +kernel
theorem dX1_takesIn_13 : decode cX1_takesIn 13 = .ok (.lload_n 2, 1) := by decide +kernel
theorem dX1_takesIn_14 : decode cX1_takesIn 14 = .ok (.invokevirtual 76, 3) := by decide +kernel
theorem dX1_takesIn_17 : decode cX1_takesIn 17 = .ok (.lload_n 2, 1) := by decide +kernel
theorem dX1_takesIn_18 : decode cX1_takesIn 18 = .ok (.ldc2_w 80, 3) := by decide +kernel
theorem dX1_takesIn_21 : decode cX1_takesIn 21 = .ok (.lcmp, 1) := by decide +kernel
theorem dX1_takesIn_22 : decode cX1_takesIn 22 = .ok (.ifCond .gt 19, 3) := by decide +kernel
theorem dX1_takesIn_25 : decode cX1_takesIn 25 = .ok (.aload_n 0, 1) := by decide +kernel
theorem dX1_takesIn_26 : decode cX1_takesIn 26 = .ok (.getfield 38, 3) := by decide +kernel
theorem dX1_takesIn_29 : decode cX1_takesIn 29 = .ok (.getfield 82, 3) := by decide +kernel
theorem dX1_takesIn_32 : decode cX1_takesIn 32 = .ok (.lload_n 2, 1) := by decide +kernel
theorem dX1_takesIn_33 : decode cX1_takesIn 33 = .ok (.lmul, 1) := by decide +kernel
theorem dX1_takesIn_34 : decode cX1_takesIn 34 = .ok (.ldc2_w 80, 3) := by decide +kernel
theorem dX1_takesIn_37 : decode cX1_takesIn 37 = .ok (.lcmp, 1) := by decide +kernel
theorem dX1_takesIn_38 : decode cX1_takesIn 38 = .ok (.ifCond .le 10, 3) := by decide +kernel
theorem dX1_takesIn_41 : decode cX1_takesIn 41 = .ok (.aload_n 0, 1) := by decide +kernel
theorem dX1_takesIn_42 : decode cX1_takesIn 42 = .ok (.iconst 1, 1) := by decide +kernel
theorem dX1_takesIn_43 : decode cX1_takesIn 43 = .ok (.putfield 51, 3) := by decide +kernel
theorem dX1_takesIn_46 : decode cX1_takesIn 46 = .ok (.iconst 0, 1) := by decide +kernel
theorem dX1_takesIn_47 : decode cX1_takesIn 47 = .ok (.ireturn, 1) := by decide +kernel
theorem dX1_takesIn_48 : decode cX1_takesIn 48 = .ok (.aload_n 0, 1) := by decide +kernel
theorem dX1_takesIn_49 : decode cX1_takesIn 49 = .ok (.aload_n 0, 1) := by decide +kernel
theorem dX1_takesIn_50 : decode cX1_takesIn 50 = .ok (.getfield 38, 3) := by decide +kernel
theorem dX1_takesIn_53 : decode cX1_takesIn 53 = .ok (.getfield 82, 3) := by decide +kernel
theorem dX1_takesIn_56 : decode cX1_takesIn 56 = .ok (.lload_n 2, 1) := by decide +kernel
theorem dX1_takesIn_57 : decode cX1_takesIn 57 = .ok (.lmul, 1) := by decide +kernel
theorem dX1_takesIn_58 : decode cX1_takesIn 58 = .ok (.putfield 54, 3) := by decide +kernel
theorem dX1_takesIn_61 : decode cX1_takesIn 61 = .ok (.iconst 1, 1) := by decide +kernel
theorem dX1_takesIn_62 : decode cX1_takesIn 62 = .ok (.ireturn, 1) := by decide +kernel
theorem dX1_note_0 : decode cX1_note 0 = .ok (.aload_n 0, 1) := by decide +kernel
theorem dX1_note_1 : decode cX1_note 1 = .ok (.getfield 58, 3) := by decide +kernel
theorem dX1_note_4 : decode cX1_note 4 = .ok (.aload_n 0, 1) := by decide +kernel
theorem dX1_note_5 : decode cX1_note 5 = .ok (.getfield 13, 3) := by decide +kernel
theorem dX1_note_8 : decode cX1_note 8 = .ok (.arraylength, 1) := by decide +kernel
theorem dX1_note_9 : decode cX1_note 9 = .ok (.if_icmp .ge 47, 3) := by decide +kernel
theorem dX1_note_12 : decode cX1_note 12 = .ok (.aload_n 0, 1) := by decide +kernel
theorem dX1_note_13 : decode cX1_note 13 = .ok (.getfield 13, 3) := by decide +kernel
theorem dX1_note_16 : decode cX1_note 16 = .ok (.aload_n 0, 1) := by decide +kernel
theorem dX1_note_17 : decode cX1_note 17 = .ok (.getfield 58, 3) := by decide +kernel
theorem dX1_note_20 : decode cX1_note 20 = .ok (.aaload, 1) := by decide +kernel
theorem dX1_note_21 : decode cX1_note 21 = .ok (.astore 5, 2) := by decide +kernel
theorem dX1_note_23 : decode cX1_note 23 = .ok (.aload 5, 2) := by decide +kernel
theorem dX1_note_25 : decode cX1_note 25 = .ok (.iload_n 1, 1) := by decide +kernel
theorem dX1_note_26 : decode cX1_note 26 = .ok (.putfield 85, 3) := by decide +kernel
theorem dX1_note_29 : decode cX1_note 29 = .ok (.aload 5, 2) := by decide +kernel
theorem dX1_note_31 : decode cX1_note 31 = .ok (.iload_n 2, 1) := by decide +kernel
theorem dX1_note_32 : decode cX1_note 32 = .ok (.putfield 88, 3) := by decide +kernel
theorem dX1_note_35 : decode cX1_note 35 = .ok (.aload 5, 2) := by decide +kernel
theorem dX1_note_37 : decode cX1_note 37 = .ok (.getfield 91, 3) := by decide +kernel
theorem dX1_note_40 : decode cX1_note 40 = .ok (.aload_n 3, 1) := by decide +kernel
theorem dX1_note_41 : decode cX1_note 41 = .ok (.aload 4, 2) := by decide +kernel
theorem dX1_note_43 : decode cX1_note 43 = .ok (.invokevirtual 95, 3) := by decide +kernel
theorem dX1_note_46 : decode cX1_note 46 = .ok (.aload_n 0, 1) := by decide +kernel
theorem dX1_note_47 : decode cX1_note 47 = .ok (.dup, 1) := by decide +kernel
theorem dX1_note_48 : decode cX1_note 48 = .ok (.getfield 58, 3) := by decide +kernel
theorem dX1_note_51 : decode cX1_note 51 = .ok (.iconst 1, 1) := by decide +kernel
theorem dX1_note_52 : decode cX1_note 52 = .ok (.iadd, 1) := by decide +kernel
theorem dX1_note_53 : decode cX1_note 53 = .ok (.putfield 58, 3) := by decide +kernel
theorem dX1_note_56 : decode cX1_note 56 = .ok (.return_, 1) := by decide +kernel
theorem dX1_give_0 : decode cX1_give 0 = .ok (.aload_n 0, 1) := by decide +kernel
theorem dX1_give_1 : decode cX1_give 1 = .ok (.getfield 17, 3) := by decide +kernel
theorem dX1_give_4 : decode cX1_give 4 = .ok (.iload_n 1, 1) := by decide +kernel
theorem dX1_give_5 : decode cX1_give 5 = .ok (.iaload, 1) := by decide +kernel
theorem dX1_give_6 : decode cX1_give 6 = .ok (.iconst 2, 1) := by decide +kernel
theorem dX1_give_7 : decode cX1_give 7 = .ok (.if_icmp .ge 29, 3) := by decide +kernel
theorem dX1_give_10 : decode cX1_give 10 = .ok (.aload_n 0, 1) := by decide +kernel
theorem dX1_give_11 : decode cX1_give 11 = .ok (.iload_n 1, 1) := by decide +kernel
theorem dX1_give_12 : decode cX1_give 12 = .ok (.aload_n 0, 1) := by decide +kernel
theorem dX1_give_13 : decode cX1_give 13 = .ok (.getfield 17, 3) := by decide +kernel
theorem dX1_give_16 : decode cX1_give 16 = .ok (.iload_n 1, 1) := by decide +kernel
theorem dX1_give_17 : decode cX1_give 17 = .ok (.iaload, 1) := by decide +kernel
theorem dX1_give_18 : decode cX1_give 18 = .ok (.invokevirtual 66, 3) := by decide +kernel
theorem dX1_give_21 : decode cX1_give 21 = .ok (.aload_n 2, 1) := by decide +kernel
theorem dX1_give_22 : decode cX1_give 22 = .ok (.aload_n 3, 1) := by decide +kernel
theorem dX1_give_23 : decode cX1_give 23 = .ok (.invokevirtual 95, 3) := by decide +kernel
theorem dX1_give_26 : decode cX1_give 26 = .ok (.aload_n 0, 1) := by decide +kernel
theorem dX1_give_27 : decode cX1_give 27 = .ok (.getfield 17, 3) := by decide +kernel
theorem dX1_give_30 : decode cX1_give 30 = .ok (.iload_n 1, 1) := by decide +kernel
theorem dX1_give_31 : decode cX1_give 31 = .ok (.dup2, 1) := by decide +kernel
theorem dX1_give_32 : decode cX1_give 32 = .ok (.iaload, 1) := by decide +kernel
theorem dX1_give_33 : decode cX1_give 33 = .ok (.iconst 1, 1) := by decide +kernel
theorem dX1_give_34 : decode cX1_give 34 = .ok (.iadd, 1) := by decide +kernel
theorem dX1_give_35 : decode cX1_give 35 = .ok (.iastore, 1) := by decide +kernel
theorem dX1_give_36 : decode cX1_give 36 = .ok (.return_, 1) := by decide +kernel
theorem dX1_overlaps_0 : decode cX1_overlaps 0 = .ok (.aload_n 1, 1) := by decide +kernel
theorem dX1_overlaps_1 : decode cX1_overlaps 1 = .ok (.invokevirtual 98, 3) := by decide +kernel
theorem dX1_overlaps_4 : decode cX1_overlaps 4 = .ok (.ifCond .eq 5, 3) := by decide +kernel
theorem dX1_overlaps_7 : decode cX1_overlaps 7 = .ok (.iconst 0, 1) := by decide +kernel
theorem dX1_overlaps_8 : decode cX1_overlaps 8 = .ok (.ireturn, 1) := by decide +kernel
theorem dX1_overlaps_9 : decode cX1_overlaps 9 = .ok (.iconst 0, 1) := by decide +kernel
theorem dX1_overlaps_10 : decode cX1_overlaps 10 = .ok (.istore_n 2, 1) := by decide +kernel
theorem dX1_overlaps_11 : decode cX1_overlaps 11 = .ok (.iload_n 2, 1) := by decide +kernel
theorem dX1_overlaps_12 : decode cX1_overlaps 12 = .ok (.iconst 5, 1) := by decide +kernel
theorem dX1_overlaps_13 : decode cX1_overlaps 13 = .ok (.if_icmp .ge 75, 3) := by decide +kernel
theorem dX1_overlaps_16 : decode cX1_overlaps 16 = .ok (.iconst 0, 1) := by decide +kernel
theorem dX1_overlaps_17 : decode cX1_overlaps 17 = .ok (.istore_n 3, 1) := by decide +kernel
theorem dX1_overlaps_18 : decode cX1_overlaps 18 = .ok (.iload_n 3, 1) := by decide +kernel
theorem dX1_overlaps_19 : decode cX1_overlaps 19 = .ok (.aload_n 0, 1) := by decide +kernel
theorem dX1_overlaps_20 : decode cX1_overlaps 20 = .ok (.getfield 17, 3) := by decide +kernel
theorem dX1_overlaps_23 : decode cX1_overlaps 23 = .ok (.iload_n 2, 1) := by decide +kernel
theorem dX1_overlaps_24 : decode cX1_overlaps 24 = .ok (.iaload, 1) := by decide +kernel
theorem dX1_overlaps_25 : decode cX1_overlaps 25 = .ok (.if_icmp .ge 57, 3) := by decide +kernel
theorem dX1_overlaps_28 : decode cX1_overlaps 28 = .ok (.aload_n 0, 1) := by decide +kernel
theorem dX1_overlaps_29 : decode cX1_overlaps 29 = .ok (.iload_n 2, 1) := by decide +kernel
theorem dX1_overlaps_30 : decode cX1_overlaps 30 = .ok (.iload_n 3, 1) := by decide +kernel
theorem dX1_overlaps_31 : decode cX1_overlaps 31 = .ok (.invokevirtual 66, 3) := by decide +kernel
theorem dX1_overlaps_34 : decode cX1_overlaps 34 = .ok (.astore 4, 2) := by decide +kernel
theorem dX1_overlaps_36 : decode cX1_overlaps 36 = .ok (.aload 4, 2) := by decide +kernel
theorem dX1_overlaps_38 : decode cX1_overlaps 38 = .ok (.invokevirtual 98, 3) := by decide +kernel
theorem dX1_overlaps_41 : decode cX1_overlaps 41 = .ok (.ifCond .ne 35, 3) := by decide +kernel
theorem dX1_overlaps_44 : decode cX1_overlaps 44 = .ok (.aload_n 1, 1) := by decide +kernel
theorem dX1_overlaps_45 : decode cX1_overlaps 45 = .ok (.getfield 102, 3) := by decide +kernel
theorem dX1_overlaps_48 : decode cX1_overlaps 48 = .ok (.aload 4, 2) := by decide +kernel
theorem dX1_overlaps_50 : decode cX1_overlaps 50 = .ok (.getfield 105, 3) := by decide +kernel
theorem dX1_overlaps_53 : decode cX1_overlaps 53 = .ok (.invokevirtual 108, 3) := by decide +kernel
theorem dX1_overlaps_56 : decode cX1_overlaps 56 = .ok (.ifCond .eq 20, 3) := by decide +kernel
theorem dX1_overlaps_59 : decode cX1_overlaps 59 = .ok (.aload 4, 2) := by decide +kernel
theorem dX1_overlaps_61 : decode cX1_overlaps 61 = .ok (.getfield 102, 3) := by decide +kernel
theorem dX1_overlaps_64 : decode cX1_overlaps 64 = .ok (.aload_n 1, 1) := by decide +kernel
theorem dX1_overlaps_65 : decode cX1_overlaps 65 = .ok (.getfield 105, 3) := by decide +kernel
theorem dX1_overlaps_68 : decode cX1_overlaps 68 = .ok (.invokevirtual 108, 3) := by decide +kernel
theorem dX1_overlaps_71 : decode cX1_overlaps 71 = .ok (.ifCond .eq 5, 3) := by decide +kernel
theorem dX1_overlaps_74 : decode cX1_overlaps 74 = .ok (.iconst 1, 1) := by decide +kernel
theorem dX1_overlaps_75 : decode cX1_overlaps 75 = .ok (.ireturn, 1) := by decide +kernel
theorem dX1_overlaps_76 : decode cX1_overlaps 76 = .ok (.iinc 3 1, 3) := by decide +kernel
theorem dX1_overlaps_79 : decode cX1_overlaps 79 = .ok (.goto (-61), 3) := by decide +kernel
theorem dX1_overlaps_82 : decode cX1_overlaps 82 = .ok (.iinc 2 1, 3) := by decide +kernel
theorem dX1_overlaps_85 : decode cX1_overlaps 85 = .ok (.goto (-74), 3) := by decide +kernel
theorem dX1_overlaps_88 : decode cX1_overlaps 88 = .ok (.iconst 0, 1) := by decide +kernel
theorem dX1_overlaps_89 : decode cX1_overlaps 89 = .ok (.ireturn, 1) := by decide +kernel
theorem dX1_holds_0 : decode cX1_holds 0 = .ok (.lconst 0, 1) := by decide +kernel
theorem dX1_holds_1 : decode cX1_holds 1 = .ok (.lstore 4, 2) := by decide +kernel
theorem dX1_holds_3 : decode cX1_holds 3 = .ok (.iconst 0, 1) := by decide +kernel
theorem dX1_holds_4 : decode cX1_holds 4 = .ok (.istore 6, 2) := by decide +kernel
theorem dX1_holds_6 : decode cX1_holds 6 = .ok (.iload 6, 2) := by decide +kernel
theorem dX1_holds_8 : decode cX1_holds 8 = .ok (.aload_n 0, 1) := by decide +kernel
theorem dX1_holds_9 : decode cX1_holds 9 = .ok (.getfield 17, 3) := by decide +kernel
theorem dX1_holds_12 : decode cX1_holds 12 = .ok (.iload_n 1, 1) := by decide +kernel
theorem dX1_holds_13 : decode cX1_holds 13 = .ok (.iaload, 1) := by decide +kernel
theorem dX1_holds_14 : decode cX1_holds 14 = .ok (.if_icmp .ge 42, 3) := by decide +kernel
theorem dX1_holds_17 : decode cX1_holds 17 = .ok (.aload_n 0, 1) := by decide +kernel
theorem dX1_holds_18 : decode cX1_holds 18 = .ok (.iload_n 1, 1) := by decide +kernel
theorem dX1_holds_19 : decode cX1_holds 19 = .ok (.iload 6, 2) := by decide +kernel
theorem dX1_holds_21 : decode cX1_holds 21 = .ok (.invokevirtual 66, 3) := by decide +kernel
theorem dX1_holds_24 : decode cX1_holds 24 = .ok (.astore 7, 2) := by decide +kernel
theorem dX1_holds_26 : decode cX1_holds 26 = .ok (.lload 4, 2) := by decide +kernel
theorem dX1_holds_28 : decode cX1_holds 28 = .ok (.aload_n 2, 1) := by decide +kernel
theorem dX1_holds_29 : decode cX1_holds 29 = .ok (.aload_n 3, 1) := by decide +kernel
theorem dX1_holds_30 : decode cX1_holds 30 = .ok (.aload 7, 2) := by decide +kernel
theorem dX1_holds_32 : decode cX1_holds 32 = .ok (.getfield 102, 3) := by decide +kernel
theorem dX1_holds_35 : decode cX1_holds 35 = .ok (.aload 7, 2) := by decide +kernel
theorem dX1_holds_37 : decode cX1_holds 37 = .ok (.getfield 105, 3) := by decide +kernel
theorem dX1_holds_40 : decode cX1_holds 40 = .ok (.aload_n 0, 1) := by decide +kernel
theorem dX1_holds_41 : decode cX1_holds 41 = .ok (.getfield 54, 3) := by decide +kernel
theorem dX1_holds_44 : decode cX1_holds 44 = .ok (.invokevirtual 112, 3) := by decide +kernel
theorem dX1_holds_47 : decode cX1_holds 47 = .ok (.ladd, 1) := by decide +kernel
theorem dX1_holds_48 : decode cX1_holds 48 = .ok (.lstore 4, 2) := by decide +kernel
theorem dX1_holds_50 : decode cX1_holds 50 = .ok (.iinc 6 1, 3) := by decide +kernel
theorem dX1_holds_53 : decode cX1_holds 53 = .ok (.goto (-47), 3) := by decide +kernel
theorem dX1_holds_56 : decode cX1_holds 56 = .ok (.lload 4, 2) := by decide +kernel
theorem dX1_holds_58 : decode cX1_holds 58 = .ok (.lreturn, 1) := by decide +kernel
theorem dX1_trimmedOff_0 : decode cX1_trimmedOff 0 = .ok (.lconst 0, 1) := by decide +kernel
theorem dX1_trimmedOff_1 : decode cX1_trimmedOff 1 = .ok (.lstore_n 3, 1) := by decide +kernel
theorem dX1_trimmedOff_2 : decode cX1_trimmedOff 2 = .ok (.iconst 0, 1) := by decide +kernel
theorem dX1_trimmedOff_3 : decode cX1_trimmedOff 3 = .ok (.istore 5, 2) := by decide +kernel
theorem dX1_trimmedOff_5 : decode cX1_trimmedOff 5 = .ok (.iload 5, 2) := by decide +kernel
theorem dX1_trimmedOff_7 : decode cX1_trimmedOff 7 = .ok (.aload_n 0, 1) := by decide +kernel
theorem dX1_trimmedOff_8 : decode cX1_trimmedOff 8 = .ok (.getfield 58, 3) := by decide +kernel
theorem dX1_trimmedOff_11 : decode cX1_trimmedOff 11 = .ok (.if_icmp .ge 61, 3) := by decide +kernel
theorem dX1_trimmedOff_14 : decode cX1_trimmedOff 14 = .ok (.aload_n 0, 1) := by decide +kernel
theorem dX1_trimmedOff_15 : decode cX1_trimmedOff 15 = .ok (.getfield 13, 3) := by decide +kernel
theorem dX1_trimmedOff_18 : decode cX1_trimmedOff 18 = .ok (.iload 5, 2) := by decide +kernel
theorem dX1_trimmedOff_20 : decode cX1_trimmedOff 20 = .ok (.aaload, 1) := by decide +kernel
theorem dX1_trimmedOff_21 : decode cX1_trimmedOff 21 = .ok (.getfield 85, 3) := by decide +kernel
theorem dX1_trimmedOff_24 : decode cX1_trimmedOff 24 = .ok (.iconst 1, 1) := by decide +kernel
theorem dX1_trimmedOff_25 : decode cX1_trimmedOff 25 = .ok (.if_icmp .ne 41, 3) := by decide +kernel
theorem dX1_trimmedOff_28 : decode cX1_trimmedOff 28 = .ok (.lload_n 3, 1) := by decide +kernel
theorem dX1_trimmedOff_29 : decode cX1_trimmedOff 29 = .ok (.aload_n 1, 1) := by decide +kernel
theorem dX1_trimmedOff_30 : decode cX1_trimmedOff 30 = .ok (.aload_n 2, 1) := by decide +kernel
theorem dX1_trimmedOff_31 : decode cX1_trimmedOff 31 = .ok (.aload_n 0, 1) := by decide +kernel
theorem dX1_trimmedOff_32 : decode cX1_trimmedOff 32 = .ok (.getfield 13, 3) := by decide +kernel
theorem dX1_trimmedOff_35 : decode cX1_trimmedOff 35 = .ok (.iload 5, 2) := by decide +kernel
theorem dX1_trimmedOff_37 : decode cX1_trimmedOff 37 = .ok (.aaload, 1) := by decide +kernel
theorem dX1_trimmedOff_38 : decode cX1_trimmedOff 38 = .ok (.getfield 91, 3) := by decide +kernel
theorem dX1_trimmedOff_41 : decode cX1_trimmedOff 41 = .ok (.getfield 102, 3) := by decide +kernel
theorem dX1_trimmedOff_44 : decode cX1_trimmedOff 44 = .ok (.aload_n 0, 1) := by decide +kernel
theorem dX1_trimmedOff_45 : decode cX1_trimmedOff 45 = .ok (.getfield 13, 3) := by decide +kernel
theorem dX1_trimmedOff_48 : decode cX1_trimmedOff 48 = .ok (.iload 5, 2) := by decide +kernel
theorem dX1_trimmedOff_50 : decode cX1_trimmedOff 50 = .ok (.aaload, 1) := by decide +kernel
theorem dX1_trimmedOff_51 : decode cX1_trimmedOff 51 = .ok (.getfield 91, 3) := by decide +kernel
theorem dX1_trimmedOff_54 : decode cX1_trimmedOff 54 = .ok (.getfield 105, 3) := by decide +kernel
theorem dX1_trimmedOff_57 : decode cX1_trimmedOff 57 = .ok (.aload_n 0, 1) := by decide +kernel
theorem dX1_trimmedOff_58 : decode cX1_trimmedOff 58 = .ok (.getfield 54, 3) := by decide +kernel
theorem dX1_trimmedOff_61 : decode cX1_trimmedOff 61 = .ok (.invokevirtual 112, 3) := by decide +kernel
theorem dX1_trimmedOff_64 : decode cX1_trimmedOff 64 = .ok (.ladd, 1) := by decide +kernel
theorem dX1_trimmedOff_65 : decode cX1_trimmedOff 65 = .ok (.lstore_n 3, 1) := by decide +kernel
theorem dX1_trimmedOff_66 : decode cX1_trimmedOff 66 = .ok (.iinc 5 1, 3) := by decide +kernel
theorem dX1_trimmedOff_69 : decode cX1_trimmedOff 69 = .ok (.goto (-64), 3) := by decide +kernel
theorem dX1_trimmedOff_72 : decode cX1_trimmedOff 72 = .ok (.lload_n 3, 1) := by decide +kernel
theorem dX1_trimmedOff_73 : decode cX1_trimmedOff 73 = .ok (.lreturn, 1) := by decide +kernel
theorem dX1_leftOver_0 : decode cX1_leftOver 0 = .ok (.aload_n 1, 1) := by decide +kernel
theorem dX1_leftOver_1 : decode cX1_leftOver 1 = .ok (.aload_n 2, 1) := by decide +kernel
theorem dX1_leftOver_2 : decode cX1_leftOver 2 = .ok (.invokevirtual 118, 3) := by decide +kernel
theorem dX1_leftOver_5 : decode cX1_leftOver 5 = .ok (.i2l, 1) := by decide +kernel
theorem dX1_leftOver_6 : decode cX1_leftOver 6 = .ok (.aload_n 0, 1) := by decide +kernel
theorem dX1_leftOver_7 : decode cX1_leftOver 7 = .ok (.getfield 54, 3) := by decide +kernel
theorem dX1_leftOver_10 : decode cX1_leftOver 10 = .ok (.lmul, 1) := by decide +kernel
theorem dX1_leftOver_11 : decode cX1_leftOver 11 = .ok (.lstore_n 3, 1) := by decide +kernel
theorem dX1_leftOver_12 : decode cX1_leftOver 12 = .ok (.iconst 0, 1) := by decide +kernel
theorem dX1_leftOver_13 : decode cX1_leftOver 13 = .ok (.istore 5, 2) := by decide +kernel
theorem dX1_leftOver_15 : decode cX1_leftOver 15 = .ok (.iload 5, 2) := by decide +kernel
theorem dX1_leftOver_17 : decode cX1_leftOver 17 = .ok (.iconst 5, 1) := by decide +kernel
theorem dX1_leftOver_18 : decode cX1_leftOver 18 = .ok (.if_icmp .ge 20, 3) := by decide +kernel
theorem dX1_leftOver_21 : decode cX1_leftOver 21 = .ok (.lload_n 3, 1) := by decide +kernel
theorem dX1_leftOver_22 : decode cX1_leftOver 22 = .ok (.aload_n 0, 1) := by decide +kernel
theorem dX1_leftOver_23 : decode cX1_leftOver 23 = .ok (.iload 5, 2) := by decide +kernel
theorem dX1_leftOver_25 : decode cX1_leftOver 25 = .ok (.aload_n 1, 1) := by decide +kernel
theorem dX1_leftOver_26 : decode cX1_leftOver 26 = .ok (.aload_n 2, 1) := by decide +kernel
theorem dX1_leftOver_27 : decode cX1_leftOver 27 = .ok (.invokevirtual 122, 3) := by decide +kernel
theorem dX1_leftOver_30 : decode cX1_leftOver 30 = .ok (.lsub, 1) := by decide +kernel
theorem dX1_leftOver_31 : decode cX1_leftOver 31 = .ok (.lstore_n 3, 1) := by decide +kernel
theorem dX1_leftOver_32 : decode cX1_leftOver 32 = .ok (.iinc 5 1, 3) := by decide +kernel
theorem dX1_leftOver_35 : decode cX1_leftOver 35 = .ok (.goto (-20), 3) := by decide +kernel
theorem dX1_leftOver_38 : decode cX1_leftOver 38 = .ok (.lload_n 3, 1) := by decide +kernel
theorem dX1_leftOver_39 : decode cX1_leftOver 39 = .ok (.lreturn, 1) := by decide +kernel
theorem dX1_countCuts_0 : decode cX1_countCuts 0 = .ok (.iconst 0, 1) := by decide +kernel
theorem dX1_countCuts_1 : decode cX1_countCuts 1 = .ok (.istore_n 2, 1) := by decide +kernel
theorem dX1_countCuts_2 : decode cX1_countCuts 2 = .ok (.iconst 0, 1) := by decide +kernel
theorem dX1_countCuts_3 : decode cX1_countCuts 3 = .ok (.istore_n 3, 1) := by decide +kernel
theorem dX1_countCuts_4 : decode cX1_countCuts 4 = .ok (.iload_n 3, 1) := by decide +kernel
theorem dX1_countCuts_5 : decode cX1_countCuts 5 = .ok (.iconst 5, 1) := by decide +kernel
theorem dX1_countCuts_6 : decode cX1_countCuts 6 = .ok (.if_icmp .ge 70, 3) := by decide +kernel
theorem dX1_countCuts_9 : decode cX1_countCuts 9 = .ok (.iconst 0, 1) := by decide +kernel
theorem dX1_countCuts_10 : decode cX1_countCuts 10 = .ok (.istore 4, 2) := by decide +kernel
theorem dX1_countCuts_12 : decode cX1_countCuts 12 = .ok (.iload 4, 2) := by decide +kernel
theorem dX1_countCuts_14 : decode cX1_countCuts 14 = .ok (.aload_n 0, 1) := by decide +kernel
theorem dX1_countCuts_15 : decode cX1_countCuts 15 = .ok (.getfield 17, 3) := by decide +kernel
theorem dX1_countCuts_18 : decode cX1_countCuts 18 = .ok (.iload_n 3, 1) := by decide +kernel
theorem dX1_countCuts_19 : decode cX1_countCuts 19 = .ok (.iaload, 1) := by decide +kernel
theorem dX1_countCuts_20 : decode cX1_countCuts 20 = .ok (.if_icmp .ge 50, 3) := by decide +kernel
theorem dX1_countCuts_23 : decode cX1_countCuts 23 = .ok (.aload_n 0, 1) := by decide +kernel
theorem dX1_countCuts_24 : decode cX1_countCuts 24 = .ok (.iload_n 3, 1) := by decide +kernel
theorem dX1_countCuts_25 : decode cX1_countCuts 25 = .ok (.iload 4, 2) := by decide +kernel
theorem dX1_countCuts_27 : decode cX1_countCuts 27 = .ok (.invokevirtual 66, 3) := by decide +kernel
theorem dX1_countCuts_30 : decode cX1_countCuts 30 = .ok (.astore 5, 2) := by decide +kernel
theorem dX1_countCuts_32 : decode cX1_countCuts 32 = .ok (.aload 5, 2) := by decide +kernel
theorem dX1_countCuts_34 : decode cX1_countCuts 34 = .ok (.invokevirtual 98, 3) := by decide +kernel
theorem dX1_countCuts_37 : decode cX1_countCuts 37 = .ok (.ifCond .ne 27, 3) := by decide +kernel
theorem dX1_countCuts_40 : decode cX1_countCuts 40 = .ok (.aload_n 0, 1) := by decide +kernel
theorem dX1_countCuts_41 : decode cX1_countCuts 41 = .ok (.aload 5, 2) := by decide +kernel
theorem dX1_countCuts_43 : decode cX1_countCuts 43 = .ok (.getfield 102, 3) := by decide +kernel
theorem dX1_countCuts_46 : decode cX1_countCuts 46 = .ok (.iload_n 2, 1) := by decide +kernel
theorem dX1_countCuts_47 : decode cX1_countCuts 47 = .ok (.iload_n 1, 1) := by decide +kernel
theorem dX1_countCuts_48 : decode cX1_countCuts 48 = .ok (.invokevirtual 126, 3) := by decide +kernel
theorem dX1_countCuts_51 : decode cX1_countCuts 51 = .ok (.istore_n 2, 1) := by decide +kernel
theorem dX1_countCuts_52 : decode cX1_countCuts 52 = .ok (.aload_n 0, 1) := by decide +kernel
theorem dX1_countCuts_53 : decode cX1_countCuts 53 = .ok (.aload 5, 2) := by decide +kernel
theorem dX1_countCuts_55 : decode cX1_countCuts 55 = .ok (.getfield 105, 3) := by decide +kernel
theorem dX1_countCuts_58 : decode cX1_countCuts 58 = .ok (.iload_n 2, 1) := by decide +kernel
theorem dX1_countCuts_59 : decode cX1_countCuts 59 = .ok (.iload_n 1, 1) := by decide +kernel
theorem dX1_countCuts_60 : decode cX1_countCuts 60 = .ok (.invokevirtual 126, 3) := by decide +kernel
theorem dX1_countCuts_63 : decode cX1_countCuts 63 = .ok (.istore_n 2, 1) := by decide +kernel
theorem dX1_countCuts_64 : decode cX1_countCuts 64 = .ok (.iinc 4 1, 3) := by decide +kernel
theorem dX1_countCuts_67 : decode cX1_countCuts 67 = .ok (.goto (-55), 3) := by decide +kernel
theorem dX1_countCuts_70 : decode cX1_countCuts 70 = .ok (.iinc 3 1, 3) := by decide +kernel
theorem dX1_countCuts_73 : decode cX1_countCuts 73 = .ok (.goto (-69), 3) := by decide +kernel
theorem dX1_countCuts_76 : decode cX1_countCuts 76 = .ok (.iload_n 2, 1) := by decide +kernel
theorem dX1_countCuts_77 : decode cX1_countCuts 77 = .ok (.ireturn, 1) := by decide +kernel
theorem dX1_see_0 : decode cX1_see 0 = .ok (.aload_n 1, 1) := by decide +kernel
theorem dX1_see_1 : decode cX1_see 1 = .ok (.lconst 0, 1) := by decide +kernel
theorem dX1_see_2 : decode cX1_see 2 = .ok (.lconst 1, 1) := by decide +kernel
theorem dX1_see_3 : decode cX1_see 3 = .ok (.invokevirtual 130, 3) := by decide +kernel
theorem dX1_see_6 : decode cX1_see 6 = .ok (.ifCond .ne 13, 3) := by decide +kernel
theorem dX1_see_9 : decode cX1_see 9 = .ok (.aload_n 1, 1) := by decide +kernel
theorem dX1_see_10 : decode cX1_see 10 = .ok (.iload_n 3, 1) := by decide +kernel
theorem dX1_see_11 : decode cX1_see 11 = .ok (.i2l, 1) := by decide +kernel
theorem dX1_see_12 : decode cX1_see 12 = .ok (.lconst 1, 1) := by decide +kernel
theorem dX1_see_13 : decode cX1_see 13 = .ok (.invokevirtual 130, 3) := by decide +kernel
theorem dX1_see_16 : decode cX1_see 16 = .ok (.ifCond .eq 5, 3) := by decide +kernel
theorem dX1_see_19 : decode cX1_see 19 = .ok (.iload_n 2, 1) := by decide +kernel
theorem dX1_see_20 : decode cX1_see 20 = .ok (.ireturn, 1) := by decide +kernel
theorem dX1_see_21 : decode cX1_see 21 = .ok (.iconst 0, 1) := by decide +kernel
theorem dX1_see_22 : decode cX1_see 22 = .ok (.istore 4, 2) := by decide +kernel
theorem dX1_see_24 : decode cX1_see 24 = .ok (.iload 4, 2) := by decide +kernel
theorem dX1_see_26 : decode cX1_see 26 = .ok (.iload_n 2, 1) := by decide +kernel
theorem dX1_see_27 : decode cX1_see 27 = .ok (.if_icmp .ge 32, 3) := by decide +kernel
theorem dX1_see_30 : decode cX1_see 30 = .ok (.aload_n 0, 1) := by decide +kernel
theorem dX1_see_31 : decode cX1_see 31 = .ok (.getfield 29, 3) := by decide +kernel
theorem dX1_see_34 : decode cX1_see 34 = .ok (.iload 4, 2) := by decide +kernel
theorem dX1_see_36 : decode cX1_see 36 = .ok (.aaload, 1) := by decide +kernel
theorem dX1_see_37 : decode cX1_see 37 = .ok (.aload_n 1, 1) := by decide +kernel
theorem dX1_see_38 : decode cX1_see 38 = .ok (.getfield 82, 3) := by decide +kernel
theorem dX1_see_41 : decode cX1_see 41 = .ok (.aload_n 1, 1) := by decide +kernel
theorem dX1_see_42 : decode cX1_see 42 = .ok (.getfield 73, 3) := by decide +kernel
theorem dX1_see_45 : decode cX1_see 45 = .ok (.invokevirtual 130, 3) := by decide +kernel
theorem dX1_see_48 : decode cX1_see 48 = .ok (.ifCond .eq 5, 3) := by decide +kernel
theorem dX1_see_51 : decode cX1_see 51 = .ok (.iload_n 2, 1) := by decide +kernel
theorem dX1_see_52 : decode cX1_see 52 = .ok (.ireturn, 1) := by decide +kernel
theorem dX1_see_53 : decode cX1_see 53 = .ok (.iinc 4 1, 3) := by decide +kernel
theorem dX1_see_56 : decode cX1_see 56 = .ok (.goto (-32), 3) := by decide +kernel
theorem dX1_see_59 : decode cX1_see 59 = .ok (.iload_n 2, 1) := by decide +kernel
theorem dX1_see_60 : decode cX1_see 60 = .ok (.aload_n 0, 1) := by decide +kernel
theorem dX1_see_61 : decode cX1_see 61 = .ok (.getfield 29, 3) := by decide +kernel
theorem dX1_see_64 : decode cX1_see 64 = .ok (.arraylength, 1) := by decide +kernel
theorem dX1_see_65 : decode cX1_see 65 = .ok (.if_icmp .lt 5, 3) := by decide +kernel
theorem dX1_see_68 : decode cX1_see 68 = .ok (.iload_n 2, 1) := by decide +kernel
theorem dX1_see_69 : decode cX1_see 69 = .ok (.ireturn, 1) := by decide +kernel
theorem dX1_see_70 : decode cX1_see 70 = .ok (.aload_n 0, 1) := by decide +kernel
theorem dX1_see_71 : decode cX1_see 71 = .ok (.getfield 29, 3) := by decide +kernel
theorem dX1_see_74 : decode cX1_see 74 = .ok (.iload_n 2, 1) := by decide +kernel
theorem dX1_see_75 : decode cX1_see 75 = .ok (.aaload, 1) := by decide +kernel
theorem dX1_see_76 : decode cX1_see 76 = .ok (.aload_n 1, 1) := by decide +kernel
theorem dX1_see_77 : decode cX1_see 77 = .ok (.invokevirtual 134, 3) := by decide +kernel
theorem dX1_see_80 : decode cX1_see 80 = .ok (.iload_n 2, 1) := by decide +kernel
theorem dX1_see_81 : decode cX1_see 81 = .ok (.iconst 1, 1) := by decide +kernel
theorem dX1_see_82 : decode cX1_see 82 = .ok (.iadd, 1) := by decide +kernel
theorem dX1_see_83 : decode cX1_see 83 = .ok (.ireturn, 1) := by decide +kernel
theorem dX1_bestExchange_0 : decode cX1_bestExchange 0 = .ok (.aload_n 1, 1) := by decide +kernel
theorem dX1_bestExchange_1 : decode cX1_bestExchange 1 = .ok (.getfield 137, 3) := by decide +kernel
theorem dX1_bestExchange_4 : decode cX1_bestExchange 4 = .ok (.istore_n 2, 1) := by decide +kernel
theorem dX1_bestExchange_5 : decode cX1_bestExchange 5 = .ok (.iconst 1, 1) := by decide +kernel
theorem dX1_bestExchange_6 : decode cX1_bestExchange 6 = .ok (.istore_n 3, 1) := by decide +kernel
theorem dX1_bestExchange_7 : decode cX1_bestExchange 7 = .ok (.iconst 0, 1) := by decide +kernel
theorem dX1_bestExchange_8 : decode cX1_bestExchange 8 = .ok (.istore 4, 2) := by decide +kernel
theorem dX1_bestExchange_10 : decode cX1_bestExchange 10 = .ok (.iload 4, 2) := by decide +kernel
theorem dX1_bestExchange_12 : decode cX1_bestExchange 12 = .ok (.iload_n 2, 1) := by decide +kernel
theorem dX1_bestExchange_13 : decode cX1_bestExchange 13 = .ok (.if_icmp .ge 54, 3) := by decide +kernel
theorem dX1_bestExchange_16 : decode cX1_bestExchange 16 = .ok (.iload_n 3, 1) := by decide +kernel
theorem dX1_bestExchange_17 : decode cX1_bestExchange 17 = .ok (.iload_n 2, 1) := by decide +kernel
theorem dX1_bestExchange_18 : decode cX1_bestExchange 18 = .ok (.imul, 1) := by decide +kernel
theorem dX1_bestExchange_19 : decode cX1_bestExchange 19 = .ok (.istore_n 3, 1) := by decide +kernel
theorem dX1_bestExchange_20 : decode cX1_bestExchange 20 = .ok (.iconst 0, 1) := by decide +kernel
theorem dX1_bestExchange_21 : decode cX1_bestExchange 21 = .ok (.istore 5, 2) := by decide +kernel
theorem dX1_bestExchange_23 : decode cX1_bestExchange 23 = .ok (.iload 5, 2) := by decide +kernel
theorem dX1_bestExchange_25 : decode cX1_bestExchange 25 = .ok (.iload_n 2, 1) := by decide +kernel
theorem dX1_bestExchange_26 : decode cX1_bestExchange 26 = .ok (.if_icmp .ge 35, 3) := by decide +kernel
theorem dX1_bestExchange_29 : decode cX1_bestExchange 29 = .ok (.aload_n 0, 1) := by decide +kernel
theorem dX1_bestExchange_30 : decode cX1_bestExchange 30 = .ok (.getfield 33, 3) := by decide +kernel
theorem dX1_bestExchange_33 : decode cX1_bestExchange 33 = .ok (.iload 4, 2) := by decide +kernel
theorem dX1_bestExchange_35 : decode cX1_bestExchange 35 = .ok (.iconst 5, 1) := by decide +kernel
theorem dX1_bestExchange_36 : decode cX1_bestExchange 36 = .ok (.imul, 1) := by decide +kernel
theorem dX1_bestExchange_37 : decode cX1_bestExchange 37 = .ok (.iload 5, 2) := by decide +kernel
theorem dX1_bestExchange_39 : decode cX1_bestExchange 39 = .ok (.iadd, 1) := by decide +kernel
theorem dX1_bestExchange_40 : decode cX1_bestExchange 40 = .ok (.aload_n 0, 1) := by decide +kernel
theorem dX1_bestExchange_41 : decode cX1_bestExchange 41 = .ok (.iload 5, 2) := by decide +kernel
theorem dX1_bestExchange_43 : decode cX1_bestExchange 43 = .ok (.aload_n 1, 1) := by decide +kernel
theorem dX1_bestExchange_44 : decode cX1_bestExchange 44 = .ok (.aload_n 1, 1) := by decide +kernel
theorem dX1_bestExchange_45 : decode cX1_bestExchange 45 = .ok (.getfield 140, 3) := by decide +kernel
theorem dX1_bestExchange_48 : decode cX1_bestExchange 48 = .ok (.iload 4, 2) := by decide +kernel
theorem dX1_bestExchange_50 : decode cX1_bestExchange 50 = .ok (.aaload, 1) := by decide +kernel
theorem dX1_bestExchange_51 : decode cX1_bestExchange 51 = .ok (.invokevirtual 122, 3) := by decide +kernel
theorem dX1_bestExchange_54 : decode cX1_bestExchange 54 = .ok (.lastore, 1) := by decide +kernel
theorem dX1_bestExchange_55 : decode cX1_bestExchange 55 = .ok (.iinc 5 1, 3) := by decide +kernel
theorem dX1_bestExchange_58 : decode cX1_bestExchange 58 = .ok (.goto (-35), 3) := by decide +kernel
theorem dX1_bestExchange_61 : decode cX1_bestExchange 61 = .ok (.iinc 4 1, 3) := by decide +kernel
theorem dX1_bestExchange_64 : decode cX1_bestExchange 64 = .ok (.goto (-54), 3) := by decide +kernel
theorem dX1_bestExchange_67 : decode cX1_bestExchange 67 = .ok (.ldc2_w 144, 3) := by decide +kernel
theorem dX1_bestExchange_70 : decode cX1_bestExchange 70 = .ok (.lstore 4, 2) := by decide +kernel
theorem dX1_bestExchange_72 : decode cX1_bestExchange 72 = .ok (.iconst 0, 1) := by decide +kernel
theorem dX1_bestExchange_73 : decode cX1_bestExchange 73 = .ok (.istore 6, 2) := by decide +kernel
theorem dX1_bestExchange_75 : decode cX1_bestExchange 75 = .ok (.iconst 0, 1) := by decide +kernel
theorem dX1_bestExchange_76 : decode cX1_bestExchange 76 = .ok (.istore 7, 2) := by decide +kernel
theorem dX1_bestExchange_78 : decode cX1_bestExchange 78 = .ok (.iload 7, 2) := by decide +kernel
theorem dX1_bestExchange_80 : decode cX1_bestExchange 80 = .ok (.iload_n 3, 1) := by decide +kernel
theorem dX1_bestExchange_81 : decode cX1_bestExchange 81 = .ok (.if_icmp .ge 34, 3) := by decide +kernel
theorem dX1_bestExchange_84 : decode cX1_bestExchange 84 = .ok (.aload_n 0, 1) := by decide +kernel
theorem dX1_bestExchange_85 : decode cX1_bestExchange 85 = .ok (.iload 7, 2) := by decide +kernel
theorem dX1_bestExchange_87 : decode cX1_bestExchange 87 = .ok (.iload_n 2, 1) := by decide +kernel
theorem dX1_bestExchange_88 : decode cX1_bestExchange 88 = .ok (.invokevirtual 146, 3) := by decide +kernel
theorem dX1_bestExchange_91 : decode cX1_bestExchange 91 = .ok (.lstore 8, 2) := by decide +kernel
theorem dX1_bestExchange_93 : decode cX1_bestExchange 93 = .ok (.lload 8, 2) := by decide +kernel
theorem dX1_bestExchange_95 : decode cX1_bestExchange 95 = .ok (.lload 4, 2) := by decide +kernel
theorem dX1_bestExchange_97 : decode cX1_bestExchange 97 = .ok (.lcmp, 1) := by decide +kernel
theorem dX1_bestExchange_98 : decode cX1_bestExchange 98 = .ok (.ifCond .le 11, 3) := by decide +kernel
theorem dX1_bestExchange_101 : decode cX1_bestExchange 101 = .ok (.lload 8, 2) := by decide +kernel
theorem dX1_bestExchange_103 : decode cX1_bestExchange 103 = .ok (.lstore 4, 2) := by decide +kernel
theorem dX1_bestExchange_105 : decode cX1_bestExchange 105 = .ok (.iload 7, 2) := by decide +kernel
theorem dX1_bestExchange_107 : decode cX1_bestExchange 107 = .ok (.istore 6, 2) := by decide +kernel
theorem dX1_bestExchange_109 : decode cX1_bestExchange 109 = .ok (.iinc 7 1, 3) := by decide +kernel
theorem dX1_bestExchange_112 : decode cX1_bestExchange 112 = .ok (.goto (-34), 3) := by decide +kernel
theorem dX1_bestExchange_115 : decode cX1_bestExchange 115 = .ok (.iload 6, 2) := by decide +kernel
theorem dX1_bestExchange_117 : decode cX1_bestExchange 117 = .ok (.iload_n 2, 1) := by decide +kernel
theorem dX1_bestExchange_118 : decode cX1_bestExchange 118 = .ok (.invokestatic 150, 3) := by decide +kernel
theorem dX1_bestExchange_121 : decode cX1_bestExchange 121 = .ok (.ireturn, 1) := by decide +kernel
theorem dX1_together_0 : decode cX1_together 0 = .ok (.iconst 0, 1) := by decide +kernel
theorem dX1_together_1 : decode cX1_together 1 = .ok (.istore_n 3, 1) := by decide +kernel
theorem dX1_together_2 : decode cX1_together 2 = .ok (.lconst 0, 1) := by decide +kernel
theorem dX1_together_3 : decode cX1_together 3 = .ok (.lstore 4, 2) := by decide +kernel
theorem dX1_together_5 : decode cX1_together 5 = .ok (.iload_n 1, 1) := by decide +kernel
theorem dX1_together_6 : decode cX1_together 6 = .ok (.istore 6, 2) := by decide +kernel
theorem dX1_together_8 : decode cX1_together 8 = .ok (.iload_n 2, 1) := by decide +kernel
theorem dX1_together_9 : decode cX1_together 9 = .ok (.iconst 1, 1) := by decide +kernel
theorem dX1_together_10 : decode cX1_together 10 = .ok (.isub, 1) := by decide +kernel
theorem dX1_together_11 : decode cX1_together 11 = .ok (.istore 7, 2) := by decide +kernel
theorem dX1_together_13 : decode cX1_together 13 = .ok (.iload 7, 2) := by decide +kernel
theorem dX1_together_15 : decode cX1_together 15 = .ok (.ifCond .lt 45, 3) := by decide +kernel
theorem dX1_together_18 : decode cX1_together 18 = .ok (.iload 6, 2) := by decide +kernel
theorem dX1_together_20 : decode cX1_together 20 = .ok (.iload_n 2, 1) := by decide +kernel
theorem dX1_together_21 : decode cX1_together 21 = .ok (.irem, 1) := by decide +kernel
theorem dX1_together_22 : decode cX1_together 22 = .ok (.istore 8, 2) := by decide +kernel
theorem dX1_together_24 : decode cX1_together 24 = .ok (.iload 6, 2) := by decide +kernel
theorem dX1_together_26 : decode cX1_together 26 = .ok (.iload_n 2, 1) := by decide +kernel
theorem dX1_together_27 : decode cX1_together 27 = .ok (.idiv, 1) := by decide +kernel
theorem dX1_together_28 : decode cX1_together 28 = .ok (.istore 6, 2) := by decide +kernel
theorem dX1_together_30 : decode cX1_together 30 = .ok (.iload_n 3, 1) := by decide +kernel
theorem dX1_together_31 : decode cX1_together 31 = .ok (.iconst 1, 1) := by decide +kernel
theorem dX1_together_32 : decode cX1_together 32 = .ok (.iload 8, 2) := by decide +kernel
theorem dX1_together_34 : decode cX1_together 34 = .ok (.ishl, 1) := by decide +kernel
theorem dX1_together_35 : decode cX1_together 35 = .ok (.ior, 1) := by decide +kernel
theorem dX1_together_36 : decode cX1_together 36 = .ok (.istore_n 3, 1) := by decide +kernel
theorem dX1_together_37 : decode cX1_together 37 = .ok (.lload 4, 2) := by decide +kernel
theorem dX1_together_39 : decode cX1_together 39 = .ok (.aload_n 0, 1) := by decide +kernel
theorem dX1_together_40 : decode cX1_together 40 = .ok (.getfield 33, 3) := by decide +kernel
theorem dX1_together_43 : decode cX1_together 43 = .ok (.iload 7, 2) := by decide +kernel
theorem dX1_together_45 : decode cX1_together 45 = .ok (.iconst 5, 1) := by decide +kernel
theorem dX1_together_46 : decode cX1_together 46 = .ok (.imul, 1) := by decide +kernel
theorem dX1_together_47 : decode cX1_together 47 = .ok (.iload 8, 2) := by decide +kernel
theorem dX1_together_49 : decode cX1_together 49 = .ok (.iadd, 1) := by decide +kernel
theorem dX1_together_50 : decode cX1_together 50 = .ok (.laload, 1) := by decide +kernel
theorem dX1_together_51 : decode cX1_together 51 = .ok (.ladd, 1) := by decide +kernel
theorem dX1_together_52 : decode cX1_together 52 = .ok (.lstore 4, 2) := by decide +kernel
theorem dX1_together_54 : decode cX1_together 54 = .ok (.iinc 7 (-1), 3) := by decide +kernel
theorem dX1_together_57 : decode cX1_together 57 = .ok (.goto (-44), 3) := by decide +kernel
theorem dX1_together_60 : decode cX1_together 60 = .ok (.iload_n 3, 1) := by decide +kernel
theorem dX1_together_61 : decode cX1_together 61 = .ok (.iconst 1, 1) := by decide +kernel
theorem dX1_together_62 : decode cX1_together 62 = .ok (.iload_n 2, 1) := by decide +kernel
theorem dX1_together_63 : decode cX1_together 63 = .ok (.ishl, 1) := by decide +kernel
theorem dX1_together_64 : decode cX1_together 64 = .ok (.iconst 1, 1) := by decide +kernel
theorem dX1_together_65 : decode cX1_together 65 = .ok (.isub, 1) := by decide +kernel
theorem dX1_together_66 : decode cX1_together 66 = .ok (.if_icmp .ne 8, 3) := by decide +kernel
theorem dX1_together_69 : decode cX1_together 69 = .ok (.lload 4, 2) := by decide +kernel
theorem dX1_together_71 : decode cX1_together 71 = .ok (.goto 6, 3) := by decide +kernel
theorem dX1_together_74 : decode cX1_together 74 = .ok (.ldc2_w 144, 3) := by decide +kernel
theorem dX1_together_77 : decode cX1_together 77 = .ok (.lreturn, 1) := by decide +kernel
theorem dX1_figures_0 : decode cX1_figures 0 = .ok (.iconst 0, 1) := by decide +kernel
theorem dX1_figures_1 : decode cX1_figures 1 = .ok (.istore_n 2, 1) := by decide +kernel
theorem dX1_figures_2 : decode cX1_figures 2 = .ok (.iconst 1, 1) := by decide +kernel
theorem dX1_figures_3 : decode cX1_figures 3 = .ok (.istore_n 3, 1) := by decide +kernel
theorem dX1_figures_4 : decode cX1_figures 4 = .ok (.iload_n 0, 1) := by decide +kernel
theorem dX1_figures_5 : decode cX1_figures 5 = .ok (.istore 4, 2) := by decide +kernel
theorem dX1_figures_7 : decode cX1_figures 7 = .ok (.iconst 0, 1) := by decide +kernel
theorem dX1_figures_8 : decode cX1_figures 8 = .ok (.istore 5, 2) := by decide +kernel
theorem dX1_figures_10 : decode cX1_figures 10 = .ok (.iload 5, 2) := by decide +kernel
theorem dX1_figures_12 : decode cX1_figures 12 = .ok (.iload_n 1, 1) := by decide +kernel
theorem dX1_figures_13 : decode cX1_figures 13 = .ok (.if_icmp .ge 29, 3) := by decide +kernel
theorem dX1_figures_16 : decode cX1_figures 16 = .ok (.iload_n 2, 1) := by decide +kernel
theorem dX1_figures_17 : decode cX1_figures 17 = .ok (.iload 4, 2) := by decide +kernel
theorem dX1_figures_19 : decode cX1_figures 19 = .ok (.iload_n 1, 1) := by decide +kernel
theorem dX1_figures_20 : decode cX1_figures 20 = .ok (.irem, 1) := by decide +kernel
theorem dX1_figures_21 : decode cX1_figures 21 = .ok (.iload_n 3, 1) := by decide +kernel
theorem dX1_figures_22 : decode cX1_figures 22 = .ok (.imul, 1) := by decide +kernel
theorem dX1_figures_23 : decode cX1_figures 23 = .ok (.iadd, 1) := by decide +kernel
theorem dX1_figures_24 : decode cX1_figures 24 = .ok (.istore_n 2, 1) := by decide +kernel
theorem dX1_figures_25 : decode cX1_figures 25 = .ok (.iload 4, 2) := by decide +kernel
theorem dX1_figures_27 : decode cX1_figures 27 = .ok (.iload_n 1, 1) := by decide +kernel
theorem dX1_figures_28 : decode cX1_figures 28 = .ok (.idiv, 1) := by decide +kernel
theorem dX1_figures_29 : decode cX1_figures 29 = .ok (.istore 4, 2) := by decide +kernel
theorem dX1_figures_31 : decode cX1_figures 31 = .ok (.iload_n 3, 1) := by decide +kernel
theorem dX1_figures_32 : decode cX1_figures 32 = .ok (.bipush 10, 2) := by decide +kernel
theorem dX1_figures_34 : decode cX1_figures 34 = .ok (.imul, 1) := by decide +kernel
theorem dX1_figures_35 : decode cX1_figures 35 = .ok (.istore_n 3, 1) := by decide +kernel
theorem dX1_figures_36 : decode cX1_figures 36 = .ok (.iinc 5 1, 3) := by decide +kernel
theorem dX1_figures_39 : decode cX1_figures 39 = .ok (.goto (-29), 3) := by decide +kernel
theorem dX1_figures_42 : decode cX1_figures 42 = .ok (.iload_n 2, 1) := by decide +kernel
theorem dX1_figures_43 : decode cX1_figures 43 = .ok (.ireturn, 1) := by decide +kernel
theorem dX2_init_0 : decode cX2_init 0 = .ok (.aload_n 0, 1) := by decide +kernel
theorem dX2_init_1 : decode cX2_init 1 = .ok (.invokespecial 1, 3) := by decide +kernel
theorem dX2_init_4 : decode cX2_init 4 = .ok (.aload_n 0, 1) := by decide +kernel
theorem dX2_init_5 : decode cX2_init 5 = .ok (.new 7, 3) := by decide +kernel
theorem dX2_init_8 : decode cX2_init 8 = .ok (.dup, 1) := by decide +kernel
theorem dX2_init_9 : decode cX2_init 9 = .ok (.invokespecial 9, 3) := by decide +kernel
theorem dX2_init_12 : decode cX2_init 12 = .ok (.putfield 10, 3) := by decide +kernel
theorem dX2_init_15 : decode cX2_init 15 = .ok (.return_, 1) := by decide +kernel
theorem dX2_copy_0 : decode cX2_copy 0 = .ok (.aload_n 0, 1) := by decide +kernel
theorem dX2_copy_1 : decode cX2_copy 1 = .ok (.aload_n 1, 1) := by decide +kernel
theorem dX2_copy_2 : decode cX2_copy 2 = .ok (.getfield 16, 3) := by decide +kernel
theorem dX2_copy_5 : decode cX2_copy 5 = .ok (.putfield 16, 3) := by decide +kernel
theorem dX2_copy_8 : decode cX2_copy 8 = .ok (.aload_n 0, 1) := by decide +kernel
theorem dX2_copy_9 : decode cX2_copy 9 = .ok (.aload_n 1, 1) := by decide +kernel
theorem dX2_copy_10 : decode cX2_copy 10 = .ok (.getfield 20, 3) := by decide +kernel
theorem dX2_copy_13 : decode cX2_copy 13 = .ok (.putfield 20, 3) := by decide +kernel
theorem dX2_copy_16 : decode cX2_copy 16 = .ok (.aload_n 0, 1) := by decide +kernel
theorem dX2_copy_17 : decode cX2_copy 17 = .ok (.getfield 10, 3) := by decide +kernel
theorem dX2_copy_20 : decode cX2_copy 20 = .ok (.aload_n 1, 1) := by decide +kernel
theorem dX2_copy_21 : decode cX2_copy 21 = .ok (.getfield 10, 3) := by decide +kernel
theorem dX2_copy_24 : decode cX2_copy 24 = .ok (.invokevirtual 23, 3) := by decide +kernel
theorem dX2_copy_27 : decode cX2_copy 27 = .ok (.return_, 1) := by decide +kernel
theorem dX2_part_0 : decode cX2_part 0 = .ok (.iload_n 1, 1) := by decide +kernel
theorem dX2_part_1 : decode cX2_part 1 = .ok (.ifCond .ne 9, 3) := by decide +kernel
theorem dX2_part_4 : decode cX2_part 4 = .ok (.aload_n 0, 1) := by decide +kernel
theorem dX2_part_5 : decode cX2_part 5 = .ok (.getfield 16, 3) := by decide +kernel
theorem dX2_part_8 : decode cX2_part 8 = .ok (.i2l, 1) := by decide +kernel
theorem dX2_part_9 : decode cX2_part 9 = .ok (.lreturn, 1) := by decide +kernel
theorem dX2_part_10 : decode cX2_part 10 = .ok (.iload_n 1, 1) := by decide +kernel
theorem dX2_part_11 : decode cX2_part 11 = .ok (.iconst 1, 1) := by decide +kernel
theorem dX2_part_12 : decode cX2_part 12 = .ok (.if_icmp .ne 11, 3) := by decide +kernel
theorem dX2_part_15 : decode cX2_part 15 = .ok (.aload_n 0, 1) := by decide +kernel
theorem dX2_part_16 : decode cX2_part 16 = .ok (.getfield 20, 3) := by decide +kernel
theorem dX2_part_19 : decode cX2_part 19 = .ok (.i2l, 1) := by decide +kernel
theorem dX2_part_20 : decode cX2_part 20 = .ok (.goto 13, 3) := by decide +kernel
theorem dX2_part_23 : decode cX2_part 23 = .ok (.aload_n 0, 1) := by decide +kernel
theorem dX2_part_24 : decode cX2_part 24 = .ok (.getfield 10, 3) := by decide +kernel
theorem dX2_part_27 : decode cX2_part 27 = .ok (.iload_n 1, 1) := by decide +kernel
theorem dX2_part_28 : decode cX2_part 28 = .ok (.iconst 2, 1) := by decide +kernel
theorem dX2_part_29 : decode cX2_part 29 = .ok (.isub, 1) := by decide +kernel
theorem dX2_part_30 : decode cX2_part 30 = .ok (.invokevirtual 27, 3) := by decide +kernel
theorem dX2_part_33 : decode cX2_part 33 = .ok (.lreturn, 1) := by decide +kernel
theorem dX3_init_0 : decode cX3_init 0 = .ok (.aload_n 0, 1) := by decide +kernel
theorem dX3_init_1 : decode cX3_init 1 = .ok (.invokespecial 1, 3) := by decide +kernel
theorem dX3_init_4 : decode cX3_init 4 = .ok (.aload_n 0, 1) := by decide +kernel
theorem dX3_init_5 : decode cX3_init 5 = .ok (.lconst 1, 1) := by decide +kernel
theorem dX3_init_6 : decode cX3_init 6 = .ok (.putfield 7, 3) := by decide +kernel
theorem dX3_init_9 : decode cX3_init 9 = .ok (.return_, 1) := by decide +kernel
theorem dX3_put_0 : decode cX3_put 0 = .ok (.lload_n 1, 1) := by decide +kernel
theorem dX3_put_1 : decode cX3_put 1 = .ok (.lstore 5, 2) := by decide +kernel
theorem dX3_put_3 : decode cX3_put 3 = .ok (.lload_n 3, 1) := by decide +kernel
theorem dX3_put_4 : decode cX3_put 4 = .ok (.lstore 7, 2) := by decide +kernel
theorem dX3_put_6 : decode cX3_put 6 = .ok (.iconst 0, 1) := by decide +kernel
theorem dX3_put_7 : decode cX3_put 7 = .ok (.istore 9, 2) := by decide +kernel
theorem dX3_put_9 : decode cX3_put 9 = .ok (.iload 9, 2) := by decide +kernel
theorem dX3_put_11 : decode cX3_put 11 = .ok (.bipush 100, 2) := by decide +kernel
theorem dX3_put_13 : decode cX3_put 13 = .ok (.if_icmp .ge 31, 3) := by decide +kernel
theorem dX3_put_16 : decode cX3_put 16 = .ok (.lload 7, 2) := by decide +kernel
theorem dX3_put_18 : decode cX3_put 18 = .ok (.lconst 0, 1) := by decide +kernel
theorem dX3_put_19 : decode cX3_put 19 = .ok (.lcmp, 1) := by decide +kernel
theorem dX3_put_20 : decode cX3_put 20 = .ok (.ifCond .le 24, 3) := by decide +kernel
theorem dX3_put_23 : decode cX3_put 23 = .ok (.lload 5, 2) := by decide +kernel
theorem dX3_put_25 : decode cX3_put 25 = .ok (.lload 7, 2) := by decide +kernel
theorem dX3_put_27 : decode cX3_put 27 = .ok (.lrem, 1) := by decide +kernel
theorem dX3_put_28 : decode cX3_put 28 = .ok (.lstore 10, 2) := by decide +kernel
theorem dX3_put_30 : decode cX3_put 30 = .ok (.lload 7, 2) := by decide +kernel
theorem dX3_put_32 : decode cX3_put 32 = .ok (.lstore 5, 2) := by decide +kernel
theorem dX3_put_34 : decode cX3_put 34 = .ok (.lload 10, 2) := by decide +kernel
theorem dX3_put_36 : decode cX3_put 36 = .ok (.lstore 7, 2) := by decide +kernel
theorem dX3_put_38 : decode cX3_put 38 = .ok (.iinc 9 1, 3) := by decide +kernel
theorem dX3_put_41 : decode cX3_put 41 = .ok (.goto (-32), 3) := by decide +kernel
theorem dX3_put_44 : decode cX3_put 44 = .ok (.lconst 1, 1) := by decide +kernel
theorem dX3_put_45 : decode cX3_put 45 = .ok (.lload 5, 2) := by decide +kernel
theorem dX3_put_47 : decode cX3_put 47 = .ok (.invokestatic 13, 3) := by decide +kernel
theorem dX3_put_50 : decode cX3_put 50 = .ok (.lstore 5, 2) := by decide +kernel
theorem dX3_put_52 : decode cX3_put 52 = .ok (.aload_n 0, 1) := by decide +kernel
theorem dX3_put_53 : decode cX3_put 53 = .ok (.lload_n 1, 1) := by decide +kernel
theorem dX3_put_54 : decode cX3_put 54 = .ok (.lload 5, 2) := by decide +kernel
theorem dX3_put_56 : decode cX3_put 56 = .ok (.ldiv, 1) := by decide +kernel
theorem dX3_put_57 : decode cX3_put 57 = .ok (.putfield 19, 3) := by decide +kernel
theorem dX3_put_60 : decode cX3_put 60 = .ok (.aload_n 0, 1) := by decide +kernel
theorem dX3_put_61 : decode cX3_put 61 = .ok (.lload_n 3, 1) := by decide +kernel
theorem dX3_put_62 : decode cX3_put 62 = .ok (.lload 5, 2) := by decide +kernel
theorem dX3_put_64 : decode cX3_put 64 = .ok (.ldiv, 1) := by decide +kernel
theorem dX3_put_65 : decode cX3_put 65 = .ok (.putfield 7, 3) := by decide +kernel
theorem dX3_put_68 : decode cX3_put 68 = .ok (.return_, 1) := by decide +kernel
theorem dX3_copy_0 : decode cX3_copy 0 = .ok (.aload_n 0, 1) := by decide +kernel
theorem dX3_copy_1 : decode cX3_copy 1 = .ok (.aload_n 1, 1) := by decide +kernel
theorem dX3_copy_2 : decode cX3_copy 2 = .ok (.getfield 19, 3) := by decide +kernel
theorem dX3_copy_5 : decode cX3_copy 5 = .ok (.putfield 19, 3) := by decide +kernel
theorem dX3_copy_8 : decode cX3_copy 8 = .ok (.aload_n 0, 1) := by decide +kernel
theorem dX3_copy_9 : decode cX3_copy 9 = .ok (.aload_n 1, 1) := by decide +kernel
theorem dX3_copy_10 : decode cX3_copy 10 = .ok (.getfield 7, 3) := by decide +kernel
theorem dX3_copy_13 : decode cX3_copy 13 = .ok (.putfield 7, 3) := by decide +kernel
theorem dX3_copy_16 : decode cX3_copy 16 = .ok (.return_, 1) := by decide +kernel
theorem dX3_isAt_0 : decode cX3_isAt 0 = .ok (.aload_n 0, 1) := by decide +kernel
theorem dX3_isAt_1 : decode cX3_isAt 1 = .ok (.getfield 19, 3) := by decide +kernel
theorem dX3_isAt_4 : decode cX3_isAt 4 = .ok (.lload_n 1, 1) := by decide +kernel
theorem dX3_isAt_5 : decode cX3_isAt 5 = .ok (.lcmp, 1) := by decide +kernel
theorem dX3_isAt_6 : decode cX3_isAt 6 = .ok (.ifCond .ne 16, 3) := by decide +kernel
theorem dX3_isAt_9 : decode cX3_isAt 9 = .ok (.aload_n 0, 1) := by decide +kernel
theorem dX3_isAt_10 : decode cX3_isAt 10 = .ok (.getfield 7, 3) := by decide +kernel
theorem dX3_isAt_13 : decode cX3_isAt 13 = .ok (.lload_n 3, 1) := by decide +kernel
theorem dX3_isAt_14 : decode cX3_isAt 14 = .ok (.lcmp, 1) := by decide +kernel
theorem dX3_isAt_15 : decode cX3_isAt 15 = .ok (.ifCond .ne 7, 3) := by decide +kernel
theorem dX3_isAt_18 : decode cX3_isAt 18 = .ok (.iconst 1, 1) := by decide +kernel
theorem dX3_isAt_19 : decode cX3_isAt 19 = .ok (.goto 4, 3) := by decide +kernel
theorem dX3_isAt_22 : decode cX3_isAt 22 = .ok (.iconst 0, 1) := by decide +kernel
theorem dX3_isAt_23 : decode cX3_isAt 23 = .ok (.ireturn, 1) := by decide +kernel
theorem dX3_isBelow_0 : decode cX3_isBelow 0 = .ok (.lconst 1, 1) := by decide +kernel
theorem dX3_isBelow_1 : decode cX3_isBelow 1 = .ok (.aload_n 0, 1) := by decide +kernel
theorem dX3_isBelow_2 : decode cX3_isBelow 2 = .ok (.getfield 7, 3) := by decide +kernel
theorem dX3_isBelow_5 : decode cX3_isBelow 5 = .ok (.invokestatic 13, 3) := by decide +kernel
theorem dX3_isBelow_8 : decode cX3_isBelow 8 = .ok (.lstore_n 2, 1) := by decide +kernel
theorem dX3_isBelow_9 : decode cX3_isBelow 9 = .ok (.lconst 1, 1) := by decide +kernel
theorem dX3_isBelow_10 : decode cX3_isBelow 10 = .ok (.aload_n 1, 1) := by decide +kernel
theorem dX3_isBelow_11 : decode cX3_isBelow 11 = .ok (.getfield 7, 3) := by decide +kernel
theorem dX3_isBelow_14 : decode cX3_isBelow 14 = .ok (.invokestatic 13, 3) := by decide +kernel
theorem dX3_isBelow_17 : decode cX3_isBelow 17 = .ok (.lstore 4, 2) := by decide +kernel
theorem dX3_isBelow_19 : decode cX3_isBelow 19 = .ok (.aload_n 0, 1) := by decide +kernel
theorem dX3_isBelow_20 : decode cX3_isBelow 20 = .ok (.getfield 19, 3) := by decide +kernel
theorem dX3_isBelow_23 : decode cX3_isBelow 23 = .ok (.lload_n 2, 1) := by decide +kernel
theorem dX3_isBelow_24 : decode cX3_isBelow 24 = .ok (.ldiv, 1) := by decide +kernel
theorem dX3_isBelow_25 : decode cX3_isBelow 25 = .ok (.aload_n 1, 1) := by decide +kernel
theorem dX3_isBelow_26 : decode cX3_isBelow 26 = .ok (.getfield 19, 3) := by decide +kernel
theorem dX3_isBelow_29 : decode cX3_isBelow 29 = .ok (.lload 4, 2) := by decide +kernel
theorem dX3_isBelow_31 : decode cX3_isBelow 31 = .ok (.ldiv, 1) := by decide +kernel
theorem dX3_isBelow_32 : decode cX3_isBelow 32 = .ok (.lcmp, 1) := by decide +kernel
theorem dX3_isBelow_33 : decode cX3_isBelow 33 = .ok (.ifCond .eq 26, 3) := by decide +kernel
theorem dX3_isBelow_36 : decode cX3_isBelow 36 = .ok (.aload_n 0, 1) := by decide +kernel
theorem dX3_isBelow_37 : decode cX3_isBelow 37 = .ok (.getfield 19, 3) := by decide +kernel
theorem dX3_isBelow_40 : decode cX3_isBelow 40 = .ok (.lload_n 2, 1) := by decide +kernel
theorem dX3_isBelow_41 : decode cX3_isBelow 41 = .ok (.ldiv, 1) := by decide +kernel
theorem dX3_isBelow_42 : decode cX3_isBelow 42 = .ok (.aload_n 1, 1) := by decide +kernel
theorem dX3_isBelow_43 : decode cX3_isBelow 43 = .ok (.getfield 19, 3) := by decide +kernel
theorem dX3_isBelow_46 : decode cX3_isBelow 46 = .ok (.lload 4, 2) := by decide +kernel
theorem dX3_isBelow_48 : decode cX3_isBelow 48 = .ok (.ldiv, 1) := by decide +kernel
theorem dX3_isBelow_49 : decode cX3_isBelow 49 = .ok (.lcmp, 1) := by decide +kernel
theorem dX3_isBelow_50 : decode cX3_isBelow 50 = .ok (.ifCond .ge 7, 3) := by decide +kernel
theorem dX3_isBelow_53 : decode cX3_isBelow 53 = .ok (.iconst 1, 1) := by decide +kernel
theorem dX3_isBelow_54 : decode cX3_isBelow 54 = .ok (.goto 4, 3) := by decide +kernel
theorem dX3_isBelow_57 : decode cX3_isBelow 57 = .ok (.iconst 0, 1) := by decide +kernel
theorem dX3_isBelow_58 : decode cX3_isBelow 58 = .ok (.ireturn, 1) := by decide +kernel
theorem dX3_isBelow_59 : decode cX3_isBelow 59 = .ok (.aload_n 0, 1) := by decide +kernel
theorem dX3_isBelow_60 : decode cX3_isBelow 60 = .ok (.getfield 19, 3) := by decide +kernel
theorem dX3_isBelow_63 : decode cX3_isBelow 63 = .ok (.lload_n 2, 1) := by decide +kernel
theorem dX3_isBelow_64 : decode cX3_isBelow 64 = .ok (.lrem, 1) := by decide +kernel
theorem dX3_isBelow_65 : decode cX3_isBelow 65 = .ok (.lload 4, 2) := by decide +kernel
theorem dX3_isBelow_67 : decode cX3_isBelow 67 = .ok (.lmul, 1) := by decide +kernel
theorem dX3_isBelow_68 : decode cX3_isBelow 68 = .ok (.aload_n 1, 1) := by decide +kernel
theorem dX3_isBelow_69 : decode cX3_isBelow 69 = .ok (.getfield 19, 3) := by decide +kernel
theorem dX3_isBelow_72 : decode cX3_isBelow 72 = .ok (.lload 4, 2) := by decide +kernel
theorem dX3_isBelow_74 : decode cX3_isBelow 74 = .ok (.lrem, 1) := by decide +kernel
theorem dX3_isBelow_75 : decode cX3_isBelow 75 = .ok (.lload_n 2, 1) := by decide +kernel
theorem dX3_isBelow_76 : decode cX3_isBelow 76 = .ok (.lmul, 1) := by decide +kernel
theorem dX3_isBelow_77 : decode cX3_isBelow 77 = .ok (.lcmp, 1) := by decide +kernel
theorem dX3_isBelow_78 : decode cX3_isBelow 78 = .ok (.ifCond .ge 7, 3) := by decide +kernel
theorem dX3_isBelow_81 : decode cX3_isBelow 81 = .ok (.iconst 1, 1) := by decide +kernel
theorem dX3_isBelow_82 : decode cX3_isBelow 82 = .ok (.goto 4, 3) := by decide +kernel
theorem dX3_isBelow_85 : decode cX3_isBelow 85 = .ok (.iconst 0, 1) := by decide +kernel
theorem dX3_isBelow_86 : decode cX3_isBelow 86 = .ok (.ireturn, 1) := by decide +kernel
theorem dX3_parts_0 : decode cX3_parts 0 = .ok (.aload_n 0, 1) := by decide +kernel
theorem dX3_parts_1 : decode cX3_parts 1 = .ok (.getfield 7, 3) := by decide +kernel
theorem dX3_parts_4 : decode cX3_parts 4 = .ok (.lconst 1, 1) := by decide +kernel
theorem dX3_parts_5 : decode cX3_parts 5 = .ok (.lcmp, 1) := by decide +kernel
theorem dX3_parts_6 : decode cX3_parts 6 = .ok (.ifCond .ge 7, 3) := by decide +kernel
theorem dX3_parts_9 : decode cX3_parts 9 = .ok (.lconst 0, 1) := by decide +kernel
theorem dX3_parts_10 : decode cX3_parts 10 = .ok (.goto 14, 3) := by decide +kernel
theorem dX3_parts_13 : decode cX3_parts 13 = .ok (.aload_n 0, 1) := by decide +kernel
theorem dX3_parts_14 : decode cX3_parts 14 = .ok (.getfield 19, 3) := by decide +kernel
theorem dX3_parts_17 : decode cX3_parts 17 = .ok (.lload_n 1, 1) := by decide +kernel
theorem dX3_parts_18 : decode cX3_parts 18 = .ok (.aload_n 0, 1) := by decide +kernel
theorem dX3_parts_19 : decode cX3_parts 19 = .ok (.getfield 7, 3) := by decide +kernel
theorem dX3_parts_22 : decode cX3_parts 22 = .ok (.ldiv, 1) := by decide +kernel
theorem dX3_parts_23 : decode cX3_parts 23 = .ok (.lmul, 1) := by decide +kernel
theorem dX3_parts_24 : decode cX3_parts 24 = .ok (.lreturn, 1) := by decide +kernel
theorem dX3_part_0 : decode cX3_part 0 = .ok (.iload_n 1, 1) := by decide +kernel
theorem dX3_part_1 : decode cX3_part 1 = .ok (.ifCond .ne 10, 3) := by decide +kernel
theorem dX3_part_4 : decode cX3_part 4 = .ok (.aload_n 0, 1) := by decide +kernel
theorem dX3_part_5 : decode cX3_part 5 = .ok (.getfield 19, 3) := by decide +kernel
theorem dX3_part_8 : decode cX3_part 8 = .ok (.goto 7, 3) := by decide +kernel
theorem dX3_part_11 : decode cX3_part 11 = .ok (.aload_n 0, 1) := by decide +kernel
theorem dX3_part_12 : decode cX3_part 12 = .ok (.getfield 7, 3) := by decide +kernel
theorem dX3_part_15 : decode cX3_part 15 = .ok (.lreturn, 1) := by decide +kernel
theorem dX4_init_0 : decode cX4_init 0 = .ok (.aload_n 0, 1) := by decide +kernel
theorem dX4_init_1 : decode cX4_init 1 = .ok (.invokespecial 1, 3) := by decide +kernel
theorem dX4_init_4 : decode cX4_init 4 = .ok (.aload_n 0, 1) := by decide +kernel
theorem dX4_init_5 : decode cX4_init 5 = .ok (.iconst 4, 1) := by decide +kernel
theorem dX4_init_6 : decode cX4_init 6 = .ok (.bipush 20, 2) := by decide +kernel
theorem dX4_init_8 : decode cX4_init 8 = .ok (.multianewarray 9 2, 4) := by decide +kernel
theorem dX4_init_12 : decode cX4_init 12 = .ok (.putfield 11, 3) := by decide +kernel
theorem dX4_init_15 : decode cX4_init 15 = .ok (.aload_n 0, 1) := by decide +kernel
theorem dX4_init_16 : decode cX4_init 16 = .ok (.iconst 4, 1) := by decide +kernel
theorem dX4_init_17 : decode cX4_init 17 = .ok (.newarray .int, 2) := by decide +kernel
theorem dX4_init_19 : decode cX4_init 19 = .ok (.putfield 14, 3) := by decide +kernel
theorem dX4_init_22 : decode cX4_init 22 = .ok (.iconst 0, 1) := by decide +kernel
theorem dX4_init_23 : decode cX4_init 23 = .ok (.istore_n 1, 1) := by decide +kernel
theorem dX4_init_24 : decode cX4_init 24 = .ok (.iload_n 1, 1) := by decide +kernel
theorem dX4_init_25 : decode cX4_init 25 = .ok (.iconst 4, 1) := by decide +kernel
theorem dX4_init_26 : decode cX4_init 26 = .ok (.if_icmp .ge 16, 3) := by decide +kernel
theorem dX4_init_29 : decode cX4_init 29 = .ok (.aload_n 0, 1) := by decide +kernel
theorem dX4_init_30 : decode cX4_init 30 = .ok (.getfield 14, 3) := by decide +kernel
theorem dX4_init_33 : decode cX4_init 33 = .ok (.iload_n 1, 1) := by decide +kernel
theorem dX4_init_34 : decode cX4_init 34 = .ok (.iconst (-1), 1) := by decide +kernel
theorem dX4_init_35 : decode cX4_init 35 = .ok (.iastore, 1) := by decide +kernel
theorem dX4_init_36 : decode cX4_init 36 = .ok (.iinc 1 1, 3) := by decide +kernel
theorem dX4_init_39 : decode cX4_init 39 = .ok (.goto (-15), 3) := by decide +kernel
theorem dX4_init_42 : decode cX4_init 42 = .ok (.return_, 1) := by decide +kernel
theorem dX4_isRow_0 : decode cX4_isRow 0 = .ok (.iload_n 1, 1) := by decide +kernel
theorem dX4_isRow_1 : decode cX4_isRow 1 = .ok (.ifCond .lt 12, 3) := by decide +kernel
theorem dX4_isRow_4 : decode cX4_isRow 4 = .ok (.iload_n 1, 1) := by decide +kernel
theorem dX4_isRow_5 : decode cX4_isRow 5 = .ok (.iconst 4, 1) := by decide +kernel
theorem dX4_isRow_6 : decode cX4_isRow 6 = .ok (.if_icmp .ge 7, 3) := by decide +kernel
theorem dX4_isRow_9 : decode cX4_isRow 9 = .ok (.iconst 1, 1) := by decide +kernel
theorem dX4_isRow_10 : decode cX4_isRow 10 = .ok (.goto 4, 3) := by decide +kernel
theorem dX4_isRow_13 : decode cX4_isRow 13 = .ok (.iconst 0, 1) := by decide +kernel
theorem dX4_isRow_14 : decode cX4_isRow 14 = .ok (.ireturn, 1) := by decide +kernel
theorem dX4_isLaid_0 : decode cX4_isLaid 0 = .ok (.aload_n 0, 1) := by decide +kernel
theorem dX4_isLaid_1 : decode cX4_isLaid 1 = .ok (.getfield 14, 3) := by decide +kernel
theorem dX4_isLaid_4 : decode cX4_isLaid 4 = .ok (.iload_n 1, 1) := by decide +kernel
theorem dX4_isLaid_5 : decode cX4_isLaid 5 = .ok (.iaload, 1) := by decide +kernel
theorem dX4_isLaid_6 : decode cX4_isLaid 6 = .ok (.ifCond .lt 7, 3) := by decide +kernel
theorem dX4_isLaid_9 : decode cX4_isLaid 9 = .ok (.iconst 1, 1) := by decide +kernel
theorem dX4_isLaid_10 : decode cX4_isLaid 10 = .ok (.goto 4, 3) := by decide +kernel
theorem dX4_isLaid_13 : decode cX4_isLaid 13 = .ok (.iconst 0, 1) := by decide +kernel
theorem dX4_isLaid_14 : decode cX4_isLaid 14 = .ok (.ireturn, 1) := by decide +kernel
theorem dX4_hasPlace_0 : decode cX4_hasPlace 0 = .ok (.iload_n 2, 1) := by decide +kernel
theorem dX4_hasPlace_1 : decode cX4_hasPlace 1 = .ok (.ifCond .lt 17, 3) := by decide +kernel
theorem dX4_hasPlace_4 : decode cX4_hasPlace 4 = .ok (.iload_n 2, 1) := by decide +kernel
theorem dX4_hasPlace_5 : decode cX4_hasPlace 5 = .ok (.aload_n 0, 1) := by decide +kernel
theorem dX4_hasPlace_6 : decode cX4_hasPlace 6 = .ok (.getfield 14, 3) := by decide +kernel
theorem dX4_hasPlace_9 : decode cX4_hasPlace 9 = .ok (.iload_n 1, 1) := by decide +kernel
theorem dX4_hasPlace_10 : decode cX4_hasPlace 10 = .ok (.iaload, 1) := by decide +kernel
theorem dX4_hasPlace_11 : decode cX4_hasPlace 11 = .ok (.if_icmp .ge 7, 3) := by decide +kernel
theorem dX4_hasPlace_14 : decode cX4_hasPlace 14 = .ok (.iconst 1, 1) := by decide +kernel
theorem dX4_hasPlace_15 : decode cX4_hasPlace 15 = .ok (.goto 4, 3) := by decide +kernel
theorem dX4_hasPlace_18 : decode cX4_hasPlace 18 = .ok (.iconst 0, 1) := by decide +kernel
theorem dX4_hasPlace_19 : decode cX4_hasPlace 19 = .ok (.ireturn, 1) := by decide +kernel
theorem dX4_lay_0 : decode cX4_lay 0 = .ok (.aload_n 0, 1) := by decide +kernel
theorem dX4_lay_1 : decode cX4_lay 1 = .ok (.getfield 14, 3) := by decide +kernel
theorem dX4_lay_4 : decode cX4_lay 4 = .ok (.iload_n 1, 1) := by decide +kernel
theorem dX4_lay_5 : decode cX4_lay 5 = .ok (.iload_n 2, 1) := by decide +kernel
theorem dX4_lay_6 : decode cX4_lay 6 = .ok (.iastore, 1) := by decide +kernel
theorem dX4_lay_7 : decode cX4_lay 7 = .ok (.iconst 0, 1) := by decide +kernel
theorem dX4_lay_8 : decode cX4_lay 8 = .ok (.istore_n 3, 1) := by decide +kernel
theorem dX4_lay_9 : decode cX4_lay 9 = .ok (.iload_n 3, 1) := by decide +kernel
theorem dX4_lay_10 : decode cX4_lay 10 = .ok (.bipush 20, 2) := by decide +kernel
theorem dX4_lay_12 : decode cX4_lay 12 = .ok (.if_icmp .ge 18, 3) := by decide +kernel
theorem dX4_lay_15 : decode cX4_lay 15 = .ok (.aload_n 0, 1) := by decide +kernel
theorem dX4_lay_16 : decode cX4_lay 16 = .ok (.getfield 11, 3) := by decide +kernel
theorem dX4_lay_19 : decode cX4_lay 19 = .ok (.iload_n 1, 1) := by decide +kernel
theorem dX4_lay_20 : decode cX4_lay 20 = .ok (.aaload, 1) := by decide +kernel
theorem dX4_lay_21 : decode cX4_lay 21 = .ok (.iload_n 3, 1) := by decide +kernel
theorem dX4_lay_22 : decode cX4_lay 22 = .ok (.iconst 0, 1) := by decide +kernel
theorem dX4_lay_23 : decode cX4_lay 23 = .ok (.iastore, 1) := by decide +kernel
theorem dX4_lay_24 : decode cX4_lay 24 = .ok (.iinc 3 1, 3) := by decide +kernel
theorem dX4_lay_27 : decode cX4_lay 27 = .ok (.goto (-18), 3) := by decide +kernel
theorem dX4_lay_30 : decode cX4_lay 30 = .ok (.return_, 1) := by decide +kernel
theorem dX5_init_0 : decode cX5_init 0 = .ok (.aload_n 0, 1) := by decide +kernel
theorem dX5_init_1 : decode cX5_init 1 = .ok (.invokespecial 3, 3) := by decide +kernel
theorem dX5_init_4 : decode cX5_init 4 = .ok (.aload_n 0, 1) := by decide +kernel
theorem dX5_init_5 : decode cX5_init 5 = .ok (.new 9, 3) := by decide +kernel
theorem dX5_init_8 : decode cX5_init 8 = .ok (.dup, 1) := by decide +kernel
theorem dX5_init_9 : decode cX5_init 9 = .ok (.invokespecial 11, 3) := by decide +kernel
theorem dX5_init_12 : decode cX5_init 12 = .ok (.putfield 12, 3) := by decide +kernel
theorem dX5_init_15 : decode cX5_init 15 = .ok (.aload_n 0, 1) := by decide +kernel
theorem dX5_init_16 : decode cX5_init 16 = .ok (.new 9, 3) := by decide +kernel
theorem dX5_init_19 : decode cX5_init 19 = .ok (.dup, 1) := by decide +kernel
theorem dX5_init_20 : decode cX5_init 20 = .ok (.invokespecial 11, 3) := by decide +kernel
theorem dX5_init_23 : decode cX5_init 23 = .ok (.putfield 18, 3) := by decide +kernel
theorem dX5_init_26 : decode cX5_init 26 = .ok (.aload_n 0, 1) := by decide +kernel
theorem dX5_init_27 : decode cX5_init 27 = .ok (.iconst 5, 1) := by decide +kernel
theorem dX5_init_28 : decode cX5_init 28 = .ok (.anewarray 21, 3) := by decide +kernel
theorem dX5_init_31 : decode cX5_init 31 = .ok (.putfield 23, 3) := by decide +kernel
theorem dX5_init_34 : decode cX5_init 34 = .ok (.aload_n 0, 1) := by decide +kernel
theorem dX5_init_35 : decode cX5_init 35 = .ok (.iconst 5, 1) := by decide +kernel
theorem dX5_init_36 : decode cX5_init 36 = .ok (.anewarray 21, 3) := by decide +kernel
theorem dX5_init_39 : decode cX5_init 39 = .ok (.putfield 27, 3) := by decide +kernel
theorem dX5_init_42 : decode cX5_init 42 = .ok (.aload_n 0, 1) := by decide +kernel
theorem dX5_init_43 : decode cX5_init 43 = .ok (.iconst 5, 1) := by decide +kernel
theorem dX5_init_44 : decode cX5_init 44 = .ok (.newarray .int, 2) := by decide +kernel
theorem dX5_init_46 : decode cX5_init 46 = .ok (.putfield 30, 3) := by decide +kernel
theorem dX5_init_49 : decode cX5_init 49 = .ok (.aload_n 0, 1) := by decide +kernel
theorem dX5_init_50 : decode cX5_init 50 = .ok (.iconst 3, 1) := by decide +kernel
theorem dX5_init_51 : decode cX5_init 51 = .ok (.anewarray 9, 3) := by decide +kernel
theorem dX5_init_54 : decode cX5_init 54 = .ok (.putfield 34, 3) := by decide +kernel
theorem dX5_init_57 : decode cX5_init 57 = .ok (.aload_n 0, 1) := by decide +kernel
theorem dX5_init_58 : decode cX5_init 58 = .ok (.new 9, 3) := by decide +kernel
theorem dX5_init_61 : decode cX5_init 61 = .ok (.dup, 1) := by decide +kernel
theorem dX5_init_62 : decode cX5_init 62 = .ok (.invokespecial 11, 3) := by decide +kernel
theorem dX5_init_65 : decode cX5_init 65 = .ok (.putfield 38, 3) := by decide +kernel
theorem dX5_init_68 : decode cX5_init 68 = .ok (.aload_n 0, 1) := by decide +kernel
theorem dX5_init_69 : decode cX5_init 69 = .ok (.aload_n 1, 1) := by decide +kernel
theorem dX5_init_70 : decode cX5_init 70 = .ok (.putfield 41, 3) := by decide +kernel
theorem dX5_init_73 : decode cX5_init 73 = .ok (.aload_n 0, 1) := by decide +kernel
theorem dX5_init_74 : decode cX5_init 74 = .ok (.aload_n 2, 1) := by decide +kernel
theorem dX5_init_75 : decode cX5_init 75 = .ok (.putfield 45, 3) := by decide +kernel
theorem dX5_init_78 : decode cX5_init 78 = .ok (.iconst 0, 1) := by decide +kernel
theorem dX5_init_79 : decode cX5_init 79 = .ok (.istore_n 3, 1) := by decide +kernel
theorem dX5_init_80 : decode cX5_init 80 = .ok (.iload_n 3, 1) := by decide +kernel
theorem dX5_init_81 : decode cX5_init 81 = .ok (.iconst 5, 1) := by decide +kernel
theorem dX5_init_82 : decode cX5_init 82 = .ok (.if_icmp .ge 35, 3) := by decide +kernel
theorem dX5_init_85 : decode cX5_init 85 = .ok (.aload_n 0, 1) := by decide +kernel
theorem dX5_init_86 : decode cX5_init 86 = .ok (.getfield 23, 3) := by decide +kernel
theorem dX5_init_89 : decode cX5_init 89 = .ok (.iload_n 3, 1) := by decide +kernel
theorem dX5_init_90 : decode cX5_init 90 = .ok (.new 21, 3) := by decide +kernel
theorem dX5_init_93 : decode cX5_init 93 = .ok (.dup, 1) := by decide +kernel
theorem dX5_init_94 : decode cX5_init 94 = .ok (.invokespecial 49, 3) := by decide +kernel
theorem dX5_init_97 : decode cX5_init 97 = .ok (.aastore, 1) := by decide +kernel
theorem dX5_init_98 : decode cX5_init 98 = .ok (.aload_n 0, 1) := by decide +kernel
theorem dX5_init_99 : decode cX5_init 99 = .ok (.getfield 27, 3) := by decide +kernel
theorem dX5_init_102 : decode cX5_init 102 = .ok (.iload_n 3, 1) := by decide +kernel
theorem dX5_init_103 : decode cX5_init 103 = .ok (.new 21, 3) := by decide +kernel
theorem dX5_init_106 : decode cX5_init 106 = .ok (.dup, 1) := by decide +kernel
theorem dX5_init_107 : decode cX5_init 107 = .ok (.invokespecial 49, 3) := by decide +kernel
theorem dX5_init_110 : decode cX5_init 110 = .ok (.aastore, 1) := by decide +kernel
theorem dX5_init_111 : decode cX5_init 111 = .ok (.iinc 3 1, 3) := by decide +kernel
theorem dX5_init_114 : decode cX5_init 114 = .ok (.goto (-34), 3) := by decide +kernel
theorem dX5_init_117 : decode cX5_init 117 = .ok (.iconst 0, 1) := by decide +kernel
theorem dX5_init_118 : decode cX5_init 118 = .ok (.istore_n 3, 1) := by decide +kernel
theorem dX5_init_119 : decode cX5_init 119 = .ok (.iload_n 3, 1) := by decide +kernel
theorem dX5_init_120 : decode cX5_init 120 = .ok (.aload_n 0, 1) := by decide +kernel
theorem dX5_init_121 : decode cX5_init 121 = .ok (.getfield 34, 3) := by decide +kernel
theorem dX5_init_124 : decode cX5_init 124 = .ok (.arraylength, 1) := by decide +kernel
theorem dX5_init_125 : decode cX5_init 125 = .ok (.if_icmp .ge 22, 3) := by decide +kernel
theorem dX5_init_128 : decode cX5_init 128 = .ok (.aload_n 0, 1) := by decide +kernel
theorem dX5_init_129 : decode cX5_init 129 = .ok (.getfield 34, 3) := by decide +kernel
theorem dX5_init_132 : decode cX5_init 132 = .ok (.iload_n 3, 1) := by decide +kernel
theorem dX5_init_133 : decode cX5_init 133 = .ok (.new 9, 3) := by decide +kernel
theorem dX5_init_136 : decode cX5_init 136 = .ok (.dup, 1) := by decide +kernel
theorem dX5_init_137 : decode cX5_init 137 = .ok (.invokespecial 11, 3) := by decide +kernel
theorem dX5_init_140 : decode cX5_init 140 = .ok (.aastore, 1) := by decide +kernel
theorem dX5_init_141 : decode cX5_init 141 = .ok (.iinc 3 1, 3) := by decide +kernel
theorem dX5_init_144 : decode cX5_init 144 = .ok (.goto (-25), 3) := by decide +kernel
theorem dX5_init_147 : decode cX5_init 147 = .ok (.return_, 1) := by decide +kernel
theorem dX5_run_0 : decode cX5_run 0 = .ok (.aload_n 0, 1) := by decide +kernel
theorem dX5_run_1 : decode cX5_run 1 = .ok (.iload_n 2, 1) := by decide +kernel
theorem dX5_run_2 : decode cX5_run 2 = .ok (.putfield 50, 3) := by decide +kernel
theorem dX5_run_5 : decode cX5_run 5 = .ok (.aload_n 0, 1) := by decide +kernel
theorem dX5_run_6 : decode cX5_run 6 = .ok (.getfield 45, 3) := by decide +kernel
theorem dX5_run_9 : decode cX5_run 9 = .ok (.invokevirtual 54, 3) := by decide +kernel
theorem dX5_run_12 : decode cX5_run 12 = .ok (.aload_n 0, 1) := by decide +kernel
theorem dX5_run_13 : decode cX5_run 13 = .ok (.getfield 12, 3) := by decide +kernel
theorem dX5_run_16 : decode cX5_run 16 = .ok (.getfield 59, 3) := by decide +kernel
theorem dX5_run_19 : decode cX5_run 19 = .ok (.aload_n 0, 1) := by decide +kernel
theorem dX5_run_20 : decode cX5_run 20 = .ok (.getfield 41, 3) := by decide +kernel
theorem dX5_run_23 : decode cX5_run 23 = .ok (.getfield 63, 3) := by decide +kernel
theorem dX5_run_26 : decode cX5_run 26 = .ok (.i2l, 1) := by decide +kernel
theorem dX5_run_27 : decode cX5_run 27 = .ok (.lconst 1, 1) := by decide +kernel
theorem dX5_run_28 : decode cX5_run 28 = .ok (.invokevirtual 68, 3) := by decide +kernel
theorem dX5_run_31 : decode cX5_run 31 = .ok (.aload_n 0, 1) := by decide +kernel
theorem dX5_run_32 : decode cX5_run 32 = .ok (.getfield 18, 3) := by decide +kernel
theorem dX5_run_35 : decode cX5_run 35 = .ok (.aload_n 0, 1) := by decide +kernel
theorem dX5_run_36 : decode cX5_run 36 = .ok (.getfield 12, 3) := by decide +kernel
theorem dX5_run_39 : decode cX5_run 39 = .ok (.invokevirtual 72, 3) := by decide +kernel
theorem dX5_run_42 : decode cX5_run 42 = .ok (.iload_n 1, 1) := by decide +kernel
theorem dX5_run_43 : decode cX5_run 43 = .ok (.tableswitch 85 0 3 #[29, 43, 57, 71], 29) := by decide +kernel
theorem dX5_run_72 : decode cX5_run 72 = .ok (.aload_n 0, 1) := by decide +kernel
theorem dX5_run_73 : decode cX5_run 73 = .ok (.getfield 45, 3) := by decide +kernel
theorem dX5_run_76 : decode cX5_run 76 = .ok (.aload_n 0, 1) := by decide +kernel
theorem dX5_run_77 : decode cX5_run 77 = .ok (.invokevirtual 76, 3) := by decide +kernel
theorem dX5_run_80 : decode cX5_run 80 = .ok (.putfield 80, 3) := by decide +kernel
theorem dX5_run_83 : decode cX5_run 83 = .ok (.goto 78, 3) := by decide +kernel
theorem dX5_run_86 : decode cX5_run 86 = .ok (.aload_n 0, 1) := by decide +kernel
theorem dX5_run_87 : decode cX5_run 87 = .ok (.getfield 45, 3) := by decide +kernel
theorem dX5_run_90 : decode cX5_run 90 = .ok (.aload_n 0, 1) := by decide +kernel
theorem dX5_run_91 : decode cX5_run 91 = .ok (.invokevirtual 84, 3) := by decide +kernel
theorem dX5_run_94 : decode cX5_run 94 = .ok (.putfield 80, 3) := by decide +kernel
theorem dX5_run_97 : decode cX5_run 97 = .ok (.goto 64, 3) := by decide +kernel
theorem dX5_run_100 : decode cX5_run 100 = .ok (.aload_n 0, 1) := by decide +kernel
theorem dX5_run_101 : decode cX5_run 101 = .ok (.getfield 45, 3) := by decide +kernel
theorem dX5_run_104 : decode cX5_run 104 = .ok (.aload_n 0, 1) := by decide +kernel
theorem dX5_run_105 : decode cX5_run 105 = .ok (.invokevirtual 87, 3) := by decide +kernel
theorem dX5_run_108 : decode cX5_run 108 = .ok (.putfield 80, 3) := by decide +kernel
theorem dX5_run_111 : decode cX5_run 111 = .ok (.goto 50, 3) := by decide +kernel
theorem dX5_run_114 : decode cX5_run 114 = .ok (.aload_n 0, 1) := by decide +kernel
theorem dX5_run_115 : decode cX5_run 115 = .ok (.getfield 45, 3) := by decide +kernel
theorem dX5_run_118 : decode cX5_run 118 = .ok (.aload_n 0, 1) := by decide +kernel
theorem dX5_run_119 : decode cX5_run 119 = .ok (.invokevirtual 90, 3) := by decide +kernel
theorem dX5_run_122 : decode cX5_run 122 = .ok (.putfield 80, 3) := by decide +kernel
theorem dX5_run_125 : decode cX5_run 125 = .ok (.goto 36, 3) := by decide +kernel
theorem dX5_run_128 : decode cX5_run 128 = .ok (.aload_n 0, 1) := by decide +kernel
theorem dX5_run_129 : decode cX5_run 129 = .ok (.getfield 45, 3) := by decide +kernel
theorem dX5_run_132 : decode cX5_run 132 = .ok (.aload_n 0, 1) := by decide +kernel
theorem dX5_run_133 : decode cX5_run 133 = .ok (.invokevirtual 93, 3) := by decide +kernel
theorem dX5_run_136 : decode cX5_run 136 = .ok (.ifCond .eq 21, 3) := by decide +kernel
theorem dX5_run_139 : decode cX5_run 139 = .ok (.aload_n 0, 1) := by decide +kernel
theorem dX5_run_140 : decode cX5_run 140 = .ok (.invokevirtual 96, 3) := by decide +kernel
theorem dX5_run_143 : decode cX5_run 143 = .ok (.ifCond .eq 14, 3) := by decide +kernel
theorem dX5_run_146 : decode cX5_run 146 = .ok (.aload_n 0, 1) := by decide +kernel
theorem dX5_run_147 : decode cX5_run 147 = .ok (.invokevirtual 99, 3) := by decide +kernel
theorem dX5_run_150 : decode cX5_run 150 = .ok (.ifCond .eq 7, 3) := by decide +kernel
theorem dX5_run_153 : decode cX5_run 153 = .ok (.iconst 1, 1) := by decide +kernel
theorem dX5_run_154 : decode cX5_run 154 = .ok (.goto 4, 3) := by decide +kernel
theorem dX5_run_157 : decode cX5_run 157 = .ok (.iconst 0, 1) := by decide +kernel
theorem dX5_run_158 : decode cX5_run 158 = .ok (.putfield 80, 3) := by decide +kernel
theorem dX5_run_161 : decode cX5_run 161 = .ok (.aload_n 0, 1) := by decide +kernel
theorem dX5_run_162 : decode cX5_run 162 = .ok (.getfield 45, 3) := by decide +kernel
theorem dX5_run_165 : decode cX5_run 165 = .ok (.getfield 80, 3) := by decide +kernel
theorem dX5_run_168 : decode cX5_run 168 = .ok (.ireturn, 1) := by decide +kernel
theorem dX5_agentAt_0 : decode cX5_agentAt 0 = .ok (.aload_n 0, 1) := by decide +kernel
theorem dX5_agentAt_1 : decode cX5_agentAt 1 = .ok (.getfield 50, 3) := by decide +kernel
theorem dX5_agentAt_4 : decode cX5_agentAt 4 = .ok (.iload_n 1, 1) := by decide +kernel
theorem dX5_agentAt_5 : decode cX5_agentAt 5 = .ok (.iadd, 1) := by decide +kernel
theorem dX5_agentAt_6 : decode cX5_agentAt 6 = .ok (.istore_n 2, 1) := by decide +kernel
theorem dX5_agentAt_7 : decode cX5_agentAt 7 = .ok (.iload_n 2, 1) := by decide +kernel
theorem dX5_agentAt_8 : decode cX5_agentAt 8 = .ok (.aload_n 0, 1) := by decide +kernel
theorem dX5_agentAt_9 : decode cX5_agentAt 9 = .ok (.getfield 41, 3) := by decide +kernel
theorem dX5_agentAt_12 : decode cX5_agentAt 12 = .ok (.getfield 102, 3) := by decide +kernel
theorem dX5_agentAt_15 : decode cX5_agentAt 15 = .ok (.if_icmp .ge 7, 3) := by decide +kernel
theorem dX5_agentAt_18 : decode cX5_agentAt 18 = .ok (.iload_n 2, 1) := by decide +kernel
theorem dX5_agentAt_19 : decode cX5_agentAt 19 = .ok (.goto 12, 3) := by decide +kernel
theorem dX5_agentAt_22 : decode cX5_agentAt 22 = .ok (.iload_n 2, 1) := by decide +kernel
theorem dX5_agentAt_23 : decode cX5_agentAt 23 = .ok (.aload_n 0, 1) := by decide +kernel
theorem dX5_agentAt_24 : decode cX5_agentAt 24 = .ok (.getfield 41, 3) := by decide +kernel
theorem dX5_agentAt_27 : decode cX5_agentAt 27 = .ok (.getfield 102, 3) := by decide +kernel
theorem dX5_agentAt_30 : decode cX5_agentAt 30 = .ok (.isub, 1) := by decide +kernel
theorem dX5_agentAt_31 : decode cX5_agentAt 31 = .ok (.ireturn, 1) := by decide +kernel
theorem dX5_everyone_0 : decode cX5_everyone 0 = .ok (.iconst 1, 1) := by decide +kernel
theorem dX5_everyone_1 : decode cX5_everyone 1 = .ok (.aload_n 0, 1) := by decide +kernel
theorem dX5_everyone_2 : decode cX5_everyone 2 = .ok (.getfield 41, 3) := by decide +kernel
theorem dX5_everyone_5 : decode cX5_everyone 5 = .ok (.getfield 102, 3) := by decide +kernel
theorem dX5_everyone_8 : decode cX5_everyone 8 = .ok (.ishl, 1) := by decide +kernel
theorem dX5_everyone_9 : decode cX5_everyone 9 = .ok (.iconst 1, 1) := by decide +kernel
theorem dX5_everyone_10 : decode cX5_everyone 10 = .ok (.isub, 1) := by decide +kernel
theorem dX5_everyone_11 : decode cX5_everyone 11 = .ok (.ireturn, 1) := by decide +kernel
theorem dX5_isIn_0 : decode cX5_isIn 0 = .ok (.iload_n 0, 1) := by decide +kernel
theorem dX5_isIn_1 : decode cX5_isIn 1 = .ok (.iload_n 1, 1) := by decide +kernel
theorem dX5_isIn_2 : decode cX5_isIn 2 = .ok (.ishr, 1) := by decide +kernel
theorem dX5_isIn_3 : decode cX5_isIn 3 = .ok (.iconst 1, 1) := by decide +kernel
theorem dX5_isIn_4 : decode cX5_isIn 4 = .ok (.iand, 1) := by decide +kernel
theorem dX5_isIn_5 : decode cX5_isIn 5 = .ok (.iconst 1, 1) := by decide +kernel
theorem dX5_isIn_6 : decode cX5_isIn 6 = .ok (.if_icmp .ne 7, 3) := by decide +kernel
theorem dX5_isIn_9 : decode cX5_isIn 9 = .ok (.iconst 1, 1) := by decide +kernel
theorem dX5_isIn_10 : decode cX5_isIn 10 = .ok (.goto 4, 3) := by decide +kernel
theorem dX5_isIn_13 : decode cX5_isIn 13 = .ok (.iconst 0, 1) := by decide +kernel
theorem dX5_isIn_14 : decode cX5_isIn 14 = .ok (.ireturn, 1) := by decide +kernel
theorem dX5_firstOf_0 : decode cX5_firstOf 0 = .ok (.iconst 0, 1) := by decide +kernel
theorem dX5_firstOf_1 : decode cX5_firstOf 1 = .ok (.istore_n 2, 1) := by decide +kernel
theorem dX5_firstOf_2 : decode cX5_firstOf 2 = .ok (.iload_n 2, 1) := by decide +kernel
theorem dX5_firstOf_3 : decode cX5_firstOf 3 = .ok (.aload_n 0, 1) := by decide +kernel
theorem dX5_firstOf_4 : decode cX5_firstOf 4 = .ok (.getfield 41, 3) := by decide +kernel
theorem dX5_firstOf_7 : decode cX5_firstOf 7 = .ok (.getfield 102, 3) := by decide +kernel
theorem dX5_firstOf_10 : decode cX5_firstOf 10 = .ok (.if_icmp .ge 19, 3) := by decide +kernel
theorem dX5_firstOf_13 : decode cX5_firstOf 13 = .ok (.iload_n 1, 1) := by decide +kernel
theorem dX5_firstOf_14 : decode cX5_firstOf 14 = .ok (.iload_n 2, 1) := by decide +kernel
theorem dX5_firstOf_15 : decode cX5_firstOf 15 = .ok (.invokestatic 105, 3) := by decide +kernel
theorem dX5_firstOf_18 : decode cX5_firstOf 18 = .ok (.ifCond .eq 5, 3) := by decide +kernel
theorem dX5_firstOf_21 : decode cX5_firstOf 21 = .ok (.iload_n 2, 1) := by decide +kernel
theorem dX5_firstOf_22 : decode cX5_firstOf 22 = .ok (.ireturn, 1) := by decide +kernel
theorem dX5_firstOf_23 : decode cX5_firstOf 23 = .ok (.iinc 2 1, 3) := by decide +kernel
theorem dX5_firstOf_26 : decode cX5_firstOf 26 = .ok (.goto (-24), 3) := by decide +kernel
theorem dX5_firstOf_29 : decode cX5_firstOf 29 = .ok (.iconst 0, 1) := by decide +kernel
theorem dX5_firstOf_30 : decode cX5_firstOf 30 = .ok (.ireturn, 1) := by decide +kernel
theorem dX5_has_0 : decode cX5_has 0 = .ok (.aload_n 0, 1) := by decide +kernel
theorem dX5_has_1 : decode cX5_has 1 = .ok (.getfield 41, 3) := by decide +kernel
theorem dX5_has_4 : decode cX5_has 4 = .ok (.aload_n 0, 1) := by decide +kernel
theorem dX5_has_5 : decode cX5_has 5 = .ok (.getfield 41, 3) := by decide +kernel
theorem dX5_has_8 : decode cX5_has 8 = .ok (.getfield 109, 3) := by decide +kernel
theorem dX5_has_11 : decode cX5_has 11 = .ok (.iload_n 1, 1) := by decide +kernel
theorem dX5_has_12 : decode cX5_has 12 = .ok (.aaload, 1) := by decide +kernel
theorem dX5_has_13 : decode cX5_has 13 = .ok (.aload_n 2, 1) := by decide +kernel
theorem dX5_has_14 : decode cX5_has 14 = .ok (.getfield 113, 3) := by decide +kernel
theorem dX5_has_17 : decode cX5_has 17 = .ok (.aload_n 2, 1) := by decide +kernel
theorem dX5_has_18 : decode cX5_has 18 = .ok (.getfield 59, 3) := by decide +kernel
theorem dX5_has_21 : decode cX5_has 21 = .ok (.aload_n 0, 1) := by decide +kernel
theorem dX5_has_22 : decode cX5_has 22 = .ok (.getfield 45, 3) := by decide +kernel
theorem dX5_has_25 : decode cX5_has 25 = .ok (.getfield 116, 3) := by decide +kernel
theorem dX5_has_28 : decode cX5_has 28 = .ok (.invokevirtual 120, 3) := by decide +kernel
theorem dX5_has_31 : decode cX5_has 31 = .ok (.lreturn, 1) := by decide +kernel
theorem dX5_putMark_0 : decode cX5_putMark 0 = .ok (.aload_n 0, 1) := by decide +kernel
theorem dX5_putMark_1 : decode cX5_putMark 1 = .ok (.getfield 41, 3) := by decide +kernel
theorem dX5_putMark_4 : decode cX5_putMark 4 = .ok (.getfield 109, 3) := by decide +kernel
theorem dX5_putMark_7 : decode cX5_putMark 7 = .ok (.iload_n 2, 1) := by decide +kernel
theorem dX5_putMark_8 : decode cX5_putMark 8 = .ok (.aaload, 1) := by decide +kernel
theorem dX5_putMark_9 : decode cX5_putMark 9 = .ok (.astore 7, 2) := by decide +kernel
theorem dX5_putMark_11 : decode cX5_putMark 11 = .ok (.aload_n 0, 1) := by decide +kernel
theorem dX5_putMark_12 : decode cX5_putMark 12 = .ok (.getfield 41, 3) := by decide +kernel
theorem dX5_putMark_15 : decode cX5_putMark 15 = .ok (.aload 7, 2) := by decide +kernel
theorem dX5_putMark_17 : decode cX5_putMark 17 = .ok (.aload 4, 2) := by decide +kernel
theorem dX5_putMark_19 : decode cX5_putMark 19 = .ok (.getfield 113, 3) := by decide +kernel
theorem dX5_putMark_22 : decode cX5_putMark 22 = .ok (.aload 4, 2) := by decide +kernel
theorem dX5_putMark_24 : decode cX5_putMark 24 = .ok (.getfield 59, 3) := by decide +kernel
theorem dX5_putMark_27 : decode cX5_putMark 27 = .ok (.aload_n 0, 1) := by decide +kernel
theorem dX5_putMark_28 : decode cX5_putMark 28 = .ok (.getfield 45, 3) := by decide +kernel
theorem dX5_putMark_31 : decode cX5_putMark 31 = .ok (.getfield 116, 3) := by decide +kernel
theorem dX5_putMark_34 : decode cX5_putMark 34 = .ok (.invokevirtual 120, 3) := by decide +kernel
theorem dX5_putMark_37 : decode cX5_putMark 37 = .ok (.iload 5, 2) := by decide +kernel
theorem dX5_putMark_39 : decode cX5_putMark 39 = .ok (.i2l, 1) := by decide +kernel
theorem dX5_putMark_40 : decode cX5_putMark 40 = .ok (.lmul, 1) := by decide +kernel
theorem dX5_putMark_41 : decode cX5_putMark 41 = .ok (.lstore 8, 2) := by decide +kernel
theorem dX5_putMark_43 : decode cX5_putMark 43 = .ok (.aload_n 0, 1) := by decide +kernel
theorem dX5_putMark_44 : decode cX5_putMark 44 = .ok (.getfield 41, 3) := by decide +kernel
theorem dX5_putMark_47 : decode cX5_putMark 47 = .ok (.aload_n 1, 1) := by decide +kernel
theorem dX5_putMark_48 : decode cX5_putMark 48 = .ok (.aload 7, 2) := by decide +kernel
theorem dX5_putMark_50 : decode cX5_putMark 50 = .ok (.aload_n 3, 1) := by decide +kernel
theorem dX5_putMark_51 : decode cX5_putMark 51 = .ok (.aload_n 0, 1) := by decide +kernel
theorem dX5_putMark_52 : decode cX5_putMark 52 = .ok (.getfield 45, 3) := by decide +kernel
theorem dX5_putMark_55 : decode cX5_putMark 55 = .ok (.getfield 116, 3) := by decide +kernel
theorem dX5_putMark_58 : decode cX5_putMark 58 = .ok (.invokevirtual 124, 3) := by decide +kernel
theorem dX5_putMark_61 : decode cX5_putMark 61 = .ok (.aload_n 0, 1) := by decide +kernel
theorem dX5_putMark_62 : decode cX5_putMark 62 = .ok (.getfield 45, 3) := by decide +kernel
theorem dX5_putMark_65 : decode cX5_putMark 65 = .ok (.getfield 116, 3) := by decide +kernel
theorem dX5_putMark_68 : decode cX5_putMark 68 = .ok (.lload 8, 2) := by decide +kernel
theorem dX5_putMark_70 : decode cX5_putMark 70 = .ok (.iload 6, 2) := by decide +kernel
theorem dX5_putMark_72 : decode cX5_putMark 72 = .ok (.i2l, 1) := by decide +kernel
theorem dX5_putMark_73 : decode cX5_putMark 73 = .ok (.invokevirtual 128, 3) := by decide +kernel
theorem dX5_putMark_76 : decode cX5_putMark 76 = .ok (.ifCond .eq 18, 3) := by decide +kernel
theorem dX5_putMark_79 : decode cX5_putMark 79 = .ok (.aload_n 0, 1) := by decide +kernel
theorem dX5_putMark_80 : decode cX5_putMark 80 = .ok (.getfield 45, 3) := by decide +kernel
theorem dX5_putMark_83 : decode cX5_putMark 83 = .ok (.aload_n 1, 1) := by decide +kernel
theorem dX5_putMark_84 : decode cX5_putMark 84 = .ok (.invokevirtual 132, 3) := by decide +kernel
theorem dX5_putMark_87 : decode cX5_putMark 87 = .ok (.ifCond .eq 7, 3) := by decide +kernel
theorem dX5_putMark_90 : decode cX5_putMark 90 = .ok (.iconst 1, 1) := by decide +kernel
theorem dX5_putMark_91 : decode cX5_putMark 91 = .ok (.goto 4, 3) := by decide +kernel
theorem dX5_putMark_94 : decode cX5_putMark 94 = .ok (.iconst 0, 1) := by decide +kernel
theorem dX5_putMark_95 : decode cX5_putMark 95 = .ok (.ireturn, 1) := by decide +kernel
theorem dX5_takeRestTo_0 : decode cX5_takeRestTo 0 = .ok (.aload_n 0, 1) := by decide +kernel
theorem dX5_takeRestTo_1 : decode cX5_takeRestTo 1 = .ok (.iload_n 1, 1) := by decide +kernel
theorem dX5_takeRestTo_2 : decode cX5_takeRestTo 2 = .ok (.invokevirtual 136, 3) := by decide +kernel
theorem dX5_takeRestTo_5 : decode cX5_takeRestTo 5 = .ok (.istore_n 3, 1) := by decide +kernel
theorem dX5_takeRestTo_6 : decode cX5_takeRestTo 6 = .ok (.aload_n 0, 1) := by decide +kernel
theorem dX5_takeRestTo_7 : decode cX5_takeRestTo 7 = .ok (.getfield 45, 3) := by decide +kernel
theorem dX5_takeRestTo_10 : decode cX5_takeRestTo 10 = .ok (.iconst 3, 1) := by decide +kernel
theorem dX5_takeRestTo_11 : decode cX5_takeRestTo 11 = .ok (.iload_n 3, 1) := by decide +kernel
theorem dX5_takeRestTo_12 : decode cX5_takeRestTo 12 = .ok (.aload_n 0, 1) := by decide +kernel
theorem dX5_takeRestTo_13 : decode cX5_takeRestTo 13 = .ok (.getfield 18, 3) := by decide +kernel
theorem dX5_takeRestTo_16 : decode cX5_takeRestTo 16 = .ok (.getfield 113, 3) := by decide +kernel
theorem dX5_takeRestTo_19 : decode cX5_takeRestTo 19 = .ok (.aload_n 2, 1) := by decide +kernel
theorem dX5_takeRestTo_20 : decode cX5_takeRestTo 20 = .ok (.invokevirtual 140, 3) := by decide +kernel
theorem dX5_takeRestTo_23 : decode cX5_takeRestTo 23 = .ok (.aload_n 0, 1) := by decide +kernel
theorem dX5_takeRestTo_24 : decode cX5_takeRestTo 24 = .ok (.getfield 45, 3) := by decide +kernel
theorem dX5_takeRestTo_27 : decode cX5_takeRestTo 27 = .ok (.iload_n 3, 1) := by decide +kernel
theorem dX5_takeRestTo_28 : decode cX5_takeRestTo 28 = .ok (.aload_n 0, 1) := by decide +kernel
theorem dX5_takeRestTo_29 : decode cX5_takeRestTo 29 = .ok (.getfield 18, 3) := by decide +kernel
theorem dX5_takeRestTo_32 : decode cX5_takeRestTo 32 = .ok (.getfield 113, 3) := by decide +kernel
theorem dX5_takeRestTo_35 : decode cX5_takeRestTo 35 = .ok (.aload_n 2, 1) := by decide +kernel
theorem dX5_takeRestTo_36 : decode cX5_takeRestTo 36 = .ok (.invokevirtual 144, 3) := by decide +kernel
theorem dX5_takeRestTo_39 : decode cX5_takeRestTo 39 = .ok (.aload_n 0, 1) := by decide +kernel
theorem dX5_takeRestTo_40 : decode cX5_takeRestTo 40 = .ok (.getfield 18, 3) := by decide +kernel
theorem dX5_takeRestTo_43 : decode cX5_takeRestTo 43 = .ok (.getfield 113, 3) := by decide +kernel
theorem dX5_takeRestTo_46 : decode cX5_takeRestTo 46 = .ok (.aload_n 2, 1) := by decide +kernel
theorem dX5_takeRestTo_47 : decode cX5_takeRestTo 47 = .ok (.invokevirtual 148, 3) := by decide +kernel
theorem dX5_takeRestTo_50 : decode cX5_takeRestTo 50 = .ok (.return_, 1) := by decide +kernel
theorem dX5_takePiece_0 : decode cX5_takePiece 0 = .ok (.aload_n 0, 1) := by decide +kernel
theorem dX5_takePiece_1 : decode cX5_takePiece 1 = .ok (.iload_n 1, 1) := by decide +kernel
theorem dX5_takePiece_2 : decode cX5_takePiece 2 = .ok (.invokevirtual 136, 3) := by decide +kernel
theorem dX5_takePiece_5 : decode cX5_takePiece 5 = .ok (.istore_n 3, 1) := by decide +kernel
theorem dX5_takePiece_6 : decode cX5_takePiece 6 = .ok (.aload_n 0, 1) := by decide +kernel
theorem dX5_takePiece_7 : decode cX5_takePiece 7 = .ok (.getfield 34, 3) := by decide +kernel
theorem dX5_takePiece_10 : decode cX5_takePiece 10 = .ok (.iload_n 2, 1) := by decide +kernel
theorem dX5_takePiece_11 : decode cX5_takePiece 11 = .ok (.aaload, 1) := by decide +kernel
theorem dX5_takePiece_12 : decode cX5_takePiece 12 = .ok (.astore 4, 2) := by decide +kernel
theorem dX5_takePiece_14 : decode cX5_takePiece 14 = .ok (.aload_n 0, 1) := by decide +kernel
theorem dX5_takePiece_15 : decode cX5_takePiece 15 = .ok (.getfield 45, 3) := by decide +kernel
theorem dX5_takePiece_18 : decode cX5_takePiece 18 = .ok (.iconst 3, 1) := by decide +kernel
theorem dX5_takePiece_19 : decode cX5_takePiece 19 = .ok (.iload_n 3, 1) := by decide +kernel
theorem dX5_takePiece_20 : decode cX5_takePiece 20 = .ok (.aload 4, 2) := by decide +kernel
theorem dX5_takePiece_22 : decode cX5_takePiece 22 = .ok (.getfield 113, 3) := by decide +kernel
theorem dX5_takePiece_25 : decode cX5_takePiece 25 = .ok (.aload 4, 2) := by decide +kernel
theorem dX5_takePiece_27 : decode cX5_takePiece 27 = .ok (.getfield 59, 3) := by decide +kernel
theorem dX5_takePiece_30 : decode cX5_takePiece 30 = .ok (.invokevirtual 140, 3) := by decide +kernel
theorem dX5_takePiece_33 : decode cX5_takePiece 33 = .ok (.aload_n 0, 1) := by decide +kernel
theorem dX5_takePiece_34 : decode cX5_takePiece 34 = .ok (.getfield 45, 3) := by decide +kernel
theorem dX5_takePiece_37 : decode cX5_takePiece 37 = .ok (.iload_n 3, 1) := by decide +kernel
theorem dX5_takePiece_38 : decode cX5_takePiece 38 = .ok (.aload 4, 2) := by decide +kernel
theorem dX5_takePiece_40 : decode cX5_takePiece 40 = .ok (.getfield 113, 3) := by decide +kernel
theorem dX5_takePiece_43 : decode cX5_takePiece 43 = .ok (.aload 4, 2) := by decide +kernel
theorem dX5_takePiece_45 : decode cX5_takePiece 45 = .ok (.getfield 59, 3) := by decide +kernel
theorem dX5_takePiece_48 : decode cX5_takePiece 48 = .ok (.invokevirtual 144, 3) := by decide +kernel
theorem dX5_takePiece_51 : decode cX5_takePiece 51 = .ok (.return_, 1) := by decide +kernel
theorem dX5_cutAndChoose_0 : decode cX5_cutAndChoose 0 = .ok (.aload_n 0, 1) := by decide +kernel
theorem dX5_cutAndChoose_1 : decode cX5_cutAndChoose 1 = .ok (.iconst 0, 1) := by decide +kernel
theorem dX5_cutAndChoose_2 : decode cX5_cutAndChoose 2 = .ok (.invokevirtual 136, 3) := by decide +kernel
theorem dX5_cutAndChoose_5 : decode cX5_cutAndChoose 5 = .ok (.istore_n 1, 1) := by decide +kernel
theorem dX5_cutAndChoose_6 : decode cX5_cutAndChoose 6 = .ok (.aload_n 0, 1) := by decide +kernel
theorem dX5_cutAndChoose_7 : decode cX5_cutAndChoose 7 = .ok (.iconst 1, 1) := by decide +kernel
theorem dX5_cutAndChoose_8 : decode cX5_cutAndChoose 8 = .ok (.invokevirtual 136, 3) := by decide +kernel
theorem dX5_cutAndChoose_11 : decode cX5_cutAndChoose 11 = .ok (.istore_n 2, 1) := by decide +kernel
theorem dX5_cutAndChoose_12 : decode cX5_cutAndChoose 12 = .ok (.aload_n 0, 1) := by decide +kernel
theorem dX5_cutAndChoose_13 : decode cX5_cutAndChoose 13 = .ok (.getfield 23, 3) := by decide +kernel
theorem dX5_cutAndChoose_16 : decode cX5_cutAndChoose 16 = .ok (.iconst 0, 1) := by decide +kernel
theorem dX5_cutAndChoose_17 : decode cX5_cutAndChoose 17 = .ok (.aaload, 1) := by decide +kernel
theorem dX5_cutAndChoose_18 : decode cX5_cutAndChoose 18 = .ok (.astore_n 3, 1) := by decide +kernel
theorem dX5_cutAndChoose_19 : decode cX5_cutAndChoose 19 = .ok (.aload_n 0, 1) := by decide +kernel
theorem dX5_cutAndChoose_20 : decode cX5_cutAndChoose 20 = .ok (.aload_n 3, 1) := by decide +kernel
theorem dX5_cutAndChoose_21 : decode cX5_cutAndChoose 21 = .ok (.iload_n 1, 1) := by decide +kernel
theorem dX5_cutAndChoose_22 : decode cX5_cutAndChoose 22 = .ok (.aload_n 0, 1) := by decide +kernel
theorem dX5_cutAndChoose_23 : decode cX5_cutAndChoose 23 = .ok (.getfield 12, 3) := by decide +kernel
theorem dX5_cutAndChoose_26 : decode cX5_cutAndChoose 26 = .ok (.getfield 113, 3) := by decide +kernel
theorem dX5_cutAndChoose_29 : decode cX5_cutAndChoose 29 = .ok (.aload_n 0, 1) := by decide +kernel
theorem dX5_cutAndChoose_30 : decode cX5_cutAndChoose 30 = .ok (.getfield 12, 3) := by decide +kernel
theorem dX5_cutAndChoose_33 : decode cX5_cutAndChoose 33 = .ok (.iconst 1, 1) := by decide +kernel
theorem dX5_cutAndChoose_34 : decode cX5_cutAndChoose 34 = .ok (.iconst 2, 1) := by decide +kernel
theorem dX5_cutAndChoose_35 : decode cX5_cutAndChoose 35 = .ok (.invokevirtual 151, 3) := by decide +kernel
theorem dX5_cutAndChoose_38 : decode cX5_cutAndChoose 38 = .ok (.ifCond .ne 5, 3) := by decide +kernel
theorem dX5_cutAndChoose_41 : decode cX5_cutAndChoose 41 = .ok (.iconst 0, 1) := by decide +kernel
theorem dX5_cutAndChoose_42 : decode cX5_cutAndChoose 42 = .ok (.ireturn, 1) := by decide +kernel
theorem dX5_cutAndChoose_43 : decode cX5_cutAndChoose 43 = .ok (.aload_n 0, 1) := by decide +kernel
theorem dX5_cutAndChoose_44 : decode cX5_cutAndChoose 44 = .ok (.getfield 45, 3) := by decide +kernel
theorem dX5_cutAndChoose_47 : decode cX5_cutAndChoose 47 = .ok (.iconst 0, 1) := by decide +kernel
theorem dX5_cutAndChoose_48 : decode cX5_cutAndChoose 48 = .ok (.iload_n 1, 1) := by decide +kernel
theorem dX5_cutAndChoose_49 : decode cX5_cutAndChoose 49 = .ok (.aload_n 3, 1) := by decide +kernel
theorem dX5_cutAndChoose_50 : decode cX5_cutAndChoose 50 = .ok (.aload_n 0, 1) := by decide +kernel
theorem dX5_cutAndChoose_51 : decode cX5_cutAndChoose 51 = .ok (.getfield 12, 3) := by decide +kernel
theorem dX5_cutAndChoose_54 : decode cX5_cutAndChoose 54 = .ok (.getfield 113, 3) := by decide +kernel
theorem dX5_cutAndChoose_57 : decode cX5_cutAndChoose 57 = .ok (.invokevirtual 140, 3) := by decide +kernel
theorem dX5_cutAndChoose_60 : decode cX5_cutAndChoose 60 = .ok (.aload_n 0, 1) := by decide +kernel
theorem dX5_cutAndChoose_61 : decode cX5_cutAndChoose 61 = .ok (.getfield 34, 3) := by decide +kernel
theorem dX5_cutAndChoose_64 : decode cX5_cutAndChoose 64 = .ok (.iconst 0, 1) := by decide +kernel
theorem dX5_cutAndChoose_65 : decode cX5_cutAndChoose 65 = .ok (.aaload, 1) := by decide +kernel
theorem dX5_cutAndChoose_66 : decode cX5_cutAndChoose 66 = .ok (.aload_n 0, 1) := by decide +kernel
theorem dX5_cutAndChoose_67 : decode cX5_cutAndChoose 67 = .ok (.getfield 12, 3) := by decide +kernel
theorem dX5_cutAndChoose_70 : decode cX5_cutAndChoose 70 = .ok (.getfield 113, 3) := by decide +kernel
theorem dX5_cutAndChoose_73 : decode cX5_cutAndChoose 73 = .ok (.aload_n 3, 1) := by decide +kernel
theorem dX5_cutAndChoose_74 : decode cX5_cutAndChoose 74 = .ok (.invokevirtual 155, 3) := by decide +kernel
theorem dX5_cutAndChoose_77 : decode cX5_cutAndChoose 77 = .ok (.aload_n 0, 1) := by decide +kernel
theorem dX5_cutAndChoose_78 : decode cX5_cutAndChoose 78 = .ok (.getfield 34, 3) := by decide +kernel
theorem dX5_cutAndChoose_81 : decode cX5_cutAndChoose 81 = .ok (.iconst 1, 1) := by decide +kernel
theorem dX5_cutAndChoose_82 : decode cX5_cutAndChoose 82 = .ok (.aaload, 1) := by decide +kernel
theorem dX5_cutAndChoose_83 : decode cX5_cutAndChoose 83 = .ok (.aload_n 3, 1) := by decide +kernel
theorem dX5_cutAndChoose_84 : decode cX5_cutAndChoose 84 = .ok (.aload_n 0, 1) := by decide +kernel
theorem dX5_cutAndChoose_85 : decode cX5_cutAndChoose 85 = .ok (.getfield 12, 3) := by decide +kernel
theorem dX5_cutAndChoose_88 : decode cX5_cutAndChoose 88 = .ok (.getfield 59, 3) := by decide +kernel
theorem dX5_cutAndChoose_91 : decode cX5_cutAndChoose 91 = .ok (.invokevirtual 155, 3) := by decide +kernel
theorem dX5_cutAndChoose_94 : decode cX5_cutAndChoose 94 = .ok (.aload_n 0, 1) := by decide +kernel
theorem dX5_cutAndChoose_95 : decode cX5_cutAndChoose 95 = .ok (.iload_n 2, 1) := by decide +kernel
theorem dX5_cutAndChoose_96 : decode cX5_cutAndChoose 96 = .ok (.aload_n 0, 1) := by decide +kernel
theorem dX5_cutAndChoose_97 : decode cX5_cutAndChoose 97 = .ok (.getfield 34, 3) := by decide +kernel
theorem dX5_cutAndChoose_100 : decode cX5_cutAndChoose 100 = .ok (.iconst 0, 1) := by decide +kernel
theorem dX5_cutAndChoose_101 : decode cX5_cutAndChoose 101 = .ok (.aaload, 1) := by decide +kernel
theorem dX5_cutAndChoose_102 : decode cX5_cutAndChoose 102 = .ok (.invokevirtual 158, 3) := by decide +kernel
theorem dX5_cutAndChoose_105 : decode cX5_cutAndChoose 105 = .ok (.aload_n 0, 1) := by decide +kernel
theorem dX5_cutAndChoose_106 : decode cX5_cutAndChoose 106 = .ok (.iload_n 2, 1) := by decide +kernel
theorem dX5_cutAndChoose_107 : decode cX5_cutAndChoose 107 = .ok (.aload_n 0, 1) := by decide +kernel
theorem dX5_cutAndChoose_108 : decode cX5_cutAndChoose 108 = .ok (.getfield 34, 3) := by decide +kernel
theorem dX5_cutAndChoose_111 : decode cX5_cutAndChoose 111 = .ok (.iconst 1, 1) := by decide +kernel
theorem dX5_cutAndChoose_112 : decode cX5_cutAndChoose 112 = .ok (.aaload, 1) := by decide +kernel
theorem dX5_cutAndChoose_113 : decode cX5_cutAndChoose 113 = .ok (.invokevirtual 158, 3) := by decide +kernel
theorem dX5_cutAndChoose_116 : decode cX5_cutAndChoose 116 = .ok (.lcmp, 1) := by decide +kernel
theorem dX5_cutAndChoose_117 : decode cX5_cutAndChoose 117 = .ok (.ifCond .lt 7, 3) := by decide +kernel
theorem dX5_cutAndChoose_120 : decode cX5_cutAndChoose 120 = .ok (.iconst 0, 1) := by decide +kernel
theorem dX5_cutAndChoose_121 : decode cX5_cutAndChoose 121 = .ok (.goto 4, 3) := by decide +kernel
theorem dX5_cutAndChoose_124 : decode cX5_cutAndChoose 124 = .ok (.iconst 1, 1) := by decide +kernel
theorem dX5_cutAndChoose_125 : decode cX5_cutAndChoose 125 = .ok (.istore 4, 2) := by decide +kernel
theorem dX5_cutAndChoose_127 : decode cX5_cutAndChoose 127 = .ok (.aload_n 0, 1) := by decide +kernel
theorem dX5_cutAndChoose_128 : decode cX5_cutAndChoose 128 = .ok (.iconst 1, 1) := by decide +kernel
theorem dX5_cutAndChoose_129 : decode cX5_cutAndChoose 129 = .ok (.iload 4, 2) := by decide +kernel
theorem dX5_cutAndChoose_131 : decode cX5_cutAndChoose 131 = .ok (.invokevirtual 162, 3) := by decide +kernel
theorem dX5_cutAndChoose_134 : decode cX5_cutAndChoose 134 = .ok (.aload_n 0, 1) := by decide +kernel
theorem dX5_cutAndChoose_135 : decode cX5_cutAndChoose 135 = .ok (.iconst 0, 1) := by decide +kernel
theorem dX5_cutAndChoose_136 : decode cX5_cutAndChoose 136 = .ok (.iconst 1, 1) := by decide +kernel
theorem dX5_cutAndChoose_137 : decode cX5_cutAndChoose 137 = .ok (.iload 4, 2) := by decide +kernel
theorem dX5_cutAndChoose_139 : decode cX5_cutAndChoose 139 = .ok (.isub, 1) := by decide +kernel
theorem dX5_cutAndChoose_140 : decode cX5_cutAndChoose 140 = .ok (.invokevirtual 162, 3) := by decide +kernel
theorem dX5_cutAndChoose_143 : decode cX5_cutAndChoose 143 = .ok (.iconst 1, 1) := by decide +kernel
theorem dX5_cutAndChoose_144 : decode cX5_cutAndChoose 144 = .ok (.ireturn, 1) := by decide +kernel
theorem dX5_moveKnife_0 : decode cX5_moveKnife 0 = .ok (.aload_n 0, 1) := by decide +kernel
theorem dX5_moveKnife_1 : decode cX5_moveKnife 1 = .ok (.invokevirtual 166, 3) := by decide +kernel
theorem dX5_moveKnife_4 : decode cX5_moveKnife 4 = .ok (.istore_n 1, 1) := by decide +kernel
theorem dX5_moveKnife_5 : decode cX5_moveKnife 5 = .ok (.aload_n 0, 1) := by decide +kernel
theorem dX5_moveKnife_6 : decode cX5_moveKnife 6 = .ok (.getfield 41, 3) := by decide +kernel
theorem dX5_moveKnife_9 : decode cX5_moveKnife 9 = .ok (.getfield 102, 3) := by decide +kernel
theorem dX5_moveKnife_12 : decode cX5_moveKnife 12 = .ok (.istore_n 2, 1) := by decide +kernel
theorem dX5_moveKnife_13 : decode cX5_moveKnife 13 = .ok (.iload_n 2, 1) := by decide +kernel
theorem dX5_moveKnife_14 : decode cX5_moveKnife 14 = .ok (.iconst 1, 1) := by decide +kernel
theorem dX5_moveKnife_15 : decode cX5_moveKnife 15 = .ok (.if_icmp .le 56, 3) := by decide +kernel
theorem dX5_moveKnife_18 : decode cX5_moveKnife 18 = .ok (.aload_n 0, 1) := by decide +kernel
theorem dX5_moveKnife_19 : decode cX5_moveKnife 19 = .ok (.iload_n 1, 1) := by decide +kernel
theorem dX5_moveKnife_20 : decode cX5_moveKnife 20 = .ok (.aload_n 0, 1) := by decide +kernel
theorem dX5_moveKnife_21 : decode cX5_moveKnife 21 = .ok (.getfield 12, 3) := by decide +kernel
theorem dX5_moveKnife_24 : decode cX5_moveKnife 24 = .ok (.iconst 1, 1) := by decide +kernel
theorem dX5_moveKnife_25 : decode cX5_moveKnife 25 = .ok (.aload_n 0, 1) := by decide +kernel
theorem dX5_moveKnife_26 : decode cX5_moveKnife 26 = .ok (.getfield 41, 3) := by decide +kernel
theorem dX5_moveKnife_29 : decode cX5_moveKnife 29 = .ok (.getfield 102, 3) := by decide +kernel
theorem dX5_moveKnife_32 : decode cX5_moveKnife 32 = .ok (.invokevirtual 170, 3) := by decide +kernel
theorem dX5_moveKnife_35 : decode cX5_moveKnife 35 = .ok (.ifCond .ne 5, 3) := by decide +kernel
theorem dX5_moveKnife_38 : decode cX5_moveKnife 38 = .ok (.iconst 0, 1) := by decide +kernel
theorem dX5_moveKnife_39 : decode cX5_moveKnife 39 = .ok (.ireturn, 1) := by decide +kernel
theorem dX5_moveKnife_40 : decode cX5_moveKnife 40 = .ok (.aload_n 0, 1) := by decide +kernel
theorem dX5_moveKnife_41 : decode cX5_moveKnife 41 = .ok (.iload_n 1, 1) := by decide +kernel
theorem dX5_moveKnife_42 : decode cX5_moveKnife 42 = .ok (.invokevirtual 174, 3) := by decide +kernel
theorem dX5_moveKnife_45 : decode cX5_moveKnife 45 = .ok (.istore_n 3, 1) := by decide +kernel
theorem dX5_moveKnife_46 : decode cX5_moveKnife 46 = .ok (.aload_n 0, 1) := by decide +kernel
theorem dX5_moveKnife_47 : decode cX5_moveKnife 47 = .ok (.iload_n 3, 1) := by decide +kernel
theorem dX5_moveKnife_48 : decode cX5_moveKnife 48 = .ok (.aload_n 0, 1) := by decide +kernel
theorem dX5_moveKnife_49 : decode cX5_moveKnife 49 = .ok (.getfield 23, 3) := by decide +kernel
theorem dX5_moveKnife_52 : decode cX5_moveKnife 52 = .ok (.iload_n 3, 1) := by decide +kernel
theorem dX5_moveKnife_53 : decode cX5_moveKnife 53 = .ok (.aaload, 1) := by decide +kernel
theorem dX5_moveKnife_54 : decode cX5_moveKnife 54 = .ok (.invokevirtual 177, 3) := by decide +kernel
theorem dX5_moveKnife_57 : decode cX5_moveKnife 57 = .ok (.iload_n 1, 1) := by decide +kernel
theorem dX5_moveKnife_58 : decode cX5_moveKnife 58 = .ok (.iconst 1, 1) := by decide +kernel
theorem dX5_moveKnife_59 : decode cX5_moveKnife 59 = .ok (.iload_n 3, 1) := by decide +kernel
theorem dX5_moveKnife_60 : decode cX5_moveKnife 60 = .ok (.ishl, 1) := by decide +kernel
theorem dX5_moveKnife_61 : decode cX5_moveKnife 61 = .ok (.iconst (-1), 1) := by decide +kernel
theorem dX5_moveKnife_62 : decode cX5_moveKnife 62 = .ok (.ixor, 1) := by decide +kernel
theorem dX5_moveKnife_63 : decode cX5_moveKnife 63 = .ok (.iand, 1) := by decide +kernel
theorem dX5_moveKnife_64 : decode cX5_moveKnife 64 = .ok (.istore_n 1, 1) := by decide +kernel
theorem dX5_moveKnife_65 : decode cX5_moveKnife 65 = .ok (.iinc 2 (-1), 3) := by decide +kernel
theorem dX5_moveKnife_68 : decode cX5_moveKnife 68 = .ok (.goto (-55), 3) := by decide +kernel
theorem dX5_moveKnife_71 : decode cX5_moveKnife 71 = .ok (.aload_n 0, 1) := by decide +kernel
theorem dX5_moveKnife_72 : decode cX5_moveKnife 72 = .ok (.aload_n 0, 1) := by decide +kernel
theorem dX5_moveKnife_73 : decode cX5_moveKnife 73 = .ok (.iload_n 1, 1) := by decide +kernel
theorem dX5_moveKnife_74 : decode cX5_moveKnife 74 = .ok (.invokevirtual 181, 3) := by decide +kernel
theorem dX5_moveKnife_77 : decode cX5_moveKnife 77 = .ok (.aload_n 0, 1) := by decide +kernel
theorem dX5_moveKnife_78 : decode cX5_moveKnife 78 = .ok (.getfield 12, 3) := by decide +kernel
theorem dX5_moveKnife_81 : decode cX5_moveKnife 81 = .ok (.getfield 59, 3) := by decide +kernel
theorem dX5_moveKnife_84 : decode cX5_moveKnife 84 = .ok (.invokevirtual 177, 3) := by decide +kernel
theorem dX5_moveKnife_87 : decode cX5_moveKnife 87 = .ok (.iconst 1, 1) := by decide +kernel
theorem dX5_moveKnife_88 : decode cX5_moveKnife 88 = .ok (.ireturn, 1) := by decide +kernel
theorem dX5_markAll_0 : decode cX5_markAll 0 = .ok (.iconst 0, 1) := by decide +kernel
theorem dX5_markAll_1 : decode cX5_markAll 1 = .ok (.istore 5, 2) := by decide +kernel
theorem dX5_markAll_3 : decode cX5_markAll 3 = .ok (.iload 5, 2) := by decide +kernel
theorem dX5_markAll_5 : decode cX5_markAll 5 = .ok (.aload_n 0, 1) := by decide +kernel
theorem dX5_markAll_6 : decode cX5_markAll 6 = .ok (.getfield 41, 3) := by decide +kernel
theorem dX5_markAll_9 : decode cX5_markAll 9 = .ok (.getfield 102, 3) := by decide +kernel
theorem dX5_markAll_12 : decode cX5_markAll 12 = .ok (.if_icmp .ge 79, 3) := by decide +kernel
theorem dX5_markAll_15 : decode cX5_markAll 15 = .ok (.iload_n 1, 1) := by decide +kernel
theorem dX5_markAll_16 : decode cX5_markAll 16 = .ok (.iload 5, 2) := by decide +kernel
theorem dX5_markAll_18 : decode cX5_markAll 18 = .ok (.invokestatic 105, 3) := by decide +kernel
theorem dX5_markAll_21 : decode cX5_markAll 21 = .ok (.ifCond .eq 64, 3) := by decide +kernel
theorem dX5_markAll_24 : decode cX5_markAll 24 = .ok (.aload_n 0, 1) := by decide +kernel
theorem dX5_markAll_25 : decode cX5_markAll 25 = .ok (.iload 5, 2) := by decide +kernel
theorem dX5_markAll_27 : decode cX5_markAll 27 = .ok (.invokevirtual 136, 3) := by decide +kernel
theorem dX5_markAll_30 : decode cX5_markAll 30 = .ok (.istore 6, 2) := by decide +kernel
theorem dX5_markAll_32 : decode cX5_markAll 32 = .ok (.aload_n 0, 1) := by decide +kernel
theorem dX5_markAll_33 : decode cX5_markAll 33 = .ok (.aload_n 0, 1) := by decide +kernel
theorem dX5_markAll_34 : decode cX5_markAll 34 = .ok (.getfield 23, 3) := by decide +kernel
theorem dX5_markAll_37 : decode cX5_markAll 37 = .ok (.iload 5, 2) := by decide +kernel
theorem dX5_markAll_39 : decode cX5_markAll 39 = .ok (.aaload, 1) := by decide +kernel
theorem dX5_markAll_40 : decode cX5_markAll 40 = .ok (.iload 6, 2) := by decide +kernel
theorem dX5_markAll_42 : decode cX5_markAll 42 = .ok (.aload_n 0, 1) := by decide +kernel
theorem dX5_markAll_43 : decode cX5_markAll 43 = .ok (.getfield 18, 3) := by decide +kernel
theorem dX5_markAll_46 : decode cX5_markAll 46 = .ok (.getfield 113, 3) := by decide +kernel
theorem dX5_markAll_49 : decode cX5_markAll 49 = .ok (.aload_n 2, 1) := by decide +kernel
theorem dX5_markAll_50 : decode cX5_markAll 50 = .ok (.iload_n 3, 1) := by decide +kernel
theorem dX5_markAll_51 : decode cX5_markAll 51 = .ok (.iload 4, 2) := by decide +kernel
theorem dX5_markAll_53 : decode cX5_markAll 53 = .ok (.invokevirtual 151, 3) := by decide +kernel
theorem dX5_markAll_56 : decode cX5_markAll 56 = .ok (.ifCond .ne 5, 3) := by decide +kernel
theorem dX5_markAll_59 : decode cX5_markAll 59 = .ok (.iconst 0, 1) := by decide +kernel
theorem dX5_markAll_60 : decode cX5_markAll 60 = .ok (.ireturn, 1) := by decide +kernel
theorem dX5_markAll_61 : decode cX5_markAll 61 = .ok (.aload_n 0, 1) := by decide +kernel
theorem dX5_markAll_62 : decode cX5_markAll 62 = .ok (.getfield 45, 3) := by decide +kernel
theorem dX5_markAll_65 : decode cX5_markAll 65 = .ok (.iconst 0, 1) := by decide +kernel
theorem dX5_markAll_66 : decode cX5_markAll 66 = .ok (.iload 6, 2) := by decide +kernel
theorem dX5_markAll_68 : decode cX5_markAll 68 = .ok (.aload_n 0, 1) := by decide +kernel
theorem dX5_markAll_69 : decode cX5_markAll 69 = .ok (.getfield 23, 3) := by decide +kernel
theorem dX5_markAll_72 : decode cX5_markAll 72 = .ok (.iload 5, 2) := by decide +kernel
theorem dX5_markAll_74 : decode cX5_markAll 74 = .ok (.aaload, 1) := by decide +kernel
theorem dX5_markAll_75 : decode cX5_markAll 75 = .ok (.aload_n 0, 1) := by decide +kernel
theorem dX5_markAll_76 : decode cX5_markAll 76 = .ok (.getfield 12, 3) := by decide +kernel
theorem dX5_markAll_79 : decode cX5_markAll 79 = .ok (.getfield 113, 3) := by decide +kernel
theorem dX5_markAll_82 : decode cX5_markAll 82 = .ok (.invokevirtual 140, 3) := by decide +kernel
theorem dX5_markAll_85 : decode cX5_markAll 85 = .ok (.iinc 5 1, 3) := by decide +kernel
theorem dX5_markAll_88 : decode cX5_markAll 88 = .ok (.goto (-85), 3) := by decide +kernel
theorem dX5_markAll_91 : decode cX5_markAll 91 = .ok (.iconst 1, 1) := by decide +kernel
theorem dX5_markAll_92 : decode cX5_markAll 92 = .ok (.ireturn, 1) := by decide +kernel
theorem dX5_leastMark_0 : decode cX5_leastMark 0 = .ok (.aload_n 0, 1) := by decide +kernel
theorem dX5_leastMark_1 : decode cX5_leastMark 1 = .ok (.iload_n 1, 1) := by decide +kernel
theorem dX5_leastMark_2 : decode cX5_leastMark 2 = .ok (.invokevirtual 181, 3) := by decide +kernel
theorem dX5_leastMark_5 : decode cX5_leastMark 5 = .ok (.istore_n 2, 1) := by decide +kernel
theorem dX5_leastMark_6 : decode cX5_leastMark 6 = .ok (.iload_n 2, 1) := by decide +kernel
theorem dX5_leastMark_7 : decode cX5_leastMark 7 = .ok (.iconst 1, 1) := by decide +kernel
theorem dX5_leastMark_8 : decode cX5_leastMark 8 = .ok (.iadd, 1) := by decide +kernel
theorem dX5_leastMark_9 : decode cX5_leastMark 9 = .ok (.istore_n 3, 1) := by decide +kernel
theorem dX5_leastMark_10 : decode cX5_leastMark 10 = .ok (.iload_n 3, 1) := by decide +kernel
theorem dX5_leastMark_11 : decode cX5_leastMark 11 = .ok (.aload_n 0, 1) := by decide +kernel
theorem dX5_leastMark_12 : decode cX5_leastMark 12 = .ok (.getfield 41, 3) := by decide +kernel
theorem dX5_leastMark_15 : decode cX5_leastMark 15 = .ok (.getfield 102, 3) := by decide +kernel
theorem dX5_leastMark_18 : decode cX5_leastMark 18 = .ok (.if_icmp .ge 37, 3) := by decide +kernel
theorem dX5_leastMark_21 : decode cX5_leastMark 21 = .ok (.iload_n 1, 1) := by decide +kernel
theorem dX5_leastMark_22 : decode cX5_leastMark 22 = .ok (.iload_n 3, 1) := by decide +kernel
theorem dX5_leastMark_23 : decode cX5_leastMark 23 = .ok (.invokestatic 105, 3) := by decide +kernel
theorem dX5_leastMark_26 : decode cX5_leastMark 26 = .ok (.ifCond .eq 23, 3) := by decide +kernel
theorem dX5_leastMark_29 : decode cX5_leastMark 29 = .ok (.aload_n 0, 1) := by decide +kernel
theorem dX5_leastMark_30 : decode cX5_leastMark 30 = .ok (.getfield 23, 3) := by decide +kernel
theorem dX5_leastMark_33 : decode cX5_leastMark 33 = .ok (.iload_n 3, 1) := by decide +kernel
theorem dX5_leastMark_34 : decode cX5_leastMark 34 = .ok (.aaload, 1) := by decide +kernel
theorem dX5_leastMark_35 : decode cX5_leastMark 35 = .ok (.aload_n 0, 1) := by decide +kernel
theorem dX5_leastMark_36 : decode cX5_leastMark 36 = .ok (.getfield 23, 3) := by decide +kernel
theorem dX5_leastMark_39 : decode cX5_leastMark 39 = .ok (.iload_n 2, 1) := by decide +kernel
theorem dX5_leastMark_40 : decode cX5_leastMark 40 = .ok (.aaload, 1) := by decide +kernel
theorem dX5_leastMark_41 : decode cX5_leastMark 41 = .ok (.invokevirtual 184, 3) := by decide +kernel
theorem dX5_leastMark_44 : decode cX5_leastMark 44 = .ok (.ifCond .eq 5, 3) := by decide +kernel
theorem dX5_leastMark_47 : decode cX5_leastMark 47 = .ok (.iload_n 3, 1) := by decide +kernel
theorem dX5_leastMark_48 : decode cX5_leastMark 48 = .ok (.istore_n 2, 1) := by decide +kernel
theorem dX5_leastMark_49 : decode cX5_leastMark 49 = .ok (.iinc 3 1, 3) := by decide +kernel
theorem dX5_leastMark_52 : decode cX5_leastMark 52 = .ok (.goto (-42), 3) := by decide +kernel
theorem dX5_leastMark_55 : decode cX5_leastMark 55 = .ok (.iload_n 2, 1) := by decide +kernel
theorem dX5_leastMark_56 : decode cX5_leastMark 56 = .ok (.ireturn, 1) := by decide +kernel
theorem dX5_diminish_0 : decode cX5_diminish 0 = .ok (.aload_n 0, 1) := by decide +kernel
theorem dX5_diminish_1 : decode cX5_diminish 1 = .ok (.invokevirtual 166, 3) := by decide +kernel
theorem dX5_diminish_4 : decode cX5_diminish 4 = .ok (.istore_n 1, 1) := by decide +kernel
theorem dX5_diminish_5 : decode cX5_diminish 5 = .ok (.aload_n 0, 1) := by decide +kernel
theorem dX5_diminish_6 : decode cX5_diminish 6 = .ok (.getfield 41, 3) := by decide +kernel
theorem dX5_diminish_9 : decode cX5_diminish 9 = .ok (.getfield 102, 3) := by decide +kernel
theorem dX5_diminish_12 : decode cX5_diminish 12 = .ok (.istore_n 2, 1) := by decide +kernel
theorem dX5_diminish_13 : decode cX5_diminish 13 = .ok (.iload_n 2, 1) := by decide +kernel
theorem dX5_diminish_14 : decode cX5_diminish 14 = .ok (.iconst 1, 1) := by decide +kernel
theorem dX5_diminish_15 : decode cX5_diminish 15 = .ok (.if_icmp .le 145, 3) := by decide +kernel
theorem dX5_diminish_18 : decode cX5_diminish 18 = .ok (.aload_n 0, 1) := by decide +kernel
theorem dX5_diminish_19 : decode cX5_diminish 19 = .ok (.iload_n 1, 1) := by decide +kernel
theorem dX5_diminish_20 : decode cX5_diminish 20 = .ok (.invokevirtual 181, 3) := by decide +kernel
theorem dX5_diminish_23 : decode cX5_diminish 23 = .ok (.istore_n 3, 1) := by decide +kernel
theorem dX5_diminish_24 : decode cX5_diminish 24 = .ok (.aload_n 0, 1) := by decide +kernel
theorem dX5_diminish_25 : decode cX5_diminish 25 = .ok (.aload_n 0, 1) := by decide +kernel
theorem dX5_diminish_26 : decode cX5_diminish 26 = .ok (.getfield 23, 3) := by decide +kernel
theorem dX5_diminish_29 : decode cX5_diminish 29 = .ok (.iload_n 3, 1) := by decide +kernel
theorem dX5_diminish_30 : decode cX5_diminish 30 = .ok (.aaload, 1) := by decide +kernel
theorem dX5_diminish_31 : decode cX5_diminish 31 = .ok (.aload_n 0, 1) := by decide +kernel
theorem dX5_diminish_32 : decode cX5_diminish 32 = .ok (.iload_n 3, 1) := by decide +kernel
theorem dX5_diminish_33 : decode cX5_diminish 33 = .ok (.invokevirtual 136, 3) := by decide +kernel
theorem dX5_diminish_36 : decode cX5_diminish 36 = .ok (.aload_n 0, 1) := by decide +kernel
theorem dX5_diminish_37 : decode cX5_diminish 37 = .ok (.getfield 18, 3) := by decide +kernel
theorem dX5_diminish_40 : decode cX5_diminish 40 = .ok (.getfield 113, 3) := by decide +kernel
theorem dX5_diminish_43 : decode cX5_diminish 43 = .ok (.aload_n 0, 1) := by decide +kernel
theorem dX5_diminish_44 : decode cX5_diminish 44 = .ok (.getfield 18, 3) := by decide +kernel
theorem dX5_diminish_47 : decode cX5_diminish 47 = .ok (.iconst 1, 1) := by decide +kernel
theorem dX5_diminish_48 : decode cX5_diminish 48 = .ok (.iload_n 2, 1) := by decide +kernel
theorem dX5_diminish_49 : decode cX5_diminish 49 = .ok (.invokevirtual 151, 3) := by decide +kernel
theorem dX5_diminish_52 : decode cX5_diminish 52 = .ok (.ifCond .ne 5, 3) := by decide +kernel
theorem dX5_diminish_55 : decode cX5_diminish 55 = .ok (.iconst 0, 1) := by decide +kernel
theorem dX5_diminish_56 : decode cX5_diminish 56 = .ok (.ireturn, 1) := by decide +kernel
theorem dX5_diminish_57 : decode cX5_diminish 57 = .ok (.aload_n 0, 1) := by decide +kernel
theorem dX5_diminish_58 : decode cX5_diminish 58 = .ok (.getfield 45, 3) := by decide +kernel
theorem dX5_diminish_61 : decode cX5_diminish 61 = .ok (.iconst 0, 1) := by decide +kernel
theorem dX5_diminish_62 : decode cX5_diminish 62 = .ok (.aload_n 0, 1) := by decide +kernel
theorem dX5_diminish_63 : decode cX5_diminish 63 = .ok (.iload_n 3, 1) := by decide +kernel
theorem dX5_diminish_64 : decode cX5_diminish 64 = .ok (.invokevirtual 136, 3) := by decide +kernel
theorem dX5_diminish_67 : decode cX5_diminish 67 = .ok (.aload_n 0, 1) := by decide +kernel
theorem dX5_diminish_68 : decode cX5_diminish 68 = .ok (.getfield 23, 3) := by decide +kernel
theorem dX5_diminish_71 : decode cX5_diminish 71 = .ok (.iload_n 3, 1) := by decide +kernel
theorem dX5_diminish_72 : decode cX5_diminish 72 = .ok (.aaload, 1) := by decide +kernel
theorem dX5_diminish_73 : decode cX5_diminish 73 = .ok (.aload_n 0, 1) := by decide +kernel
theorem dX5_diminish_74 : decode cX5_diminish 74 = .ok (.getfield 12, 3) := by decide +kernel
theorem dX5_diminish_77 : decode cX5_diminish 77 = .ok (.getfield 113, 3) := by decide +kernel
theorem dX5_diminish_80 : decode cX5_diminish 80 = .ok (.invokevirtual 140, 3) := by decide +kernel
theorem dX5_diminish_83 : decode cX5_diminish 83 = .ok (.iload_n 3, 1) := by decide +kernel
theorem dX5_diminish_84 : decode cX5_diminish 84 = .ok (.iconst 1, 1) := by decide +kernel
theorem dX5_diminish_85 : decode cX5_diminish 85 = .ok (.iadd, 1) := by decide +kernel
theorem dX5_diminish_86 : decode cX5_diminish 86 = .ok (.istore 4, 2) := by decide +kernel
theorem dX5_diminish_88 : decode cX5_diminish 88 = .ok (.iload 4, 2) := by decide +kernel
theorem dX5_diminish_90 : decode cX5_diminish 90 = .ok (.aload_n 0, 1) := by decide +kernel
theorem dX5_diminish_91 : decode cX5_diminish 91 = .ok (.getfield 41, 3) := by decide +kernel
theorem dX5_diminish_94 : decode cX5_diminish 94 = .ok (.getfield 102, 3) := by decide +kernel
theorem dX5_diminish_97 : decode cX5_diminish 97 = .ok (.if_icmp .ge 38, 3) := by decide +kernel
theorem dX5_diminish_100 : decode cX5_diminish 100 = .ok (.iload_n 1, 1) := by decide +kernel
theorem dX5_diminish_101 : decode cX5_diminish 101 = .ok (.iload 4, 2) := by decide +kernel
theorem dX5_diminish_103 : decode cX5_diminish 103 = .ok (.invokestatic 105, 3) := by decide +kernel
theorem dX5_diminish_106 : decode cX5_diminish 106 = .ok (.ifCond .eq 23, 3) := by decide +kernel
theorem dX5_diminish_109 : decode cX5_diminish 109 = .ok (.aload_n 0, 1) := by decide +kernel
theorem dX5_diminish_110 : decode cX5_diminish 110 = .ok (.iload 4, 2) := by decide +kernel
theorem dX5_diminish_112 : decode cX5_diminish 112 = .ok (.iload_n 3, 1) := by decide +kernel
theorem dX5_diminish_113 : decode cX5_diminish 113 = .ok (.iload_n 2, 1) := by decide +kernel
theorem dX5_diminish_114 : decode cX5_diminish 114 = .ok (.invokevirtual 187, 3) := by decide +kernel
theorem dX5_diminish_117 : decode cX5_diminish 117 = .ok (.istore 5, 2) := by decide +kernel
theorem dX5_diminish_119 : decode cX5_diminish 119 = .ok (.iload 5, 2) := by decide +kernel
theorem dX5_diminish_121 : decode cX5_diminish 121 = .ok (.ifCond .ge 5, 3) := by decide +kernel
theorem dX5_diminish_124 : decode cX5_diminish 124 = .ok (.iconst 0, 1) := by decide +kernel
theorem dX5_diminish_125 : decode cX5_diminish 125 = .ok (.ireturn, 1) := by decide +kernel
theorem dX5_diminish_126 : decode cX5_diminish 126 = .ok (.iload 5, 2) := by decide +kernel
theorem dX5_diminish_128 : decode cX5_diminish 128 = .ok (.istore_n 3, 1) := by decide +kernel
theorem dX5_diminish_129 : decode cX5_diminish 129 = .ok (.iinc 4 1, 3) := by decide +kernel
theorem dX5_diminish_132 : decode cX5_diminish 132 = .ok (.goto (-44), 3) := by decide +kernel
theorem dX5_diminish_135 : decode cX5_diminish 135 = .ok (.aload_n 0, 1) := by decide +kernel
theorem dX5_diminish_136 : decode cX5_diminish 136 = .ok (.iload_n 3, 1) := by decide +kernel
theorem dX5_diminish_137 : decode cX5_diminish 137 = .ok (.aload_n 0, 1) := by decide +kernel
theorem dX5_diminish_138 : decode cX5_diminish 138 = .ok (.getfield 23, 3) := by decide +kernel
theorem dX5_diminish_141 : decode cX5_diminish 141 = .ok (.iload_n 3, 1) := by decide +kernel
theorem dX5_diminish_142 : decode cX5_diminish 142 = .ok (.aaload, 1) := by decide +kernel
theorem dX5_diminish_143 : decode cX5_diminish 143 = .ok (.invokevirtual 177, 3) := by decide +kernel
theorem dX5_diminish_146 : decode cX5_diminish 146 = .ok (.iload_n 1, 1) := by decide +kernel
theorem dX5_diminish_147 : decode cX5_diminish 147 = .ok (.iconst 1, 1) := by decide +kernel
theorem dX5_diminish_148 : decode cX5_diminish 148 = .ok (.iload_n 3, 1) := by decide +kernel
theorem dX5_diminish_149 : decode cX5_diminish 149 = .ok (.ishl, 1) := by decide +kernel
theorem dX5_diminish_150 : decode cX5_diminish 150 = .ok (.iconst (-1), 1) := by decide +kernel
theorem dX5_diminish_151 : decode cX5_diminish 151 = .ok (.ixor, 1) := by decide +kernel
theorem dX5_diminish_152 : decode cX5_diminish 152 = .ok (.iand, 1) := by decide +kernel
theorem dX5_diminish_153 : decode cX5_diminish 153 = .ok (.istore_n 1, 1) := by decide +kernel
theorem dX5_diminish_154 : decode cX5_diminish 154 = .ok (.iinc 2 (-1), 3) := by decide +kernel
theorem dX5_diminish_157 : decode cX5_diminish 157 = .ok (.goto (-144), 3) := by decide +kernel
theorem dX5_diminish_160 : decode cX5_diminish 160 = .ok (.aload_n 0, 1) := by decide +kernel
theorem dX5_diminish_161 : decode cX5_diminish 161 = .ok (.aload_n 0, 1) := by decide +kernel
theorem dX5_diminish_162 : decode cX5_diminish 162 = .ok (.iload_n 1, 1) := by decide +kernel
theorem dX5_diminish_163 : decode cX5_diminish 163 = .ok (.invokevirtual 181, 3) := by decide +kernel
theorem dX5_diminish_166 : decode cX5_diminish 166 = .ok (.aload_n 0, 1) := by decide +kernel
theorem dX5_diminish_167 : decode cX5_diminish 167 = .ok (.getfield 12, 3) := by decide +kernel
theorem dX5_diminish_170 : decode cX5_diminish 170 = .ok (.getfield 59, 3) := by decide +kernel
theorem dX5_diminish_173 : decode cX5_diminish 173 = .ok (.invokevirtual 177, 3) := by decide +kernel
theorem dX5_diminish_176 : decode cX5_diminish 176 = .ok (.iconst 1, 1) := by decide +kernel
theorem dX5_diminish_177 : decode cX5_diminish 177 = .ok (.ireturn, 1) := by decide +kernel
theorem dX5_trimOrPass_0 : decode cX5_trimOrPass 0 = .ok (.aload_n 0, 1) := by decide +kernel
theorem dX5_trimOrPass_1 : decode cX5_trimOrPass 1 = .ok (.iload_n 1, 1) := by decide +kernel
theorem dX5_trimOrPass_2 : decode cX5_trimOrPass 2 = .ok (.invokevirtual 136, 3) := by decide +kernel
theorem dX5_trimOrPass_5 : decode cX5_trimOrPass 5 = .ok (.istore 4, 2) := by decide +kernel
theorem dX5_trimOrPass_7 : decode cX5_trimOrPass 7 = .ok (.aload_n 0, 1) := by decide +kernel
theorem dX5_trimOrPass_8 : decode cX5_trimOrPass 8 = .ok (.getfield 41, 3) := by decide +kernel
theorem dX5_trimOrPass_11 : decode cX5_trimOrPass 11 = .ok (.aload_n 0, 1) := by decide +kernel
theorem dX5_trimOrPass_12 : decode cX5_trimOrPass 12 = .ok (.getfield 41, 3) := by decide +kernel
theorem dX5_trimOrPass_15 : decode cX5_trimOrPass 15 = .ok (.getfield 109, 3) := by decide +kernel
theorem dX5_trimOrPass_18 : decode cX5_trimOrPass 18 = .ok (.iload 4, 2) := by decide +kernel
theorem dX5_trimOrPass_20 : decode cX5_trimOrPass 20 = .ok (.aaload, 1) := by decide +kernel
theorem dX5_trimOrPass_21 : decode cX5_trimOrPass 21 = .ok (.aload_n 0, 1) := by decide +kernel
theorem dX5_trimOrPass_22 : decode cX5_trimOrPass 22 = .ok (.getfield 18, 3) := by decide +kernel
theorem dX5_trimOrPass_25 : decode cX5_trimOrPass 25 = .ok (.getfield 113, 3) := by decide +kernel
theorem dX5_trimOrPass_28 : decode cX5_trimOrPass 28 = .ok (.aload_n 0, 1) := by decide +kernel
theorem dX5_trimOrPass_29 : decode cX5_trimOrPass 29 = .ok (.getfield 23, 3) := by decide +kernel
theorem dX5_trimOrPass_32 : decode cX5_trimOrPass 32 = .ok (.iload_n 2, 1) := by decide +kernel
theorem dX5_trimOrPass_33 : decode cX5_trimOrPass 33 = .ok (.aaload, 1) := by decide +kernel
theorem dX5_trimOrPass_34 : decode cX5_trimOrPass 34 = .ok (.aload_n 0, 1) := by decide +kernel
theorem dX5_trimOrPass_35 : decode cX5_trimOrPass 35 = .ok (.getfield 45, 3) := by decide +kernel
theorem dX5_trimOrPass_38 : decode cX5_trimOrPass 38 = .ok (.getfield 116, 3) := by decide +kernel
theorem dX5_trimOrPass_41 : decode cX5_trimOrPass 41 = .ok (.invokevirtual 120, 3) := by decide +kernel
theorem dX5_trimOrPass_44 : decode cX5_trimOrPass 44 = .ok (.lstore 5, 2) := by decide +kernel
theorem dX5_trimOrPass_46 : decode cX5_trimOrPass 46 = .ok (.lload 5, 2) := by decide +kernel
theorem dX5_trimOrPass_48 : decode cX5_trimOrPass 48 = .ok (.iload_n 3, 1) := by decide +kernel
theorem dX5_trimOrPass_49 : decode cX5_trimOrPass 49 = .ok (.i2l, 1) := by decide +kernel
theorem dX5_trimOrPass_50 : decode cX5_trimOrPass 50 = .ok (.lmul, 1) := by decide +kernel
theorem dX5_trimOrPass_51 : decode cX5_trimOrPass 51 = .ok (.aload_n 0, 1) := by decide +kernel
theorem dX5_trimOrPass_52 : decode cX5_trimOrPass 52 = .ok (.iload 4, 2) := by decide +kernel
theorem dX5_trimOrPass_54 : decode cX5_trimOrPass 54 = .ok (.aload_n 0, 1) := by decide +kernel
theorem dX5_trimOrPass_55 : decode cX5_trimOrPass 55 = .ok (.getfield 18, 3) := by decide +kernel
theorem dX5_trimOrPass_58 : decode cX5_trimOrPass 58 = .ok (.invokevirtual 158, 3) := by decide +kernel
theorem dX5_trimOrPass_61 : decode cX5_trimOrPass 61 = .ok (.lcmp, 1) := by decide +kernel
theorem dX5_trimOrPass_62 : decode cX5_trimOrPass 62 = .ok (.ifCond .gt 28, 3) := by decide +kernel
theorem dX5_trimOrPass_65 : decode cX5_trimOrPass 65 = .ok (.aload_n 0, 1) := by decide +kernel
theorem dX5_trimOrPass_66 : decode cX5_trimOrPass 66 = .ok (.getfield 45, 3) := by decide +kernel
theorem dX5_trimOrPass_69 : decode cX5_trimOrPass 69 = .ok (.iconst 2, 1) := by decide +kernel
theorem dX5_trimOrPass_70 : decode cX5_trimOrPass 70 = .ok (.iload 4, 2) := by decide +kernel
theorem dX5_trimOrPass_72 : decode cX5_trimOrPass 72 = .ok (.aload_n 0, 1) := by decide +kernel
theorem dX5_trimOrPass_73 : decode cX5_trimOrPass 73 = .ok (.getfield 23, 3) := by decide +kernel
theorem dX5_trimOrPass_76 : decode cX5_trimOrPass 76 = .ok (.iload_n 2, 1) := by decide +kernel
theorem dX5_trimOrPass_77 : decode cX5_trimOrPass 77 = .ok (.aaload, 1) := by decide +kernel
theorem dX5_trimOrPass_78 : decode cX5_trimOrPass 78 = .ok (.aload_n 0, 1) := by decide +kernel
theorem dX5_trimOrPass_79 : decode cX5_trimOrPass 79 = .ok (.getfield 12, 3) := by decide +kernel
theorem dX5_trimOrPass_82 : decode cX5_trimOrPass 82 = .ok (.getfield 113, 3) := by decide +kernel
theorem dX5_trimOrPass_85 : decode cX5_trimOrPass 85 = .ok (.invokevirtual 140, 3) := by decide +kernel
theorem dX5_trimOrPass_88 : decode cX5_trimOrPass 88 = .ok (.iload_n 2, 1) := by decide +kernel
theorem dX5_trimOrPass_89 : decode cX5_trimOrPass 89 = .ok (.ireturn, 1) := by decide +kernel
theorem dX5_trimOrPass_90 : decode cX5_trimOrPass 90 = .ok (.aload_n 0, 1) := by decide +kernel
theorem dX5_trimOrPass_91 : decode cX5_trimOrPass 91 = .ok (.aload_n 0, 1) := by decide +kernel
theorem dX5_trimOrPass_92 : decode cX5_trimOrPass 92 = .ok (.getfield 23, 3) := by decide +kernel
theorem dX5_trimOrPass_95 : decode cX5_trimOrPass 95 = .ok (.iload_n 1, 1) := by decide +kernel
theorem dX5_trimOrPass_96 : decode cX5_trimOrPass 96 = .ok (.aaload, 1) := by decide +kernel
theorem dX5_trimOrPass_97 : decode cX5_trimOrPass 97 = .ok (.iload 4, 2) := by decide +kernel
theorem dX5_trimOrPass_99 : decode cX5_trimOrPass 99 = .ok (.aload_n 0, 1) := by decide +kernel
theorem dX5_trimOrPass_100 : decode cX5_trimOrPass 100 = .ok (.getfield 18, 3) := by decide +kernel
theorem dX5_trimOrPass_103 : decode cX5_trimOrPass 103 = .ok (.getfield 113, 3) := by decide +kernel
theorem dX5_trimOrPass_106 : decode cX5_trimOrPass 106 = .ok (.aload_n 0, 1) := by decide +kernel
theorem dX5_trimOrPass_107 : decode cX5_trimOrPass 107 = .ok (.getfield 18, 3) := by decide +kernel
theorem dX5_trimOrPass_110 : decode cX5_trimOrPass 110 = .ok (.iconst 1, 1) := by decide +kernel
theorem dX5_trimOrPass_111 : decode cX5_trimOrPass 111 = .ok (.iload_n 3, 1) := by decide +kernel
theorem dX5_trimOrPass_112 : decode cX5_trimOrPass 112 = .ok (.invokevirtual 151, 3) := by decide +kernel
theorem dX5_trimOrPass_115 : decode cX5_trimOrPass 115 = .ok (.ifCond .ne 5, 3) := by decide +kernel
theorem dX5_trimOrPass_118 : decode cX5_trimOrPass 118 = .ok (.iconst (-1), 1) := by decide +kernel
theorem dX5_trimOrPass_119 : decode cX5_trimOrPass 119 = .ok (.ireturn, 1) := by decide +kernel
theorem dX5_trimOrPass_120 : decode cX5_trimOrPass 120 = .ok (.aload_n 0, 1) := by decide +kernel
theorem dX5_trimOrPass_121 : decode cX5_trimOrPass 121 = .ok (.getfield 45, 3) := by decide +kernel
theorem dX5_trimOrPass_124 : decode cX5_trimOrPass 124 = .ok (.iconst 1, 1) := by decide +kernel
theorem dX5_trimOrPass_125 : decode cX5_trimOrPass 125 = .ok (.iload 4, 2) := by decide +kernel
theorem dX5_trimOrPass_127 : decode cX5_trimOrPass 127 = .ok (.aload_n 0, 1) := by decide +kernel
theorem dX5_trimOrPass_128 : decode cX5_trimOrPass 128 = .ok (.getfield 23, 3) := by decide +kernel
theorem dX5_trimOrPass_131 : decode cX5_trimOrPass 131 = .ok (.iload_n 1, 1) := by decide +kernel
theorem dX5_trimOrPass_132 : decode cX5_trimOrPass 132 = .ok (.aaload, 1) := by decide +kernel
theorem dX5_trimOrPass_133 : decode cX5_trimOrPass 133 = .ok (.aload_n 0, 1) := by decide +kernel
theorem dX5_trimOrPass_134 : decode cX5_trimOrPass 134 = .ok (.getfield 23, 3) := by decide +kernel
theorem dX5_trimOrPass_137 : decode cX5_trimOrPass 137 = .ok (.iload_n 2, 1) := by decide +kernel
theorem dX5_trimOrPass_138 : decode cX5_trimOrPass 138 = .ok (.aaload, 1) := by decide +kernel
theorem dX5_trimOrPass_139 : decode cX5_trimOrPass 139 = .ok (.invokevirtual 140, 3) := by decide +kernel
theorem dX5_trimOrPass_142 : decode cX5_trimOrPass 142 = .ok (.iload_n 1, 1) := by decide +kernel
theorem dX5_trimOrPass_143 : decode cX5_trimOrPass 143 = .ok (.ireturn, 1) := by decide +kernel
theorem dX5_halve_0 : decode cX5_halve 0 = .ok (.iconst 1, 1) := by decide +kernel
theorem dX5_halve_1 : decode cX5_halve 1 = .ok (.istore_n 1, 1) := by decide +kernel
theorem dX5_halve_2 : decode cX5_halve 2 = .ok (.aload_n 0, 1) := by decide +kernel
theorem dX5_halve_3 : decode cX5_halve 3 = .ok (.getfield 30, 3) := by decide +kernel
theorem dX5_halve_6 : decode cX5_halve 6 = .ok (.iconst 0, 1) := by decide +kernel
theorem dX5_halve_7 : decode cX5_halve 7 = .ok (.aload_n 0, 1) := by decide +kernel
theorem dX5_halve_8 : decode cX5_halve 8 = .ok (.invokevirtual 166, 3) := by decide +kernel
theorem dX5_halve_11 : decode cX5_halve 11 = .ok (.iastore, 1) := by decide +kernel
theorem dX5_halve_12 : decode cX5_halve 12 = .ok (.aload_n 0, 1) := by decide +kernel
theorem dX5_halve_13 : decode cX5_halve 13 = .ok (.getfield 27, 3) := by decide +kernel
theorem dX5_halve_16 : decode cX5_halve 16 = .ok (.iconst 0, 1) := by decide +kernel
theorem dX5_halve_17 : decode cX5_halve 17 = .ok (.aaload, 1) := by decide +kernel
theorem dX5_halve_18 : decode cX5_halve 18 = .ok (.aload_n 0, 1) := by decide +kernel
theorem dX5_halve_19 : decode cX5_halve 19 = .ok (.getfield 12, 3) := by decide +kernel
theorem dX5_halve_22 : decode cX5_halve 22 = .ok (.getfield 59, 3) := by decide +kernel
theorem dX5_halve_25 : decode cX5_halve 25 = .ok (.invokevirtual 148, 3) := by decide +kernel
theorem dX5_halve_28 : decode cX5_halve 28 = .ok (.iconst 0, 1) := by decide +kernel
theorem dX5_halve_29 : decode cX5_halve 29 = .ok (.istore_n 2, 1) := by decide +kernel
theorem dX5_halve_30 : decode cX5_halve 30 = .ok (.iload_n 2, 1) := by decide +kernel
theorem dX5_halve_31 : decode cX5_halve 31 = .ok (.bipush 10, 2) := by decide +kernel
theorem dX5_halve_33 : decode cX5_halve 33 = .ok (.if_icmp .ge 143, 3) := by decide +kernel
theorem dX5_halve_36 : decode cX5_halve 36 = .ok (.iload_n 1, 1) := by decide +kernel
theorem dX5_halve_37 : decode cX5_halve 37 = .ok (.ifCond .le 139, 3) := by decide +kernel
theorem dX5_halve_40 : decode cX5_halve 40 = .ok (.aload_n 0, 1) := by decide +kernel
theorem dX5_halve_41 : decode cX5_halve 41 = .ok (.getfield 30, 3) := by decide +kernel
theorem dX5_halve_44 : decode cX5_halve 44 = .ok (.iload_n 1, 1) := by decide +kernel
theorem dX5_halve_45 : decode cX5_halve 45 = .ok (.iconst 1, 1) := by decide +kernel
theorem dX5_halve_46 : decode cX5_halve 46 = .ok (.isub, 1) := by decide +kernel
theorem dX5_halve_47 : decode cX5_halve 47 = .ok (.iaload, 1) := by decide +kernel
theorem dX5_halve_48 : decode cX5_halve 48 = .ok (.istore_n 3, 1) := by decide +kernel
theorem dX5_halve_49 : decode cX5_halve 49 = .ok (.aload_n 0, 1) := by decide +kernel
theorem dX5_halve_50 : decode cX5_halve 50 = .ok (.getfield 18, 3) := by decide +kernel
theorem dX5_halve_53 : decode cX5_halve 53 = .ok (.getfield 59, 3) := by decide +kernel
theorem dX5_halve_56 : decode cX5_halve 56 = .ok (.aload_n 0, 1) := by decide +kernel
theorem dX5_halve_57 : decode cX5_halve 57 = .ok (.getfield 27, 3) := by decide +kernel
theorem dX5_halve_60 : decode cX5_halve 60 = .ok (.iload_n 1, 1) := by decide +kernel
theorem dX5_halve_61 : decode cX5_halve 61 = .ok (.iconst 1, 1) := by decide +kernel
theorem dX5_halve_62 : decode cX5_halve 62 = .ok (.isub, 1) := by decide +kernel
theorem dX5_halve_63 : decode cX5_halve 63 = .ok (.aaload, 1) := by decide +kernel
theorem dX5_halve_64 : decode cX5_halve 64 = .ok (.invokevirtual 148, 3) := by decide +kernel
theorem dX5_halve_67 : decode cX5_halve 67 = .ok (.iload_n 3, 1) := by decide +kernel
theorem dX5_halve_68 : decode cX5_halve 68 = .ok (.invokestatic 191, 3) := by decide +kernel
theorem dX5_halve_71 : decode cX5_halve 71 = .ok (.istore 4, 2) := by decide +kernel
theorem dX5_halve_73 : decode cX5_halve 73 = .ok (.iload 4, 2) := by decide +kernel
theorem dX5_halve_75 : decode cX5_halve 75 = .ok (.iconst 2, 1) := by decide +kernel
theorem dX5_halve_76 : decode cX5_halve 76 = .ok (.if_icmp .lt 8, 3) := by decide +kernel
theorem dX5_halve_79 : decode cX5_halve 79 = .ok (.iload_n 1, 1) := by decide +kernel
theorem dX5_halve_80 : decode cX5_halve 80 = .ok (.iconst 5, 1) := by decide +kernel
theorem dX5_halve_81 : decode cX5_halve 81 = .ok (.if_icmp .lt 25, 3) := by decide +kernel
theorem dX5_halve_84 : decode cX5_halve 84 = .ok (.aload_n 0, 1) := by decide +kernel
theorem dX5_halve_85 : decode cX5_halve 85 = .ok (.aload_n 0, 1) := by decide +kernel
theorem dX5_halve_86 : decode cX5_halve 86 = .ok (.iload_n 3, 1) := by decide +kernel
theorem dX5_halve_87 : decode cX5_halve 87 = .ok (.invokevirtual 181, 3) := by decide +kernel
theorem dX5_halve_90 : decode cX5_halve 90 = .ok (.aload_n 0, 1) := by decide +kernel
theorem dX5_halve_91 : decode cX5_halve 91 = .ok (.getfield 18, 3) := by decide +kernel
theorem dX5_halve_94 : decode cX5_halve 94 = .ok (.getfield 59, 3) := by decide +kernel
theorem dX5_halve_97 : decode cX5_halve 97 = .ok (.invokevirtual 177, 3) := by decide +kernel
theorem dX5_halve_100 : decode cX5_halve 100 = .ok (.iinc 1 (-1), 3) := by decide +kernel
theorem dX5_halve_103 : decode cX5_halve 103 = .ok (.goto 67, 3) := by decide +kernel
theorem dX5_halve_106 : decode cX5_halve 106 = .ok (.aload_n 0, 1) := by decide +kernel
theorem dX5_halve_107 : decode cX5_halve 107 = .ok (.iload_n 3, 1) := by decide +kernel
theorem dX5_halve_108 : decode cX5_halve 108 = .ok (.aload_n 0, 1) := by decide +kernel
theorem dX5_halve_109 : decode cX5_halve 109 = .ok (.getfield 18, 3) := by decide +kernel
theorem dX5_halve_112 : decode cX5_halve 112 = .ok (.iload 4, 2) := by decide +kernel
theorem dX5_halve_114 : decode cX5_halve 114 = .ok (.iconst 2, 1) := by decide +kernel
theorem dX5_halve_115 : decode cX5_halve 115 = .ok (.idiv, 1) := by decide +kernel
theorem dX5_halve_116 : decode cX5_halve 116 = .ok (.iload 4, 2) := by decide +kernel
theorem dX5_halve_118 : decode cX5_halve 118 = .ok (.invokevirtual 170, 3) := by decide +kernel
theorem dX5_halve_121 : decode cX5_halve 121 = .ok (.ifCond .ne 5, 3) := by decide +kernel
theorem dX5_halve_124 : decode cX5_halve 124 = .ok (.iconst 0, 1) := by decide +kernel
theorem dX5_halve_125 : decode cX5_halve 125 = .ok (.ireturn, 1) := by decide +kernel
theorem dX5_halve_126 : decode cX5_halve 126 = .ok (.aload_n 0, 1) := by decide +kernel
theorem dX5_halve_127 : decode cX5_halve 127 = .ok (.getfield 30, 3) := by decide +kernel
theorem dX5_halve_130 : decode cX5_halve 130 = .ok (.iload_n 1, 1) := by decide +kernel
theorem dX5_halve_131 : decode cX5_halve 131 = .ok (.iconst 1, 1) := by decide +kernel
theorem dX5_halve_132 : decode cX5_halve 132 = .ok (.isub, 1) := by decide +kernel
theorem dX5_halve_133 : decode cX5_halve 133 = .ok (.aload_n 0, 1) := by decide +kernel
theorem dX5_halve_134 : decode cX5_halve 134 = .ok (.iload_n 3, 1) := by decide +kernel
theorem dX5_halve_135 : decode cX5_halve 135 = .ok (.iload 4, 2) := by decide +kernel
theorem dX5_halve_137 : decode cX5_halve 137 = .ok (.iconst 2, 1) := by decide +kernel
theorem dX5_halve_138 : decode cX5_halve 138 = .ok (.idiv, 1) := by decide +kernel
theorem dX5_halve_139 : decode cX5_halve 139 = .ok (.aload_n 0, 1) := by decide +kernel
theorem dX5_halve_140 : decode cX5_halve 140 = .ok (.getfield 27, 3) := by decide +kernel
theorem dX5_halve_143 : decode cX5_halve 143 = .ok (.iload_n 1, 1) := by decide +kernel
theorem dX5_halve_144 : decode cX5_halve 144 = .ok (.aaload, 1) := by decide +kernel
theorem dX5_halve_145 : decode cX5_halve 145 = .ok (.invokevirtual 196, 3) := by decide +kernel
theorem dX5_halve_148 : decode cX5_halve 148 = .ok (.iastore, 1) := by decide +kernel
theorem dX5_halve_149 : decode cX5_halve 149 = .ok (.aload_n 0, 1) := by decide +kernel
theorem dX5_halve_150 : decode cX5_halve 150 = .ok (.getfield 30, 3) := by decide +kernel
theorem dX5_halve_153 : decode cX5_halve 153 = .ok (.iload_n 1, 1) := by decide +kernel
theorem dX5_halve_154 : decode cX5_halve 154 = .ok (.iload_n 3, 1) := by decide +kernel
theorem dX5_halve_155 : decode cX5_halve 155 = .ok (.aload_n 0, 1) := by decide +kernel
theorem dX5_halve_156 : decode cX5_halve 156 = .ok (.getfield 30, 3) := by decide +kernel
theorem dX5_halve_159 : decode cX5_halve 159 = .ok (.iload_n 1, 1) := by decide +kernel
theorem dX5_halve_160 : decode cX5_halve 160 = .ok (.iconst 1, 1) := by decide +kernel
theorem dX5_halve_161 : decode cX5_halve 161 = .ok (.isub, 1) := by decide +kernel
theorem dX5_halve_162 : decode cX5_halve 162 = .ok (.iaload, 1) := by decide +kernel
theorem dX5_halve_163 : decode cX5_halve 163 = .ok (.iconst (-1), 1) := by decide +kernel
theorem dX5_halve_164 : decode cX5_halve 164 = .ok (.ixor, 1) := by decide +kernel
theorem dX5_halve_165 : decode cX5_halve 165 = .ok (.iand, 1) := by decide +kernel
theorem dX5_halve_166 : decode cX5_halve 166 = .ok (.iastore, 1) := by decide +kernel
theorem dX5_halve_167 : decode cX5_halve 167 = .ok (.iinc 1 1, 3) := by decide +kernel
theorem dX5_halve_170 : decode cX5_halve 170 = .ok (.iinc 2 1, 3) := by decide +kernel
theorem dX5_halve_173 : decode cX5_halve 173 = .ok (.goto (-143), 3) := by decide +kernel
theorem dX5_halve_176 : decode cX5_halve 176 = .ok (.iconst 1, 1) := by decide +kernel
theorem dX5_halve_177 : decode cX5_halve 177 = .ok (.ireturn, 1) := by decide +kernel
theorem dX5_othersBehind_0 : decode cX5_othersBehind 0 = .ok (.iload_n 1, 1) := by decide +kernel
theorem dX5_othersBehind_1 : decode cX5_othersBehind 1 = .ok (.istore 4, 2) := by decide +kernel
theorem dX5_othersBehind_3 : decode cX5_othersBehind 3 = .ok (.iconst 0, 1) := by decide +kernel
theorem dX5_othersBehind_4 : decode cX5_othersBehind 4 = .ok (.istore 5, 2) := by decide +kernel
theorem dX5_othersBehind_6 : decode cX5_othersBehind 6 = .ok (.iload 5, 2) := by decide +kernel
theorem dX5_othersBehind_8 : decode cX5_othersBehind 8 = .ok (.iload_n 2, 1) := by decide +kernel
theorem dX5_othersBehind_9 : decode cX5_othersBehind 9 = .ok (.if_icmp .ge 39, 3) := by decide +kernel
theorem dX5_othersBehind_12 : decode cX5_othersBehind 12 = .ok (.aload_n 0, 1) := by decide +kernel
theorem dX5_othersBehind_13 : decode cX5_othersBehind 13 = .ok (.iload 4, 2) := by decide +kernel
theorem dX5_othersBehind_15 : decode cX5_othersBehind 15 = .ok (.invokevirtual 174, 3) := by decide +kernel
theorem dX5_othersBehind_18 : decode cX5_othersBehind 18 = .ok (.istore 6, 2) := by decide +kernel
theorem dX5_othersBehind_20 : decode cX5_othersBehind 20 = .ok (.aload_n 3, 1) := by decide +kernel
theorem dX5_othersBehind_21 : decode cX5_othersBehind 21 = .ok (.aload_n 0, 1) := by decide +kernel
theorem dX5_othersBehind_22 : decode cX5_othersBehind 22 = .ok (.getfield 23, 3) := by decide +kernel
theorem dX5_othersBehind_25 : decode cX5_othersBehind 25 = .ok (.iload 6, 2) := by decide +kernel
theorem dX5_othersBehind_27 : decode cX5_othersBehind 27 = .ok (.aaload, 1) := by decide +kernel
theorem dX5_othersBehind_28 : decode cX5_othersBehind 28 = .ok (.invokevirtual 148, 3) := by decide +kernel
theorem dX5_othersBehind_31 : decode cX5_othersBehind 31 = .ok (.iload 4, 2) := by decide +kernel
theorem dX5_othersBehind_33 : decode cX5_othersBehind 33 = .ok (.iconst 1, 1) := by decide +kernel
theorem dX5_othersBehind_34 : decode cX5_othersBehind 34 = .ok (.iload 6, 2) := by decide +kernel
theorem dX5_othersBehind_36 : decode cX5_othersBehind 36 = .ok (.ishl, 1) := by decide +kernel
theorem dX5_othersBehind_37 : decode cX5_othersBehind 37 = .ok (.iconst (-1), 1) := by decide +kernel
theorem dX5_othersBehind_38 : decode cX5_othersBehind 38 = .ok (.ixor, 1) := by decide +kernel
theorem dX5_othersBehind_39 : decode cX5_othersBehind 39 = .ok (.iand, 1) := by decide +kernel
theorem dX5_othersBehind_40 : decode cX5_othersBehind 40 = .ok (.istore 4, 2) := by decide +kernel
theorem dX5_othersBehind_42 : decode cX5_othersBehind 42 = .ok (.iinc 5 1, 3) := by decide +kernel
theorem dX5_othersBehind_45 : decode cX5_othersBehind 45 = .ok (.goto (-39), 3) := by decide +kernel
theorem dX5_othersBehind_48 : decode cX5_othersBehind 48 = .ok (.iload 4, 2) := by decide +kernel
theorem dX5_othersBehind_50 : decode cX5_othersBehind 50 = .ok (.ireturn, 1) := by decide +kernel
theorem dX5_cutInThree_0 : decode cX5_cutInThree 0 = .ok (.aload_n 0, 1) := by decide +kernel
theorem dX5_cutInThree_1 : decode cX5_cutInThree 1 = .ok (.aload_n 0, 1) := by decide +kernel
theorem dX5_cutInThree_2 : decode cX5_cutInThree 2 = .ok (.getfield 23, 3) := by decide +kernel
theorem dX5_cutInThree_5 : decode cX5_cutInThree 5 = .ok (.iconst 0, 1) := by decide +kernel
theorem dX5_cutInThree_6 : decode cX5_cutInThree 6 = .ok (.aaload, 1) := by decide +kernel
theorem dX5_cutInThree_7 : decode cX5_cutInThree 7 = .ok (.iload_n 1, 1) := by decide +kernel
theorem dX5_cutInThree_8 : decode cX5_cutInThree 8 = .ok (.aload_n 2, 1) := by decide +kernel
theorem dX5_cutInThree_9 : decode cX5_cutInThree 9 = .ok (.getfield 113, 3) := by decide +kernel
theorem dX5_cutInThree_12 : decode cX5_cutInThree 12 = .ok (.aload_n 2, 1) := by decide +kernel
theorem dX5_cutInThree_13 : decode cX5_cutInThree 13 = .ok (.iconst 1, 1) := by decide +kernel
theorem dX5_cutInThree_14 : decode cX5_cutInThree 14 = .ok (.iconst 3, 1) := by decide +kernel
theorem dX5_cutInThree_15 : decode cX5_cutInThree 15 = .ok (.invokevirtual 151, 3) := by decide +kernel
theorem dX5_cutInThree_18 : decode cX5_cutInThree 18 = .ok (.ifCond .eq 24, 3) := by decide +kernel
theorem dX5_cutInThree_21 : decode cX5_cutInThree 21 = .ok (.aload_n 0, 1) := by decide +kernel
theorem dX5_cutInThree_22 : decode cX5_cutInThree 22 = .ok (.aload_n 0, 1) := by decide +kernel
theorem dX5_cutInThree_23 : decode cX5_cutInThree 23 = .ok (.getfield 23, 3) := by decide +kernel
theorem dX5_cutInThree_26 : decode cX5_cutInThree 26 = .ok (.iconst 1, 1) := by decide +kernel
theorem dX5_cutInThree_27 : decode cX5_cutInThree 27 = .ok (.aaload, 1) := by decide +kernel
theorem dX5_cutInThree_28 : decode cX5_cutInThree 28 = .ok (.iload_n 1, 1) := by decide +kernel
theorem dX5_cutInThree_29 : decode cX5_cutInThree 29 = .ok (.aload_n 2, 1) := by decide +kernel
theorem dX5_cutInThree_30 : decode cX5_cutInThree 30 = .ok (.getfield 113, 3) := by decide +kernel
theorem dX5_cutInThree_33 : decode cX5_cutInThree 33 = .ok (.aload_n 2, 1) := by decide +kernel
theorem dX5_cutInThree_34 : decode cX5_cutInThree 34 = .ok (.iconst 2, 1) := by decide +kernel
theorem dX5_cutInThree_35 : decode cX5_cutInThree 35 = .ok (.iconst 3, 1) := by decide +kernel
theorem dX5_cutInThree_36 : decode cX5_cutInThree 36 = .ok (.invokevirtual 151, 3) := by decide +kernel
theorem dX5_cutInThree_39 : decode cX5_cutInThree 39 = .ok (.ifCond .ne 5, 3) := by decide +kernel
theorem dX5_cutInThree_42 : decode cX5_cutInThree 42 = .ok (.iconst 0, 1) := by decide +kernel
theorem dX5_cutInThree_43 : decode cX5_cutInThree 43 = .ok (.ireturn, 1) := by decide +kernel
theorem dX5_cutInThree_44 : decode cX5_cutInThree 44 = .ok (.aload_n 0, 1) := by decide +kernel
theorem dX5_cutInThree_45 : decode cX5_cutInThree 45 = .ok (.getfield 45, 3) := by decide +kernel
theorem dX5_cutInThree_48 : decode cX5_cutInThree 48 = .ok (.iconst 0, 1) := by decide +kernel
theorem dX5_cutInThree_49 : decode cX5_cutInThree 49 = .ok (.iload_n 1, 1) := by decide +kernel
theorem dX5_cutInThree_50 : decode cX5_cutInThree 50 = .ok (.aload_n 0, 1) := by decide +kernel
theorem dX5_cutInThree_51 : decode cX5_cutInThree 51 = .ok (.getfield 23, 3) := by decide +kernel
theorem dX5_cutInThree_54 : decode cX5_cutInThree 54 = .ok (.iconst 0, 1) := by decide +kernel
theorem dX5_cutInThree_55 : decode cX5_cutInThree 55 = .ok (.aaload, 1) := by decide +kernel
theorem dX5_cutInThree_56 : decode cX5_cutInThree 56 = .ok (.aload_n 0, 1) := by decide +kernel
theorem dX5_cutInThree_57 : decode cX5_cutInThree 57 = .ok (.getfield 12, 3) := by decide +kernel
theorem dX5_cutInThree_60 : decode cX5_cutInThree 60 = .ok (.getfield 113, 3) := by decide +kernel
theorem dX5_cutInThree_63 : decode cX5_cutInThree 63 = .ok (.invokevirtual 140, 3) := by decide +kernel
theorem dX5_cutInThree_66 : decode cX5_cutInThree 66 = .ok (.aload_n 0, 1) := by decide +kernel
theorem dX5_cutInThree_67 : decode cX5_cutInThree 67 = .ok (.getfield 45, 3) := by decide +kernel
theorem dX5_cutInThree_70 : decode cX5_cutInThree 70 = .ok (.iconst 0, 1) := by decide +kernel
theorem dX5_cutInThree_71 : decode cX5_cutInThree 71 = .ok (.iload_n 1, 1) := by decide +kernel
theorem dX5_cutInThree_72 : decode cX5_cutInThree 72 = .ok (.aload_n 0, 1) := by decide +kernel
theorem dX5_cutInThree_73 : decode cX5_cutInThree 73 = .ok (.getfield 23, 3) := by decide +kernel
theorem dX5_cutInThree_76 : decode cX5_cutInThree 76 = .ok (.iconst 1, 1) := by decide +kernel
theorem dX5_cutInThree_77 : decode cX5_cutInThree 77 = .ok (.aaload, 1) := by decide +kernel
theorem dX5_cutInThree_78 : decode cX5_cutInThree 78 = .ok (.aload_n 0, 1) := by decide +kernel
theorem dX5_cutInThree_79 : decode cX5_cutInThree 79 = .ok (.getfield 12, 3) := by decide +kernel
theorem dX5_cutInThree_82 : decode cX5_cutInThree 82 = .ok (.getfield 113, 3) := by decide +kernel
theorem dX5_cutInThree_85 : decode cX5_cutInThree 85 = .ok (.invokevirtual 140, 3) := by decide +kernel
theorem dX5_cutInThree_88 : decode cX5_cutInThree 88 = .ok (.aload_n 0, 1) := by decide +kernel
theorem dX5_cutInThree_89 : decode cX5_cutInThree 89 = .ok (.getfield 34, 3) := by decide +kernel
theorem dX5_cutInThree_92 : decode cX5_cutInThree 92 = .ok (.iconst 0, 1) := by decide +kernel
theorem dX5_cutInThree_93 : decode cX5_cutInThree 93 = .ok (.aaload, 1) := by decide +kernel
theorem dX5_cutInThree_94 : decode cX5_cutInThree 94 = .ok (.aload_n 2, 1) := by decide +kernel
theorem dX5_cutInThree_95 : decode cX5_cutInThree 95 = .ok (.getfield 113, 3) := by decide +kernel
theorem dX5_cutInThree_98 : decode cX5_cutInThree 98 = .ok (.aload_n 0, 1) := by decide +kernel
theorem dX5_cutInThree_99 : decode cX5_cutInThree 99 = .ok (.getfield 23, 3) := by decide +kernel
theorem dX5_cutInThree_102 : decode cX5_cutInThree 102 = .ok (.iconst 0, 1) := by decide +kernel
theorem dX5_cutInThree_103 : decode cX5_cutInThree 103 = .ok (.aaload, 1) := by decide +kernel
theorem dX5_cutInThree_104 : decode cX5_cutInThree 104 = .ok (.invokevirtual 155, 3) := by decide +kernel
theorem dX5_cutInThree_107 : decode cX5_cutInThree 107 = .ok (.aload_n 0, 1) := by decide +kernel
theorem dX5_cutInThree_108 : decode cX5_cutInThree 108 = .ok (.getfield 34, 3) := by decide +kernel
theorem dX5_cutInThree_111 : decode cX5_cutInThree 111 = .ok (.iconst 1, 1) := by decide +kernel
theorem dX5_cutInThree_112 : decode cX5_cutInThree 112 = .ok (.aaload, 1) := by decide +kernel
theorem dX5_cutInThree_113 : decode cX5_cutInThree 113 = .ok (.aload_n 0, 1) := by decide +kernel
theorem dX5_cutInThree_114 : decode cX5_cutInThree 114 = .ok (.getfield 23, 3) := by decide +kernel
theorem dX5_cutInThree_117 : decode cX5_cutInThree 117 = .ok (.iconst 0, 1) := by decide +kernel
theorem dX5_cutInThree_118 : decode cX5_cutInThree 118 = .ok (.aaload, 1) := by decide +kernel
theorem dX5_cutInThree_119 : decode cX5_cutInThree 119 = .ok (.aload_n 0, 1) := by decide +kernel
theorem dX5_cutInThree_120 : decode cX5_cutInThree 120 = .ok (.getfield 23, 3) := by decide +kernel
theorem dX5_cutInThree_123 : decode cX5_cutInThree 123 = .ok (.iconst 1, 1) := by decide +kernel
theorem dX5_cutInThree_124 : decode cX5_cutInThree 124 = .ok (.aaload, 1) := by decide +kernel
theorem dX5_cutInThree_125 : decode cX5_cutInThree 125 = .ok (.invokevirtual 155, 3) := by decide +kernel
theorem dX5_cutInThree_128 : decode cX5_cutInThree 128 = .ok (.aload_n 0, 1) := by decide +kernel
theorem dX5_cutInThree_129 : decode cX5_cutInThree 129 = .ok (.getfield 34, 3) := by decide +kernel
theorem dX5_cutInThree_132 : decode cX5_cutInThree 132 = .ok (.iconst 2, 1) := by decide +kernel
theorem dX5_cutInThree_133 : decode cX5_cutInThree 133 = .ok (.aaload, 1) := by decide +kernel
theorem dX5_cutInThree_134 : decode cX5_cutInThree 134 = .ok (.aload_n 0, 1) := by decide +kernel
theorem dX5_cutInThree_135 : decode cX5_cutInThree 135 = .ok (.getfield 23, 3) := by decide +kernel
theorem dX5_cutInThree_138 : decode cX5_cutInThree 138 = .ok (.iconst 1, 1) := by decide +kernel
theorem dX5_cutInThree_139 : decode cX5_cutInThree 139 = .ok (.aaload, 1) := by decide +kernel
theorem dX5_cutInThree_140 : decode cX5_cutInThree 140 = .ok (.aload_n 2, 1) := by decide +kernel
theorem dX5_cutInThree_141 : decode cX5_cutInThree 141 = .ok (.getfield 59, 3) := by decide +kernel
theorem dX5_cutInThree_144 : decode cX5_cutInThree 144 = .ok (.invokevirtual 155, 3) := by decide +kernel
theorem dX5_cutInThree_147 : decode cX5_cutInThree 147 = .ok (.iconst 1, 1) := by decide +kernel
theorem dX5_cutInThree_148 : decode cX5_cutInThree 148 = .ok (.ireturn, 1) := by decide +kernel
theorem dX5_mostOf_0 : decode cX5_mostOf 0 = .ok (.iconst (-1), 1) := by decide +kernel
theorem dX5_mostOf_1 : decode cX5_mostOf 1 = .ok (.istore_n 3, 1) := by decide +kernel
theorem dX5_mostOf_2 : decode cX5_mostOf 2 = .ok (.iconst 0, 1) := by decide +kernel
theorem dX5_mostOf_3 : decode cX5_mostOf 3 = .ok (.istore 4, 2) := by decide +kernel
theorem dX5_mostOf_5 : decode cX5_mostOf 5 = .ok (.iload 4, 2) := by decide +kernel
theorem dX5_mostOf_7 : decode cX5_mostOf 7 = .ok (.aload_n 0, 1) := by decide +kernel
theorem dX5_mostOf_8 : decode cX5_mostOf 8 = .ok (.getfield 34, 3) := by decide +kernel
theorem dX5_mostOf_11 : decode cX5_mostOf 11 = .ok (.arraylength, 1) := by decide +kernel
theorem dX5_mostOf_12 : decode cX5_mostOf 12 = .ok (.if_icmp .ge 52, 3) := by decide +kernel
theorem dX5_mostOf_15 : decode cX5_mostOf 15 = .ok (.iload_n 2, 1) := by decide +kernel
theorem dX5_mostOf_16 : decode cX5_mostOf 16 = .ok (.iload 4, 2) := by decide +kernel
theorem dX5_mostOf_18 : decode cX5_mostOf 18 = .ok (.invokestatic 105, 3) := by decide +kernel
theorem dX5_mostOf_21 : decode cX5_mostOf 21 = .ok (.ifCond .ne 37, 3) := by decide +kernel
theorem dX5_mostOf_24 : decode cX5_mostOf 24 = .ok (.iload_n 3, 1) := by decide +kernel
theorem dX5_mostOf_25 : decode cX5_mostOf 25 = .ok (.ifCond .lt 30, 3) := by decide +kernel
theorem dX5_mostOf_28 : decode cX5_mostOf 28 = .ok (.aload_n 0, 1) := by decide +kernel
theorem dX5_mostOf_29 : decode cX5_mostOf 29 = .ok (.iload_n 1, 1) := by decide +kernel
theorem dX5_mostOf_30 : decode cX5_mostOf 30 = .ok (.aload_n 0, 1) := by decide +kernel
theorem dX5_mostOf_31 : decode cX5_mostOf 31 = .ok (.getfield 34, 3) := by decide +kernel
theorem dX5_mostOf_34 : decode cX5_mostOf 34 = .ok (.iload 4, 2) := by decide +kernel
theorem dX5_mostOf_36 : decode cX5_mostOf 36 = .ok (.aaload, 1) := by decide +kernel
theorem dX5_mostOf_37 : decode cX5_mostOf 37 = .ok (.invokevirtual 158, 3) := by decide +kernel
theorem dX5_mostOf_40 : decode cX5_mostOf 40 = .ok (.aload_n 0, 1) := by decide +kernel
theorem dX5_mostOf_41 : decode cX5_mostOf 41 = .ok (.iload_n 1, 1) := by decide +kernel
theorem dX5_mostOf_42 : decode cX5_mostOf 42 = .ok (.aload_n 0, 1) := by decide +kernel
theorem dX5_mostOf_43 : decode cX5_mostOf 43 = .ok (.getfield 34, 3) := by decide +kernel
theorem dX5_mostOf_46 : decode cX5_mostOf 46 = .ok (.iload_n 3, 1) := by decide +kernel
theorem dX5_mostOf_47 : decode cX5_mostOf 47 = .ok (.aaload, 1) := by decide +kernel
theorem dX5_mostOf_48 : decode cX5_mostOf 48 = .ok (.invokevirtual 158, 3) := by decide +kernel
theorem dX5_mostOf_51 : decode cX5_mostOf 51 = .ok (.lcmp, 1) := by decide +kernel
theorem dX5_mostOf_52 : decode cX5_mostOf 52 = .ok (.ifCond .le 6, 3) := by decide +kernel
theorem dX5_mostOf_55 : decode cX5_mostOf 55 = .ok (.iload 4, 2) := by decide +kernel
theorem dX5_mostOf_57 : decode cX5_mostOf 57 = .ok (.istore_n 3, 1) := by decide +kernel
theorem dX5_mostOf_58 : decode cX5_mostOf 58 = .ok (.iinc 4 1, 3) := by decide +kernel
theorem dX5_mostOf_61 : decode cX5_mostOf 61 = .ok (.goto (-56), 3) := by decide +kernel
theorem dX5_mostOf_64 : decode cX5_mostOf 64 = .ok (.iconst 0, 1) := by decide +kernel
theorem dX5_mostOf_65 : decode cX5_mostOf 65 = .ok (.iload_n 3, 1) := by decide +kernel
theorem dX5_mostOf_66 : decode cX5_mostOf 66 = .ok (.invokestatic 200, 3) := by decide +kernel
theorem dX5_mostOf_69 : decode cX5_mostOf 69 = .ok (.ireturn, 1) := by decide +kernel
theorem dX5_cutAndTrim_0 : decode cX5_cutAndTrim 0 = .ok (.aload_n 0, 1) := by decide +kernel
theorem dX5_cutAndTrim_1 : decode cX5_cutAndTrim 1 = .ok (.aload_n 0, 1) := by decide +kernel
theorem dX5_cutAndTrim_2 : decode cX5_cutAndTrim 2 = .ok (.iconst 0, 1) := by decide +kernel
theorem dX5_cutAndTrim_3 : decode cX5_cutAndTrim 3 = .ok (.invokevirtual 136, 3) := by decide +kernel
theorem dX5_cutAndTrim_6 : decode cX5_cutAndTrim 6 = .ok (.aload_n 0, 1) := by decide +kernel
theorem dX5_cutAndTrim_7 : decode cX5_cutAndTrim 7 = .ok (.getfield 12, 3) := by decide +kernel
theorem dX5_cutAndTrim_10 : decode cX5_cutAndTrim 10 = .ok (.invokevirtual 206, 3) := by decide +kernel
theorem dX5_cutAndTrim_13 : decode cX5_cutAndTrim 13 = .ok (.ifCond .ne 5, 3) := by decide +kernel
theorem dX5_cutAndTrim_16 : decode cX5_cutAndTrim 16 = .ok (.iconst 0, 1) := by decide +kernel
theorem dX5_cutAndTrim_17 : decode cX5_cutAndTrim 17 = .ok (.ireturn, 1) := by decide +kernel
theorem dX5_cutAndTrim_18 : decode cX5_cutAndTrim 18 = .ok (.aload_n 0, 1) := by decide +kernel
theorem dX5_cutAndTrim_19 : decode cX5_cutAndTrim 19 = .ok (.iconst 1, 1) := by decide +kernel
theorem dX5_cutAndTrim_20 : decode cX5_cutAndTrim 20 = .ok (.invokevirtual 136, 3) := by decide +kernel
theorem dX5_cutAndTrim_23 : decode cX5_cutAndTrim 23 = .ok (.istore_n 1, 1) := by decide +kernel
theorem dX5_cutAndTrim_24 : decode cX5_cutAndTrim 24 = .ok (.aload_n 0, 1) := by decide +kernel
theorem dX5_cutAndTrim_25 : decode cX5_cutAndTrim 25 = .ok (.aload_n 0, 1) := by decide +kernel
theorem dX5_cutAndTrim_26 : decode cX5_cutAndTrim 26 = .ok (.iload_n 1, 1) := by decide +kernel
theorem dX5_cutAndTrim_27 : decode cX5_cutAndTrim 27 = .ok (.iconst 0, 1) := by decide +kernel
theorem dX5_cutAndTrim_28 : decode cX5_cutAndTrim 28 = .ok (.invokevirtual 210, 3) := by decide +kernel
theorem dX5_cutAndTrim_31 : decode cX5_cutAndTrim 31 = .ok (.putfield 213, 3) := by decide +kernel
theorem dX5_cutAndTrim_34 : decode cX5_cutAndTrim 34 = .ok (.aload_n 0, 1) := by decide +kernel
theorem dX5_cutAndTrim_35 : decode cX5_cutAndTrim 35 = .ok (.getfield 34, 3) := by decide +kernel
theorem dX5_cutAndTrim_38 : decode cX5_cutAndTrim 38 = .ok (.aload_n 0, 1) := by decide +kernel
theorem dX5_cutAndTrim_39 : decode cX5_cutAndTrim 39 = .ok (.getfield 213, 3) := by decide +kernel
theorem dX5_cutAndTrim_42 : decode cX5_cutAndTrim 42 = .ok (.aaload, 1) := by decide +kernel
theorem dX5_cutAndTrim_43 : decode cX5_cutAndTrim 43 = .ok (.astore_n 2, 1) := by decide +kernel
theorem dX5_cutAndTrim_44 : decode cX5_cutAndTrim 44 = .ok (.aload_n 0, 1) := by decide +kernel
theorem dX5_cutAndTrim_45 : decode cX5_cutAndTrim 45 = .ok (.getfield 34, 3) := by decide +kernel
theorem dX5_cutAndTrim_48 : decode cX5_cutAndTrim 48 = .ok (.aload_n 0, 1) := by decide +kernel
theorem dX5_cutAndTrim_49 : decode cX5_cutAndTrim 49 = .ok (.iload_n 1, 1) := by decide +kernel
theorem dX5_cutAndTrim_50 : decode cX5_cutAndTrim 50 = .ok (.iconst 1, 1) := by decide +kernel
theorem dX5_cutAndTrim_51 : decode cX5_cutAndTrim 51 = .ok (.aload_n 0, 1) := by decide +kernel
theorem dX5_cutAndTrim_52 : decode cX5_cutAndTrim 52 = .ok (.getfield 213, 3) := by decide +kernel
theorem dX5_cutAndTrim_55 : decode cX5_cutAndTrim 55 = .ok (.ishl, 1) := by decide +kernel
theorem dX5_cutAndTrim_56 : decode cX5_cutAndTrim 56 = .ok (.invokevirtual 210, 3) := by decide +kernel
theorem dX5_cutAndTrim_59 : decode cX5_cutAndTrim 59 = .ok (.aaload, 1) := by decide +kernel
theorem dX5_cutAndTrim_60 : decode cX5_cutAndTrim 60 = .ok (.astore_n 3, 1) := by decide +kernel
theorem dX5_cutAndTrim_61 : decode cX5_cutAndTrim 61 = .ok (.aload_n 0, 1) := by decide +kernel
theorem dX5_cutAndTrim_62 : decode cX5_cutAndTrim 62 = .ok (.aload_n 0, 1) := by decide +kernel
theorem dX5_cutAndTrim_63 : decode cX5_cutAndTrim 63 = .ok (.iload_n 1, 1) := by decide +kernel
theorem dX5_cutAndTrim_64 : decode cX5_cutAndTrim 64 = .ok (.aload_n 2, 1) := by decide +kernel
theorem dX5_cutAndTrim_65 : decode cX5_cutAndTrim 65 = .ok (.invokevirtual 158, 3) := by decide +kernel
theorem dX5_cutAndTrim_68 : decode cX5_cutAndTrim 68 = .ok (.aload_n 0, 1) := by decide +kernel
theorem dX5_cutAndTrim_69 : decode cX5_cutAndTrim 69 = .ok (.iload_n 1, 1) := by decide +kernel
theorem dX5_cutAndTrim_70 : decode cX5_cutAndTrim 70 = .ok (.aload_n 3, 1) := by decide +kernel
theorem dX5_cutAndTrim_71 : decode cX5_cutAndTrim 71 = .ok (.invokevirtual 158, 3) := by decide +kernel
theorem dX5_cutAndTrim_74 : decode cX5_cutAndTrim 74 = .ok (.lcmp, 1) := by decide +kernel
theorem dX5_cutAndTrim_75 : decode cX5_cutAndTrim 75 = .ok (.ifCond .le 7, 3) := by decide +kernel
theorem dX5_cutAndTrim_78 : decode cX5_cutAndTrim 78 = .ok (.iconst 1, 1) := by decide +kernel
theorem dX5_cutAndTrim_79 : decode cX5_cutAndTrim 79 = .ok (.goto 4, 3) := by decide +kernel
theorem dX5_cutAndTrim_82 : decode cX5_cutAndTrim 82 = .ok (.iconst 0, 1) := by decide +kernel
theorem dX5_cutAndTrim_83 : decode cX5_cutAndTrim 83 = .ok (.putfield 216, 3) := by decide +kernel
theorem dX5_cutAndTrim_86 : decode cX5_cutAndTrim 86 = .ok (.aload_n 0, 1) := by decide +kernel
theorem dX5_cutAndTrim_87 : decode cX5_cutAndTrim 87 = .ok (.getfield 216, 3) := by decide +kernel
theorem dX5_cutAndTrim_90 : decode cX5_cutAndTrim 90 = .ok (.ifCond .ne 25, 3) := by decide +kernel
theorem dX5_cutAndTrim_93 : decode cX5_cutAndTrim 93 = .ok (.aload_n 0, 1) := by decide +kernel
theorem dX5_cutAndTrim_94 : decode cX5_cutAndTrim 94 = .ok (.getfield 45, 3) := by decide +kernel
theorem dX5_cutAndTrim_97 : decode cX5_cutAndTrim 97 = .ok (.iconst 2, 1) := by decide +kernel
theorem dX5_cutAndTrim_98 : decode cX5_cutAndTrim 98 = .ok (.iload_n 1, 1) := by decide +kernel
theorem dX5_cutAndTrim_99 : decode cX5_cutAndTrim 99 = .ok (.aload_n 2, 1) := by decide +kernel
theorem dX5_cutAndTrim_100 : decode cX5_cutAndTrim 100 = .ok (.getfield 59, 3) := by decide +kernel
theorem dX5_cutAndTrim_103 : decode cX5_cutAndTrim 103 = .ok (.aload_n 0, 1) := by decide +kernel
theorem dX5_cutAndTrim_104 : decode cX5_cutAndTrim 104 = .ok (.getfield 12, 3) := by decide +kernel
theorem dX5_cutAndTrim_107 : decode cX5_cutAndTrim 107 = .ok (.getfield 113, 3) := by decide +kernel
theorem dX5_cutAndTrim_110 : decode cX5_cutAndTrim 110 = .ok (.invokevirtual 140, 3) := by decide +kernel
theorem dX5_cutAndTrim_113 : decode cX5_cutAndTrim 113 = .ok (.iconst 1, 1) := by decide +kernel
theorem dX5_cutAndTrim_114 : decode cX5_cutAndTrim 114 = .ok (.ireturn, 1) := by decide +kernel
theorem dX5_cutAndTrim_115 : decode cX5_cutAndTrim 115 = .ok (.aload_n 0, 1) := by decide +kernel
theorem dX5_cutAndTrim_116 : decode cX5_cutAndTrim 116 = .ok (.aload_n 0, 1) := by decide +kernel
theorem dX5_cutAndTrim_117 : decode cX5_cutAndTrim 117 = .ok (.getfield 23, 3) := by decide +kernel
theorem dX5_cutAndTrim_120 : decode cX5_cutAndTrim 120 = .ok (.iconst 2, 1) := by decide +kernel
theorem dX5_cutAndTrim_121 : decode cX5_cutAndTrim 121 = .ok (.aaload, 1) := by decide +kernel
theorem dX5_cutAndTrim_122 : decode cX5_cutAndTrim 122 = .ok (.iload_n 1, 1) := by decide +kernel
theorem dX5_cutAndTrim_123 : decode cX5_cutAndTrim 123 = .ok (.aload_n 2, 1) := by decide +kernel
theorem dX5_cutAndTrim_124 : decode cX5_cutAndTrim 124 = .ok (.getfield 113, 3) := by decide +kernel
theorem dX5_cutAndTrim_127 : decode cX5_cutAndTrim 127 = .ok (.aload_n 3, 1) := by decide +kernel
theorem dX5_cutAndTrim_128 : decode cX5_cutAndTrim 128 = .ok (.iconst 1, 1) := by decide +kernel
theorem dX5_cutAndTrim_129 : decode cX5_cutAndTrim 129 = .ok (.iconst 1, 1) := by decide +kernel
theorem dX5_cutAndTrim_130 : decode cX5_cutAndTrim 130 = .ok (.invokevirtual 151, 3) := by decide +kernel
theorem dX5_cutAndTrim_133 : decode cX5_cutAndTrim 133 = .ok (.ifCond .ne 5, 3) := by decide +kernel
theorem dX5_cutAndTrim_136 : decode cX5_cutAndTrim 136 = .ok (.iconst 0, 1) := by decide +kernel
theorem dX5_cutAndTrim_137 : decode cX5_cutAndTrim 137 = .ok (.ireturn, 1) := by decide +kernel
theorem dX5_cutAndTrim_138 : decode cX5_cutAndTrim 138 = .ok (.aload_n 0, 1) := by decide +kernel
theorem dX5_cutAndTrim_139 : decode cX5_cutAndTrim 139 = .ok (.getfield 38, 3) := by decide +kernel
theorem dX5_cutAndTrim_142 : decode cX5_cutAndTrim 142 = .ok (.aload_n 0, 1) := by decide +kernel
theorem dX5_cutAndTrim_143 : decode cX5_cutAndTrim 143 = .ok (.getfield 23, 3) := by decide +kernel
theorem dX5_cutAndTrim_146 : decode cX5_cutAndTrim 146 = .ok (.iconst 2, 1) := by decide +kernel
theorem dX5_cutAndTrim_147 : decode cX5_cutAndTrim 147 = .ok (.aaload, 1) := by decide +kernel
theorem dX5_cutAndTrim_148 : decode cX5_cutAndTrim 148 = .ok (.aload_n 2, 1) := by decide +kernel
theorem dX5_cutAndTrim_149 : decode cX5_cutAndTrim 149 = .ok (.getfield 59, 3) := by decide +kernel
theorem dX5_cutAndTrim_152 : decode cX5_cutAndTrim 152 = .ok (.invokevirtual 155, 3) := by decide +kernel
theorem dX5_cutAndTrim_155 : decode cX5_cutAndTrim 155 = .ok (.aload_n 2, 1) := by decide +kernel
theorem dX5_cutAndTrim_156 : decode cX5_cutAndTrim 156 = .ok (.getfield 59, 3) := by decide +kernel
theorem dX5_cutAndTrim_159 : decode cX5_cutAndTrim 159 = .ok (.aload_n 0, 1) := by decide +kernel
theorem dX5_cutAndTrim_160 : decode cX5_cutAndTrim 160 = .ok (.getfield 23, 3) := by decide +kernel
theorem dX5_cutAndTrim_163 : decode cX5_cutAndTrim 163 = .ok (.iconst 2, 1) := by decide +kernel
theorem dX5_cutAndTrim_164 : decode cX5_cutAndTrim 164 = .ok (.aaload, 1) := by decide +kernel
theorem dX5_cutAndTrim_165 : decode cX5_cutAndTrim 165 = .ok (.invokevirtual 148, 3) := by decide +kernel
theorem dX5_cutAndTrim_168 : decode cX5_cutAndTrim 168 = .ok (.aload_n 0, 1) := by decide +kernel
theorem dX5_cutAndTrim_169 : decode cX5_cutAndTrim 169 = .ok (.getfield 45, 3) := by decide +kernel
theorem dX5_cutAndTrim_172 : decode cX5_cutAndTrim 172 = .ok (.iconst 1, 1) := by decide +kernel
theorem dX5_cutAndTrim_173 : decode cX5_cutAndTrim 173 = .ok (.iload_n 1, 1) := by decide +kernel
theorem dX5_cutAndTrim_174 : decode cX5_cutAndTrim 174 = .ok (.aload_n 0, 1) := by decide +kernel
theorem dX5_cutAndTrim_175 : decode cX5_cutAndTrim 175 = .ok (.getfield 38, 3) := by decide +kernel
theorem dX5_cutAndTrim_178 : decode cX5_cutAndTrim 178 = .ok (.getfield 113, 3) := by decide +kernel
theorem dX5_cutAndTrim_181 : decode cX5_cutAndTrim 181 = .ok (.aload_n 0, 1) := by decide +kernel
theorem dX5_cutAndTrim_182 : decode cX5_cutAndTrim 182 = .ok (.getfield 38, 3) := by decide +kernel
theorem dX5_cutAndTrim_185 : decode cX5_cutAndTrim 185 = .ok (.getfield 59, 3) := by decide +kernel
theorem dX5_cutAndTrim_188 : decode cX5_cutAndTrim 188 = .ok (.invokevirtual 140, 3) := by decide +kernel
theorem dX5_cutAndTrim_191 : decode cX5_cutAndTrim 191 = .ok (.iconst 1, 1) := by decide +kernel
theorem dX5_cutAndTrim_192 : decode cX5_cutAndTrim 192 = .ok (.ireturn, 1) := by decide +kernel
theorem dX5_takePieces_0 : decode cX5_takePieces 0 = .ok (.aload_n 0, 1) := by decide +kernel
theorem dX5_takePieces_1 : decode cX5_takePieces 1 = .ok (.aload_n 0, 1) := by decide +kernel
theorem dX5_takePieces_2 : decode cX5_takePieces 2 = .ok (.iconst 2, 1) := by decide +kernel
theorem dX5_takePieces_3 : decode cX5_takePieces 3 = .ok (.invokevirtual 136, 3) := by decide +kernel
theorem dX5_takePieces_6 : decode cX5_takePieces 6 = .ok (.iconst 0, 1) := by decide +kernel
theorem dX5_takePieces_7 : decode cX5_takePieces 7 = .ok (.invokevirtual 210, 3) := by decide +kernel
theorem dX5_takePieces_10 : decode cX5_takePieces 10 = .ok (.istore_n 1, 1) := by decide +kernel
theorem dX5_takePieces_11 : decode cX5_takePieces 11 = .ok (.aload_n 0, 1) := by decide +kernel
theorem dX5_takePieces_12 : decode cX5_takePieces 12 = .ok (.getfield 216, 3) := by decide +kernel
theorem dX5_takePieces_15 : decode cX5_takePieces 15 = .ok (.ifCond .eq 18, 3) := by decide +kernel
theorem dX5_takePieces_18 : decode cX5_takePieces 18 = .ok (.iload_n 1, 1) := by decide +kernel
theorem dX5_takePieces_19 : decode cX5_takePieces 19 = .ok (.aload_n 0, 1) := by decide +kernel
theorem dX5_takePieces_20 : decode cX5_takePieces 20 = .ok (.getfield 213, 3) := by decide +kernel
theorem dX5_takePieces_23 : decode cX5_takePieces 23 = .ok (.if_icmp .eq 10, 3) := by decide +kernel
theorem dX5_takePieces_26 : decode cX5_takePieces 26 = .ok (.aload_n 0, 1) := by decide +kernel
theorem dX5_takePieces_27 : decode cX5_takePieces 27 = .ok (.getfield 213, 3) := by decide +kernel
theorem dX5_takePieces_30 : decode cX5_takePieces 30 = .ok (.goto 15, 3) := by decide +kernel
theorem dX5_takePieces_33 : decode cX5_takePieces 33 = .ok (.aload_n 0, 1) := by decide +kernel
theorem dX5_takePieces_34 : decode cX5_takePieces 34 = .ok (.aload_n 0, 1) := by decide +kernel
theorem dX5_takePieces_35 : decode cX5_takePieces 35 = .ok (.iconst 1, 1) := by decide +kernel
theorem dX5_takePieces_36 : decode cX5_takePieces 36 = .ok (.invokevirtual 136, 3) := by decide +kernel
theorem dX5_takePieces_39 : decode cX5_takePieces 39 = .ok (.iconst 1, 1) := by decide +kernel
theorem dX5_takePieces_40 : decode cX5_takePieces 40 = .ok (.iload_n 1, 1) := by decide +kernel
theorem dX5_takePieces_41 : decode cX5_takePieces 41 = .ok (.ishl, 1) := by decide +kernel
theorem dX5_takePieces_42 : decode cX5_takePieces 42 = .ok (.invokevirtual 210, 3) := by decide +kernel
theorem dX5_takePieces_45 : decode cX5_takePieces 45 = .ok (.istore_n 2, 1) := by decide +kernel
theorem dX5_takePieces_46 : decode cX5_takePieces 46 = .ok (.aload_n 0, 1) := by decide +kernel
theorem dX5_takePieces_47 : decode cX5_takePieces 47 = .ok (.iconst 2, 1) := by decide +kernel
theorem dX5_takePieces_48 : decode cX5_takePieces 48 = .ok (.iload_n 1, 1) := by decide +kernel
theorem dX5_takePieces_49 : decode cX5_takePieces 49 = .ok (.invokevirtual 162, 3) := by decide +kernel
theorem dX5_takePieces_52 : decode cX5_takePieces 52 = .ok (.aload_n 0, 1) := by decide +kernel
theorem dX5_takePieces_53 : decode cX5_takePieces 53 = .ok (.iconst 1, 1) := by decide +kernel
theorem dX5_takePieces_54 : decode cX5_takePieces 54 = .ok (.iload_n 2, 1) := by decide +kernel
theorem dX5_takePieces_55 : decode cX5_takePieces 55 = .ok (.invokevirtual 162, 3) := by decide +kernel
theorem dX5_takePieces_58 : decode cX5_takePieces 58 = .ok (.aload_n 0, 1) := by decide +kernel
theorem dX5_takePieces_59 : decode cX5_takePieces 59 = .ok (.iconst 0, 1) := by decide +kernel
theorem dX5_takePieces_60 : decode cX5_takePieces 60 = .ok (.aload_n 0, 1) := by decide +kernel
theorem dX5_takePieces_61 : decode cX5_takePieces 61 = .ok (.aload_n 0, 1) := by decide +kernel
theorem dX5_takePieces_62 : decode cX5_takePieces 62 = .ok (.iconst 0, 1) := by decide +kernel
theorem dX5_takePieces_63 : decode cX5_takePieces 63 = .ok (.invokevirtual 136, 3) := by decide +kernel
theorem dX5_takePieces_66 : decode cX5_takePieces 66 = .ok (.iconst 1, 1) := by decide +kernel
theorem dX5_takePieces_67 : decode cX5_takePieces 67 = .ok (.iload_n 1, 1) := by decide +kernel
theorem dX5_takePieces_68 : decode cX5_takePieces 68 = .ok (.ishl, 1) := by decide +kernel
theorem dX5_takePieces_69 : decode cX5_takePieces 69 = .ok (.iconst 1, 1) := by decide +kernel
theorem dX5_takePieces_70 : decode cX5_takePieces 70 = .ok (.iload_n 2, 1) := by decide +kernel
theorem dX5_takePieces_71 : decode cX5_takePieces 71 = .ok (.ishl, 1) := by decide +kernel
theorem dX5_takePieces_72 : decode cX5_takePieces 72 = .ok (.ior, 1) := by decide +kernel
theorem dX5_takePieces_73 : decode cX5_takePieces 73 = .ok (.invokevirtual 210, 3) := by decide +kernel
theorem dX5_takePieces_76 : decode cX5_takePieces 76 = .ok (.invokevirtual 162, 3) := by decide +kernel
theorem dX5_takePieces_79 : decode cX5_takePieces 79 = .ok (.aload_n 0, 1) := by decide +kernel
theorem dX5_takePieces_80 : decode cX5_takePieces 80 = .ok (.iload_n 1, 1) := by decide +kernel
theorem dX5_takePieces_81 : decode cX5_takePieces 81 = .ok (.aload_n 0, 1) := by decide +kernel
theorem dX5_takePieces_82 : decode cX5_takePieces 82 = .ok (.getfield 213, 3) := by decide +kernel
theorem dX5_takePieces_85 : decode cX5_takePieces 85 = .ok (.if_icmp .ne 7, 3) := by decide +kernel
theorem dX5_takePieces_88 : decode cX5_takePieces 88 = .ok (.iconst 2, 1) := by decide +kernel
theorem dX5_takePieces_89 : decode cX5_takePieces 89 = .ok (.goto 4, 3) := by decide +kernel
theorem dX5_takePieces_92 : decode cX5_takePieces 92 = .ok (.iconst 1, 1) := by decide +kernel
theorem dX5_takePieces_93 : decode cX5_takePieces 93 = .ok (.putfield 219, 3) := by decide +kernel
theorem dX5_takePieces_96 : decode cX5_takePieces 96 = .ok (.iconst 1, 1) := by decide +kernel
theorem dX5_takePieces_97 : decode cX5_takePieces 97 = .ok (.ireturn, 1) := by decide +kernel
theorem dX5_partTrimmings_0 : decode cX5_partTrimmings 0 = .ok (.aload_n 0, 1) := by decide +kernel
theorem dX5_partTrimmings_1 : decode cX5_partTrimmings 1 = .ok (.getfield 216, 3) := by decide +kernel
theorem dX5_partTrimmings_4 : decode cX5_partTrimmings 4 = .ok (.ifCond .ne 5, 3) := by decide +kernel
theorem dX5_partTrimmings_7 : decode cX5_partTrimmings 7 = .ok (.iconst 1, 1) := by decide +kernel
theorem dX5_partTrimmings_8 : decode cX5_partTrimmings 8 = .ok (.ireturn, 1) := by decide +kernel
theorem dX5_partTrimmings_9 : decode cX5_partTrimmings 9 = .ok (.iconst 3, 1) := by decide +kernel
theorem dX5_partTrimmings_10 : decode cX5_partTrimmings 10 = .ok (.aload_n 0, 1) := by decide +kernel
theorem dX5_partTrimmings_11 : decode cX5_partTrimmings 11 = .ok (.getfield 219, 3) := by decide +kernel
theorem dX5_partTrimmings_14 : decode cX5_partTrimmings 14 = .ok (.isub, 1) := by decide +kernel
theorem dX5_partTrimmings_15 : decode cX5_partTrimmings 15 = .ok (.istore_n 1, 1) := by decide +kernel
theorem dX5_partTrimmings_16 : decode cX5_partTrimmings 16 = .ok (.aload_n 0, 1) := by decide +kernel
theorem dX5_partTrimmings_17 : decode cX5_partTrimmings 17 = .ok (.aload_n 0, 1) := by decide +kernel
theorem dX5_partTrimmings_18 : decode cX5_partTrimmings 18 = .ok (.iload_n 1, 1) := by decide +kernel
theorem dX5_partTrimmings_19 : decode cX5_partTrimmings 19 = .ok (.invokevirtual 136, 3) := by decide +kernel
theorem dX5_partTrimmings_22 : decode cX5_partTrimmings 22 = .ok (.aload_n 0, 1) := by decide +kernel
theorem dX5_partTrimmings_23 : decode cX5_partTrimmings 23 = .ok (.getfield 38, 3) := by decide +kernel
theorem dX5_partTrimmings_26 : decode cX5_partTrimmings 26 = .ok (.invokevirtual 206, 3) := by decide +kernel
theorem dX5_partTrimmings_29 : decode cX5_partTrimmings 29 = .ok (.ifCond .ne 5, 3) := by decide +kernel
theorem dX5_partTrimmings_32 : decode cX5_partTrimmings 32 = .ok (.iconst 0, 1) := by decide +kernel
theorem dX5_partTrimmings_33 : decode cX5_partTrimmings 33 = .ok (.ireturn, 1) := by decide +kernel
theorem dX5_partTrimmings_34 : decode cX5_partTrimmings 34 = .ok (.aload_n 0, 1) := by decide +kernel
theorem dX5_partTrimmings_35 : decode cX5_partTrimmings 35 = .ok (.aload_n 0, 1) := by decide +kernel
theorem dX5_partTrimmings_36 : decode cX5_partTrimmings 36 = .ok (.aload_n 0, 1) := by decide +kernel
theorem dX5_partTrimmings_37 : decode cX5_partTrimmings 37 = .ok (.getfield 219, 3) := by decide +kernel
theorem dX5_partTrimmings_40 : decode cX5_partTrimmings 40 = .ok (.invokevirtual 136, 3) := by decide +kernel
theorem dX5_partTrimmings_43 : decode cX5_partTrimmings 43 = .ok (.iconst 0, 1) := by decide +kernel
theorem dX5_partTrimmings_44 : decode cX5_partTrimmings 44 = .ok (.invokevirtual 210, 3) := by decide +kernel
theorem dX5_partTrimmings_47 : decode cX5_partTrimmings 47 = .ok (.istore_n 2, 1) := by decide +kernel
theorem dX5_partTrimmings_48 : decode cX5_partTrimmings 48 = .ok (.aload_n 0, 1) := by decide +kernel
theorem dX5_partTrimmings_49 : decode cX5_partTrimmings 49 = .ok (.aload_n 0, 1) := by decide +kernel
theorem dX5_partTrimmings_50 : decode cX5_partTrimmings 50 = .ok (.iconst 0, 1) := by decide +kernel
theorem dX5_partTrimmings_51 : decode cX5_partTrimmings 51 = .ok (.invokevirtual 136, 3) := by decide +kernel
theorem dX5_partTrimmings_54 : decode cX5_partTrimmings 54 = .ok (.iconst 1, 1) := by decide +kernel
theorem dX5_partTrimmings_55 : decode cX5_partTrimmings 55 = .ok (.iload_n 2, 1) := by decide +kernel
theorem dX5_partTrimmings_56 : decode cX5_partTrimmings 56 = .ok (.ishl, 1) := by decide +kernel
theorem dX5_partTrimmings_57 : decode cX5_partTrimmings 57 = .ok (.invokevirtual 210, 3) := by decide +kernel
theorem dX5_partTrimmings_60 : decode cX5_partTrimmings 60 = .ok (.istore_n 3, 1) := by decide +kernel
theorem dX5_partTrimmings_61 : decode cX5_partTrimmings 61 = .ok (.aload_n 0, 1) := by decide +kernel
theorem dX5_partTrimmings_62 : decode cX5_partTrimmings 62 = .ok (.aload_n 0, 1) := by decide +kernel
theorem dX5_partTrimmings_63 : decode cX5_partTrimmings 63 = .ok (.getfield 219, 3) := by decide +kernel
theorem dX5_partTrimmings_66 : decode cX5_partTrimmings 66 = .ok (.iload_n 2, 1) := by decide +kernel
theorem dX5_partTrimmings_67 : decode cX5_partTrimmings 67 = .ok (.invokevirtual 162, 3) := by decide +kernel
theorem dX5_partTrimmings_70 : decode cX5_partTrimmings 70 = .ok (.aload_n 0, 1) := by decide +kernel
theorem dX5_partTrimmings_71 : decode cX5_partTrimmings 71 = .ok (.iconst 0, 1) := by decide +kernel
theorem dX5_partTrimmings_72 : decode cX5_partTrimmings 72 = .ok (.iload_n 3, 1) := by decide +kernel
theorem dX5_partTrimmings_73 : decode cX5_partTrimmings 73 = .ok (.invokevirtual 162, 3) := by decide +kernel
theorem dX5_partTrimmings_76 : decode cX5_partTrimmings 76 = .ok (.aload_n 0, 1) := by decide +kernel
theorem dX5_partTrimmings_77 : decode cX5_partTrimmings 77 = .ok (.iload_n 1, 1) := by decide +kernel
theorem dX5_partTrimmings_78 : decode cX5_partTrimmings 78 = .ok (.aload_n 0, 1) := by decide +kernel
theorem dX5_partTrimmings_79 : decode cX5_partTrimmings 79 = .ok (.aload_n 0, 1) := by decide +kernel
theorem dX5_partTrimmings_80 : decode cX5_partTrimmings 80 = .ok (.iload_n 1, 1) := by decide +kernel
theorem dX5_partTrimmings_81 : decode cX5_partTrimmings 81 = .ok (.invokevirtual 136, 3) := by decide +kernel
theorem dX5_partTrimmings_84 : decode cX5_partTrimmings 84 = .ok (.iconst 1, 1) := by decide +kernel
theorem dX5_partTrimmings_85 : decode cX5_partTrimmings 85 = .ok (.iload_n 2, 1) := by decide +kernel
theorem dX5_partTrimmings_86 : decode cX5_partTrimmings 86 = .ok (.ishl, 1) := by decide +kernel
theorem dX5_partTrimmings_87 : decode cX5_partTrimmings 87 = .ok (.iconst 1, 1) := by decide +kernel
theorem dX5_partTrimmings_88 : decode cX5_partTrimmings 88 = .ok (.iload_n 3, 1) := by decide +kernel
theorem dX5_partTrimmings_89 : decode cX5_partTrimmings 89 = .ok (.ishl, 1) := by decide +kernel
theorem dX5_partTrimmings_90 : decode cX5_partTrimmings 90 = .ok (.ior, 1) := by decide +kernel
theorem dX5_partTrimmings_91 : decode cX5_partTrimmings 91 = .ok (.invokevirtual 210, 3) := by decide +kernel
theorem dX5_partTrimmings_94 : decode cX5_partTrimmings 94 = .ok (.invokevirtual 162, 3) := by decide +kernel
theorem dX5_partTrimmings_97 : decode cX5_partTrimmings 97 = .ok (.iconst 1, 1) := by decide +kernel
theorem dX5_partTrimmings_98 : decode cX5_partTrimmings 98 = .ok (.ireturn, 1) := by decide +kernel
theorem dX6_init_0 : decode cX6_init 0 = .ok (.aload_n 0, 1) := by decide +kernel
theorem dX6_init_1 : decode cX6_init 1 = .ok (.invokespecial 3, 3) := by decide +kernel
theorem dX6_init_4 : decode cX6_init 4 = .ok (.aload_n 0, 1) := by decide +kernel
theorem dX6_init_5 : decode cX6_init 5 = .ok (.sipush 640, 3) := by decide +kernel
theorem dX6_init_8 : decode cX6_init 8 = .ok (.newarray .byte, 2) := by decide +kernel
theorem dX6_init_10 : decode cX6_init 10 = .ok (.putfield 11, 3) := by decide +kernel
theorem dX6_init_13 : decode cX6_init 13 = .ok (.return_, 1) := by decide +kernel
theorem dX6_add_0 : decode cX6_add 0 = .ok (.aload_n 0, 1) := by decide +kernel
theorem dX6_add_1 : decode cX6_add 1 = .ok (.getfield 15, 3) := by decide +kernel
theorem dX6_add_4 : decode cX6_add 4 = .ok (.sipush 640, 3) := by decide +kernel
theorem dX6_add_7 : decode cX6_add 7 = .ok (.if_icmp .ge 24, 3) := by decide +kernel
theorem dX6_add_10 : decode cX6_add 10 = .ok (.aload_n 0, 1) := by decide +kernel
theorem dX6_add_11 : decode cX6_add 11 = .ok (.getfield 11, 3) := by decide +kernel
theorem dX6_add_14 : decode cX6_add 14 = .ok (.aload_n 0, 1) := by decide +kernel
theorem dX6_add_15 : decode cX6_add 15 = .ok (.getfield 15, 3) := by decide +kernel
theorem dX6_add_18 : decode cX6_add 18 = .ok (.iload_n 1, 1) := by decide +kernel
theorem dX6_add_19 : decode cX6_add 19 = .ok (.i2b, 1) := by decide +kernel
theorem dX6_add_20 : decode cX6_add 20 = .ok (.bastore, 1) := by decide +kernel
theorem dX6_add_21 : decode cX6_add 21 = .ok (.aload_n 0, 1) := by decide +kernel
theorem dX6_add_22 : decode cX6_add 22 = .ok (.dup, 1) := by decide +kernel
theorem dX6_add_23 : decode cX6_add 23 = .ok (.getfield 15, 3) := by decide +kernel
theorem dX6_add_26 : decode cX6_add 26 = .ok (.iconst 1, 1) := by decide +kernel
theorem dX6_add_27 : decode cX6_add 27 = .ok (.iadd, 1) := by decide +kernel
theorem dX6_add_28 : decode cX6_add 28 = .ok (.putfield 15, 3) := by decide +kernel
theorem dX6_add_31 : decode cX6_add 31 = .ok (.return_, 1) := by decide +kernel
theorem dX6_addNumber_0 : decode cX6_addNumber 0 = .ok (.lconst 1, 1) := by decide +kernel
theorem dX6_addNumber_1 : decode cX6_addNumber 1 = .ok (.lstore_n 3, 1) := by decide +kernel
theorem dX6_addNumber_2 : decode cX6_addNumber 2 = .ok (.iconst 1, 1) := by decide +kernel
theorem dX6_addNumber_3 : decode cX6_addNumber 3 = .ok (.istore 5, 2) := by decide +kernel
theorem dX6_addNumber_5 : decode cX6_addNumber 5 = .ok (.iload 5, 2) := by decide +kernel
theorem dX6_addNumber_7 : decode cX6_addNumber 7 = .ok (.bipush 18, 2) := by decide +kernel
theorem dX6_addNumber_9 : decode cX6_addNumber 9 = .ok (.if_icmp .ge 25, 3) := by decide +kernel
theorem dX6_addNumber_12 : decode cX6_addNumber 12 = .ok (.lload_n 1, 1) := by decide +kernel
theorem dX6_addNumber_13 : decode cX6_addNumber 13 = .ok (.lload_n 3, 1) := by decide +kernel
theorem dX6_addNumber_14 : decode cX6_addNumber 14 = .ok (.ldiv, 1) := by decide +kernel
theorem dX6_addNumber_15 : decode cX6_addNumber 15 = .ok (.ldc2_w 19, 3) := by decide +kernel
theorem dX6_addNumber_18 : decode cX6_addNumber 18 = .ok (.lcmp, 1) := by decide +kernel
theorem dX6_addNumber_19 : decode cX6_addNumber 19 = .ok (.ifCond .lt 15, 3) := by decide +kernel
theorem dX6_addNumber_22 : decode cX6_addNumber 22 = .ok (.lload_n 3, 1) := by decide +kernel
theorem dX6_addNumber_23 : decode cX6_addNumber 23 = .ok (.ldc2_w 19, 3) := by decide +kernel
theorem dX6_addNumber_26 : decode cX6_addNumber 26 = .ok (.lmul, 1) := by decide +kernel
theorem dX6_addNumber_27 : decode cX6_addNumber 27 = .ok (.lstore_n 3, 1) := by decide +kernel
theorem dX6_addNumber_28 : decode cX6_addNumber 28 = .ok (.iinc 5 1, 3) := by decide +kernel
theorem dX6_addNumber_31 : decode cX6_addNumber 31 = .ok (.goto (-26), 3) := by decide +kernel
theorem dX6_addNumber_34 : decode cX6_addNumber 34 = .ok (.iconst 0, 1) := by decide +kernel
theorem dX6_addNumber_35 : decode cX6_addNumber 35 = .ok (.istore 5, 2) := by decide +kernel
theorem dX6_addNumber_37 : decode cX6_addNumber 37 = .ok (.iload 5, 2) := by decide +kernel
theorem dX6_addNumber_39 : decode cX6_addNumber 39 = .ok (.bipush 18, 2) := by decide +kernel
theorem dX6_addNumber_41 : decode cX6_addNumber 41 = .ok (.if_icmp .ge 37, 3) := by decide +kernel
theorem dX6_addNumber_44 : decode cX6_addNumber 44 = .ok (.lload_n 3, 1) := by decide +kernel
theorem dX6_addNumber_45 : decode cX6_addNumber 45 = .ok (.lconst 0, 1) := by decide +kernel
theorem dX6_addNumber_46 : decode cX6_addNumber 46 = .ok (.lcmp, 1) := by decide +kernel
theorem dX6_addNumber_47 : decode cX6_addNumber 47 = .ok (.ifCond .le 31, 3) := by decide +kernel
theorem dX6_addNumber_50 : decode cX6_addNumber 50 = .ok (.aload_n 0, 1) := by decide +kernel
theorem dX6_addNumber_51 : decode cX6_addNumber 51 = .ok (.ldc2_w 21, 3) := by decide +kernel
theorem dX6_addNumber_54 : decode cX6_addNumber 54 = .ok (.lload_n 1, 1) := by decide +kernel
theorem dX6_addNumber_55 : decode cX6_addNumber 55 = .ok (.lload_n 3, 1) := by decide +kernel
theorem dX6_addNumber_56 : decode cX6_addNumber 56 = .ok (.ldiv, 1) := by decide +kernel
theorem dX6_addNumber_57 : decode cX6_addNumber 57 = .ok (.ldc2_w 19, 3) := by decide +kernel
theorem dX6_addNumber_60 : decode cX6_addNumber 60 = .ok (.lrem, 1) := by decide +kernel
theorem dX6_addNumber_61 : decode cX6_addNumber 61 = .ok (.ladd, 1) := by decide +kernel
theorem dX6_addNumber_62 : decode cX6_addNumber 62 = .ok (.l2i, 1) := by decide +kernel
theorem dX6_addNumber_63 : decode cX6_addNumber 63 = .ok (.invokevirtual 23, 3) := by decide +kernel
theorem dX6_addNumber_66 : decode cX6_addNumber 66 = .ok (.lload_n 3, 1) := by decide +kernel
theorem dX6_addNumber_67 : decode cX6_addNumber 67 = .ok (.ldc2_w 19, 3) := by decide +kernel
theorem dX6_addNumber_70 : decode cX6_addNumber 70 = .ok (.ldiv, 1) := by decide +kernel
theorem dX6_addNumber_71 : decode cX6_addNumber 71 = .ok (.lstore_n 3, 1) := by decide +kernel
theorem dX6_addNumber_72 : decode cX6_addNumber 72 = .ok (.iinc 5 1, 3) := by decide +kernel
theorem dX6_addNumber_75 : decode cX6_addNumber 75 = .ok (.goto (-38), 3) := by decide +kernel
theorem dX6_addNumber_78 : decode cX6_addNumber 78 = .ok (.return_, 1) := by decide +kernel
theorem dX6_addPoint_0 : decode cX6_addPoint 0 = .ok (.aload_n 0, 1) := by decide +kernel
theorem dX6_addPoint_1 : decode cX6_addPoint 1 = .ok (.aload_n 1, 1) := by decide +kernel
theorem dX6_addPoint_2 : decode cX6_addPoint 2 = .ok (.getfield 27, 3) := by decide +kernel
theorem dX6_addPoint_5 : decode cX6_addPoint 5 = .ok (.invokevirtual 33, 3) := by decide +kernel
theorem dX6_addPoint_8 : decode cX6_addPoint 8 = .ok (.aload_n 1, 1) := by decide +kernel
theorem dX6_addPoint_9 : decode cX6_addPoint 9 = .ok (.getfield 37, 3) := by decide +kernel
theorem dX6_addPoint_12 : decode cX6_addPoint 12 = .ok (.lconst 1, 1) := by decide +kernel
theorem dX6_addPoint_13 : decode cX6_addPoint 13 = .ok (.lcmp, 1) := by decide +kernel
theorem dX6_addPoint_14 : decode cX6_addPoint 14 = .ok (.ifCond .eq 17, 3) := by decide +kernel
theorem dX6_addPoint_17 : decode cX6_addPoint 17 = .ok (.aload_n 0, 1) := by decide +kernel
theorem dX6_addPoint_18 : decode cX6_addPoint 18 = .ok (.bipush 47, 2) := by decide +kernel
theorem dX6_addPoint_20 : decode cX6_addPoint 20 = .ok (.invokevirtual 23, 3) := by decide +kernel
theorem dX6_addPoint_23 : decode cX6_addPoint 23 = .ok (.aload_n 0, 1) := by decide +kernel
theorem dX6_addPoint_24 : decode cX6_addPoint 24 = .ok (.aload_n 1, 1) := by decide +kernel
theorem dX6_addPoint_25 : decode cX6_addPoint 25 = .ok (.getfield 37, 3) := by decide +kernel
theorem dX6_addPoint_28 : decode cX6_addPoint 28 = .ok (.invokevirtual 33, 3) := by decide +kernel
theorem dX6_addPoint_31 : decode cX6_addPoint 31 = .ok (.return_, 1) := by decide +kernel
theorem dX6_letterOf_0 : decode cX6_letterOf 0 = .ok (.iload_n 0, 1) := by decide +kernel
theorem dX6_letterOf_1 : decode cX6_letterOf 1 = .ok (.tableswitch 36 0 2 #[27, 30, 33], 27) := by decide +kernel
theorem dX6_letterOf_28 : decode cX6_letterOf 28 = .ok (.bipush 109, 2) := by decide +kernel
theorem dX6_letterOf_30 : decode cX6_letterOf 30 = .ok (.ireturn, 1) := by decide +kernel
theorem dX6_letterOf_31 : decode cX6_letterOf 31 = .ok (.bipush 116, 2) := by decide +kernel
theorem dX6_letterOf_33 : decode cX6_letterOf 33 = .ok (.ireturn, 1) := by decide +kernel
theorem dX6_letterOf_34 : decode cX6_letterOf 34 = .ok (.bipush 112, 2) := by decide +kernel
theorem dX6_letterOf_36 : decode cX6_letterOf 36 = .ok (.ireturn, 1) := by decide +kernel
theorem dX6_letterOf_37 : decode cX6_letterOf 37 = .ok (.bipush 103, 2) := by decide +kernel
theorem dX6_letterOf_39 : decode cX6_letterOf 39 = .ok (.ireturn, 1) := by decide +kernel
theorem dX6_addEvent_0 : decode cX6_addEvent 0 = .ok (.aload_n 0, 1) := by decide +kernel
theorem dX6_addEvent_1 : decode cX6_addEvent 1 = .ok (.aload_n 1, 1) := by decide +kernel
theorem dX6_addEvent_2 : decode cX6_addEvent 2 = .ok (.getfield 40, 3) := by decide +kernel
theorem dX6_addEvent_5 : decode cX6_addEvent 5 = .ok (.invokestatic 45, 3) := by decide +kernel
theorem dX6_addEvent_8 : decode cX6_addEvent 8 = .ok (.invokevirtual 23, 3) := by decide +kernel
theorem dX6_addEvent_11 : decode cX6_addEvent 11 = .ok (.aload_n 0, 1) := by decide +kernel
theorem dX6_addEvent_12 : decode cX6_addEvent 12 = .ok (.aload_n 1, 1) := by decide +kernel
theorem dX6_addEvent_13 : decode cX6_addEvent 13 = .ok (.getfield 49, 3) := by decide +kernel
theorem dX6_addEvent_16 : decode cX6_addEvent 16 = .ok (.i2l, 1) := by decide +kernel
theorem dX6_addEvent_17 : decode cX6_addEvent 17 = .ok (.invokevirtual 33, 3) := by decide +kernel
theorem dX6_addEvent_20 : decode cX6_addEvent 20 = .ok (.aload_n 1, 1) := by decide +kernel
theorem dX6_addEvent_21 : decode cX6_addEvent 21 = .ok (.getfield 40, 3) := by decide +kernel
theorem dX6_addEvent_24 : decode cX6_addEvent 24 = .ok (.iconst 2, 1) := by decide +kernel
theorem dX6_addEvent_25 : decode cX6_addEvent 25 = .ok (.if_icmp .eq 20, 3) := by decide +kernel
theorem dX6_addEvent_28 : decode cX6_addEvent 28 = .ok (.aload_n 0, 1) := by decide +kernel
theorem dX6_addEvent_29 : decode cX6_addEvent 29 = .ok (.bipush 32, 2) := by decide +kernel
theorem dX6_addEvent_31 : decode cX6_addEvent 31 = .ok (.invokevirtual 23, 3) := by decide +kernel
theorem dX6_addEvent_34 : decode cX6_addEvent 34 = .ok (.aload_n 0, 1) := by decide +kernel
theorem dX6_addEvent_35 : decode cX6_addEvent 35 = .ok (.aload_n 1, 1) := by decide +kernel
theorem dX6_addEvent_36 : decode cX6_addEvent 36 = .ok (.getfield 52, 3) := by decide +kernel
theorem dX6_addEvent_39 : decode cX6_addEvent 39 = .ok (.getfield 56, 3) := by decide +kernel
theorem dX6_addEvent_42 : decode cX6_addEvent 42 = .ok (.invokevirtual 62, 3) := by decide +kernel
theorem dX6_addEvent_45 : decode cX6_addEvent 45 = .ok (.aload_n 1, 1) := by decide +kernel
theorem dX6_addEvent_46 : decode cX6_addEvent 46 = .ok (.getfield 40, 3) := by decide +kernel
theorem dX6_addEvent_49 : decode cX6_addEvent 49 = .ok (.iconst 3, 1) := by decide +kernel
theorem dX6_addEvent_50 : decode cX6_addEvent 50 = .ok (.if_icmp .ne 20, 3) := by decide +kernel
theorem dX6_addEvent_53 : decode cX6_addEvent 53 = .ok (.aload_n 0, 1) := by decide +kernel
theorem dX6_addEvent_54 : decode cX6_addEvent 54 = .ok (.bipush 45, 2) := by decide +kernel
theorem dX6_addEvent_56 : decode cX6_addEvent 56 = .ok (.invokevirtual 23, 3) := by decide +kernel
theorem dX6_addEvent_59 : decode cX6_addEvent 59 = .ok (.aload_n 0, 1) := by decide +kernel
theorem dX6_addEvent_60 : decode cX6_addEvent 60 = .ok (.aload_n 1, 1) := by decide +kernel
theorem dX6_addEvent_61 : decode cX6_addEvent 61 = .ok (.getfield 52, 3) := by decide +kernel
theorem dX6_addEvent_64 : decode cX6_addEvent 64 = .ok (.getfield 66, 3) := by decide +kernel
theorem dX6_addEvent_67 : decode cX6_addEvent 67 = .ok (.invokevirtual 62, 3) := by decide +kernel
theorem dX6_addEvent_70 : decode cX6_addEvent 70 = .ok (.aload_n 0, 1) := by decide +kernel
theorem dX6_addEvent_71 : decode cX6_addEvent 71 = .ok (.bipush 59, 2) := by decide +kernel
theorem dX6_addEvent_73 : decode cX6_addEvent 73 = .ok (.invokevirtual 23, 3) := by decide +kernel
theorem dX6_addEvent_76 : decode cX6_addEvent 76 = .ok (.return_, 1) := by decide +kernel
theorem dX7_init_0 : decode cX7_init 0 = .ok (.aload_n 0, 1) := by decide +kernel
theorem dX7_init_1 : decode cX7_init 1 = .ok (.invokespecial 1, 3) := by decide +kernel
theorem dX7_init_4 : decode cX7_init 4 = .ok (.aload_n 0, 1) := by decide +kernel
theorem dX7_init_5 : decode cX7_init 5 = .ok (.new 7, 3) := by decide +kernel
theorem dX7_init_8 : decode cX7_init 8 = .ok (.dup, 1) := by decide +kernel
theorem dX7_init_9 : decode cX7_init 9 = .ok (.invokespecial 9, 3) := by decide +kernel
theorem dX7_init_12 : decode cX7_init 12 = .ok (.putfield 10, 3) := by decide +kernel
theorem dX7_init_15 : decode cX7_init 15 = .ok (.aload_n 0, 1) := by decide +kernel
theorem dX7_init_16 : decode cX7_init 16 = .ok (.new 7, 3) := by decide +kernel
theorem dX7_init_19 : decode cX7_init 19 = .ok (.dup, 1) := by decide +kernel
theorem dX7_init_20 : decode cX7_init 20 = .ok (.invokespecial 9, 3) := by decide +kernel
theorem dX7_init_23 : decode cX7_init 23 = .ok (.putfield 16, 3) := by decide +kernel
theorem dX7_init_26 : decode cX7_init 26 = .ok (.return_, 1) := by decide +kernel
theorem dX7_put_0 : decode cX7_put 0 = .ok (.aload_n 0, 1) := by decide +kernel
theorem dX7_put_1 : decode cX7_put 1 = .ok (.getfield 10, 3) := by decide +kernel
theorem dX7_put_4 : decode cX7_put 4 = .ok (.aload_n 1, 1) := by decide +kernel
theorem dX7_put_5 : decode cX7_put 5 = .ok (.invokevirtual 19, 3) := by decide +kernel
theorem dX7_put_8 : decode cX7_put 8 = .ok (.aload_n 0, 1) := by decide +kernel
theorem dX7_put_9 : decode cX7_put 9 = .ok (.getfield 16, 3) := by decide +kernel
theorem dX7_put_12 : decode cX7_put 12 = .ok (.aload_n 2, 1) := by decide +kernel
theorem dX7_put_13 : decode cX7_put 13 = .ok (.invokevirtual 19, 3) := by decide +kernel
theorem dX7_put_16 : decode cX7_put 16 = .ok (.return_, 1) := by decide +kernel
theorem dX7_copy_0 : decode cX7_copy 0 = .ok (.aload_n 0, 1) := by decide +kernel
theorem dX7_copy_1 : decode cX7_copy 1 = .ok (.aload_n 1, 1) := by decide +kernel
theorem dX7_copy_2 : decode cX7_copy 2 = .ok (.getfield 10, 3) := by decide +kernel
theorem dX7_copy_5 : decode cX7_copy 5 = .ok (.aload_n 1, 1) := by decide +kernel
theorem dX7_copy_6 : decode cX7_copy 6 = .ok (.getfield 16, 3) := by decide +kernel
theorem dX7_copy_9 : decode cX7_copy 9 = .ok (.invokevirtual 23, 3) := by decide +kernel
theorem dX7_copy_12 : decode cX7_copy 12 = .ok (.return_, 1) := by decide +kernel
theorem dX7_isEmpty_0 : decode cX7_isEmpty 0 = .ok (.aload_n 0, 1) := by decide +kernel
theorem dX7_isEmpty_1 : decode cX7_isEmpty 1 = .ok (.getfield 10, 3) := by decide +kernel
theorem dX7_isEmpty_4 : decode cX7_isEmpty 4 = .ok (.aload_n 0, 1) := by decide +kernel
theorem dX7_isEmpty_5 : decode cX7_isEmpty 5 = .ok (.getfield 16, 3) := by decide +kernel
theorem dX7_isEmpty_8 : decode cX7_isEmpty 8 = .ok (.invokevirtual 27, 3) := by decide +kernel
theorem dX7_isEmpty_11 : decode cX7_isEmpty 11 = .ok (.ifCond .ne 7, 3) := by decide +kernel
theorem dX7_isEmpty_14 : decode cX7_isEmpty 14 = .ok (.iconst 1, 1) := by decide +kernel
theorem dX7_isEmpty_15 : decode cX7_isEmpty 15 = .ok (.goto 4, 3) := by decide +kernel
theorem dX7_isEmpty_18 : decode cX7_isEmpty 18 = .ok (.iconst 0, 1) := by decide +kernel
theorem dX7_isEmpty_19 : decode cX7_isEmpty 19 = .ok (.ireturn, 1) := by decide +kernel
theorem dX7_part_0 : decode cX7_part 0 = .ok (.iload_n 1, 1) := by decide +kernel
theorem dX7_part_1 : decode cX7_part 1 = .ok (.iconst 2, 1) := by decide +kernel
theorem dX7_part_2 : decode cX7_part 2 = .ok (.if_icmp .ge 14, 3) := by decide +kernel
theorem dX7_part_5 : decode cX7_part 5 = .ok (.aload_n 0, 1) := by decide +kernel
theorem dX7_part_6 : decode cX7_part 6 = .ok (.getfield 10, 3) := by decide +kernel
theorem dX7_part_9 : decode cX7_part 9 = .ok (.iload_n 1, 1) := by decide +kernel
theorem dX7_part_10 : decode cX7_part 10 = .ok (.invokevirtual 31, 3) := by decide +kernel
theorem dX7_part_13 : decode cX7_part 13 = .ok (.goto 13, 3) := by decide +kernel
theorem dX7_part_16 : decode cX7_part 16 = .ok (.aload_n 0, 1) := by decide +kernel
theorem dX7_part_17 : decode cX7_part 17 = .ok (.getfield 16, 3) := by decide +kernel
theorem dX7_part_20 : decode cX7_part 20 = .ok (.iload_n 1, 1) := by decide +kernel
theorem dX7_part_21 : decode cX7_part 21 = .ok (.iconst 2, 1) := by decide +kernel
theorem dX7_part_22 : decode cX7_part 22 = .ok (.isub, 1) := by decide +kernel
theorem dX7_part_23 : decode cX7_part 23 = .ok (.invokevirtual 31, 3) := by decide +kernel
theorem dX7_part_26 : decode cX7_part 26 = .ok (.lreturn, 1) := by decide +kernel
theorem dX8_init_0 : decode cX8_init 0 = .ok (.aload_n 0, 1) := by decide +kernel
theorem dX8_init_1 : decode cX8_init 1 = .ok (.invokespecial 3, 3) := by decide +kernel
theorem dX8_init_4 : decode cX8_init 4 = .ok (.aload_n 0, 1) := by decide +kernel
theorem dX8_init_5 : decode cX8_init 5 = .ok (.sipush 160, 3) := by decide +kernel
theorem dX8_init_8 : decode cX8_init 8 = .ok (.newarray .byte, 2) := by decide +kernel
theorem dX8_init_10 : decode cX8_init 10 = .ok (.putfield 11, 3) := by decide +kernel
theorem dX8_init_13 : decode cX8_init 13 = .ok (.aload_n 0, 1) := by decide +kernel
theorem dX8_init_14 : decode cX8_init 14 = .ok (.new 15, 3) := by decide +kernel
theorem dX8_init_17 : decode cX8_init 17 = .ok (.dup, 1) := by decide +kernel
theorem dX8_init_18 : decode cX8_init 18 = .ok (.invokespecial 17, 3) := by decide +kernel
theorem dX8_init_21 : decode cX8_init 21 = .ok (.putfield 18, 3) := by decide +kernel
theorem dX8_init_24 : decode cX8_init 24 = .ok (.aload_n 0, 1) := by decide +kernel
theorem dX8_init_25 : decode cX8_init 25 = .ok (.new 22, 3) := by decide +kernel
theorem dX8_init_28 : decode cX8_init 28 = .ok (.dup, 1) := by decide +kernel
theorem dX8_init_29 : decode cX8_init 29 = .ok (.invokespecial 24, 3) := by decide +kernel
theorem dX8_init_32 : decode cX8_init 32 = .ok (.putfield 25, 3) := by decide +kernel
theorem dX8_init_35 : decode cX8_init 35 = .ok (.return_, 1) := by decide +kernel
theorem dX8_add_0 : decode cX8_add 0 = .ok (.aload_n 0, 1) := by decide +kernel
theorem dX8_add_1 : decode cX8_add 1 = .ok (.getfield 29, 3) := by decide +kernel
theorem dX8_add_4 : decode cX8_add 4 = .ok (.sipush 160, 3) := by decide +kernel
theorem dX8_add_7 : decode cX8_add 7 = .ok (.if_icmp .lt 5, 3) := by decide +kernel
theorem dX8_add_10 : decode cX8_add 10 = .ok (.iconst 0, 1) := by decide +kernel
theorem dX8_add_11 : decode cX8_add 11 = .ok (.ireturn, 1) := by decide +kernel
theorem dX8_add_12 : decode cX8_add 12 = .ok (.aload_n 0, 1) := by decide +kernel
theorem dX8_add_13 : decode cX8_add 13 = .ok (.getfield 11, 3) := by decide +kernel
theorem dX8_add_16 : decode cX8_add 16 = .ok (.aload_n 0, 1) := by decide +kernel
theorem dX8_add_17 : decode cX8_add 17 = .ok (.getfield 29, 3) := by decide +kernel
theorem dX8_add_20 : decode cX8_add 20 = .ok (.iload_n 1, 1) := by decide +kernel
theorem dX8_add_21 : decode cX8_add 21 = .ok (.i2b, 1) := by decide +kernel
theorem dX8_add_22 : decode cX8_add 22 = .ok (.bastore, 1) := by decide +kernel
theorem dX8_add_23 : decode cX8_add 23 = .ok (.aload_n 0, 1) := by decide +kernel
theorem dX8_add_24 : decode cX8_add 24 = .ok (.dup, 1) := by decide +kernel
theorem dX8_add_25 : decode cX8_add 25 = .ok (.getfield 29, 3) := by decide +kernel
theorem dX8_add_28 : decode cX8_add 28 = .ok (.iconst 1, 1) := by decide +kernel
theorem dX8_add_29 : decode cX8_add 29 = .ok (.iadd, 1) := by decide +kernel
theorem dX8_add_30 : decode cX8_add 30 = .ok (.putfield 29, 3) := by decide +kernel
theorem dX8_add_33 : decode cX8_add 33 = .ok (.iconst 1, 1) := by decide +kernel
theorem dX8_add_34 : decode cX8_add 34 = .ok (.ireturn, 1) := by decide +kernel
theorem dX8_read_0 : decode cX8_read 0 = .ok (.aload_n 0, 1) := by decide +kernel
theorem dX8_read_1 : decode cX8_read 1 = .ok (.iconst 0, 1) := by decide +kernel
theorem dX8_read_2 : decode cX8_read 2 = .ok (.putfield 33, 3) := by decide +kernel
theorem dX8_read_5 : decode cX8_read 5 = .ok (.iconst 0, 1) := by decide +kernel
theorem dX8_read_6 : decode cX8_read 6 = .ok (.istore 4, 2) := by decide +kernel
theorem dX8_read_8 : decode cX8_read 8 = .ok (.iconst 1, 1) := by decide +kernel
theorem dX8_read_9 : decode cX8_read 9 = .ok (.istore 5, 2) := by decide +kernel
theorem dX8_read_11 : decode cX8_read 11 = .ok (.iload 5, 2) := by decide +kernel
theorem dX8_read_13 : decode cX8_read 13 = .ok (.ifCond .eq 69, 3) := by decide +kernel
theorem dX8_read_16 : decode cX8_read 16 = .ok (.iload 4, 2) := by decide +kernel
theorem dX8_read_18 : decode cX8_read 18 = .ok (.sipush 160, 3) := by decide +kernel
theorem dX8_read_21 : decode cX8_read 21 = .ok (.if_icmp .ge 61, 3) := by decide +kernel
theorem dX8_read_24 : decode cX8_read 24 = .ok (.iload_n 1, 1) := by decide +kernel
theorem dX8_read_25 : decode cX8_read 25 = .ok (.ifCond .eq 11, 3) := by decide +kernel
theorem dX8_read_28 : decode cX8_read 28 = .ok (.aload_n 0, 1) := by decide +kernel
theorem dX8_read_29 : decode cX8_read 29 = .ok (.aload_n 2, 1) := by decide +kernel
theorem dX8_read_30 : decode cX8_read 30 = .ok (.invokevirtual 36, 3) := by decide +kernel
theorem dX8_read_33 : decode cX8_read 33 = .ok (.goto 9, 3) := by decide +kernel
theorem dX8_read_36 : decode cX8_read 36 = .ok (.aload_n 0, 1) := by decide +kernel
theorem dX8_read_37 : decode cX8_read 37 = .ok (.aload_n 2, 1) := by decide +kernel
theorem dX8_read_38 : decode cX8_read 38 = .ok (.aload_n 3, 1) := by decide +kernel
theorem dX8_read_39 : decode cX8_read 39 = .ok (.invokevirtual 40, 3) := by decide +kernel
theorem dX8_read_42 : decode cX8_read 42 = .ok (.istore 5, 2) := by decide +kernel
theorem dX8_read_44 : decode cX8_read 44 = .ok (.iload 5, 2) := by decide +kernel
theorem dX8_read_46 : decode cX8_read 46 = .ok (.ifCond .eq (-35), 3) := by decide +kernel
theorem dX8_read_49 : decode cX8_read 49 = .ok (.iinc 4 1, 3) := by decide +kernel
theorem dX8_read_52 : decode cX8_read 52 = .ok (.aload_n 0, 1) := by decide +kernel
theorem dX8_read_53 : decode cX8_read 53 = .ok (.getfield 33, 3) := by decide +kernel
theorem dX8_read_56 : decode cX8_read 56 = .ok (.aload_n 0, 1) := by decide +kernel
theorem dX8_read_57 : decode cX8_read 57 = .ok (.getfield 29, 3) := by decide +kernel
theorem dX8_read_60 : decode cX8_read 60 = .ok (.if_icmp .lt 11, 3) := by decide +kernel
theorem dX8_read_63 : decode cX8_read 63 = .ok (.aload_n 0, 1) := by decide +kernel
theorem dX8_read_64 : decode cX8_read 64 = .ok (.iconst 0, 1) := by decide +kernel
theorem dX8_read_65 : decode cX8_read 65 = .ok (.putfield 29, 3) := by decide +kernel
theorem dX8_read_68 : decode cX8_read 68 = .ok (.iload 4, 2) := by decide +kernel
theorem dX8_read_70 : decode cX8_read 70 = .ok (.ireturn, 1) := by decide +kernel
theorem dX8_read_71 : decode cX8_read 71 = .ok (.aload_n 0, 1) := by decide +kernel
theorem dX8_read_72 : decode cX8_read 72 = .ok (.bipush 59, 2) := by decide +kernel
theorem dX8_read_74 : decode cX8_read 74 = .ok (.invokevirtual 44, 3) := by decide +kernel
theorem dX8_read_77 : decode cX8_read 77 = .ok (.istore 5, 2) := by decide +kernel
theorem dX8_read_79 : decode cX8_read 79 = .ok (.goto (-68), 3) := by decide +kernel
theorem dX8_read_82 : decode cX8_read 82 = .ok (.aload_n 0, 1) := by decide +kernel
theorem dX8_read_83 : decode cX8_read 83 = .ok (.iconst 0, 1) := by decide +kernel
theorem dX8_read_84 : decode cX8_read 84 = .ok (.putfield 29, 3) := by decide +kernel
theorem dX8_read_87 : decode cX8_read 87 = .ok (.bipush (-100), 2) := by decide +kernel
theorem dX8_read_89 : decode cX8_read 89 = .ok (.aload_n 0, 1) := by decide +kernel
theorem dX8_read_90 : decode cX8_read 90 = .ok (.getfield 33, 3) := by decide +kernel
theorem dX8_read_93 : decode cX8_read 93 = .ok (.isub, 1) := by decide +kernel
theorem dX8_read_94 : decode cX8_read 94 = .ok (.ireturn, 1) := by decide +kernel
theorem dX8_skips_0 : decode cX8_skips 0 = .ok (.aload_n 0, 1) := by decide +kernel
theorem dX8_skips_1 : decode cX8_skips 1 = .ok (.getfield 33, 3) := by decide +kernel
theorem dX8_skips_4 : decode cX8_skips 4 = .ok (.aload_n 0, 1) := by decide +kernel
theorem dX8_skips_5 : decode cX8_skips 5 = .ok (.getfield 29, 3) := by decide +kernel
theorem dX8_skips_8 : decode cX8_skips 8 = .ok (.if_icmp .ge 16, 3) := by decide +kernel
theorem dX8_skips_11 : decode cX8_skips 11 = .ok (.aload_n 0, 1) := by decide +kernel
theorem dX8_skips_12 : decode cX8_skips 12 = .ok (.getfield 11, 3) := by decide +kernel
theorem dX8_skips_15 : decode cX8_skips 15 = .ok (.aload_n 0, 1) := by decide +kernel
theorem dX8_skips_16 : decode cX8_skips 16 = .ok (.getfield 33, 3) := by decide +kernel
theorem dX8_skips_19 : decode cX8_skips 19 = .ok (.baload, 1) := by decide +kernel
theorem dX8_skips_20 : decode cX8_skips 20 = .ok (.iload_n 1, 1) := by decide +kernel
theorem dX8_skips_21 : decode cX8_skips 21 = .ok (.if_icmp .eq 5, 3) := by decide +kernel
theorem dX8_skips_24 : decode cX8_skips 24 = .ok (.iconst 0, 1) := by decide +kernel
theorem dX8_skips_25 : decode cX8_skips 25 = .ok (.ireturn, 1) := by decide +kernel
theorem dX8_skips_26 : decode cX8_skips 26 = .ok (.aload_n 0, 1) := by decide +kernel
theorem dX8_skips_27 : decode cX8_skips 27 = .ok (.dup, 1) := by decide +kernel
theorem dX8_skips_28 : decode cX8_skips 28 = .ok (.getfield 33, 3) := by decide +kernel
theorem dX8_skips_31 : decode cX8_skips 31 = .ok (.iconst 1, 1) := by decide +kernel
theorem dX8_skips_32 : decode cX8_skips 32 = .ok (.iadd, 1) := by decide +kernel
theorem dX8_skips_33 : decode cX8_skips 33 = .ok (.putfield 33, 3) := by decide +kernel
theorem dX8_skips_36 : decode cX8_skips 36 = .ok (.iconst 1, 1) := by decide +kernel
theorem dX8_skips_37 : decode cX8_skips 37 = .ok (.ireturn, 1) := by decide +kernel
theorem dX8_figure_0 : decode cX8_figure 0 = .ok (.aload_n 0, 1) := by decide +kernel
theorem dX8_figure_1 : decode cX8_figure 1 = .ok (.getfield 33, 3) := by decide +kernel
theorem dX8_figure_4 : decode cX8_figure 4 = .ok (.aload_n 0, 1) := by decide +kernel
theorem dX8_figure_5 : decode cX8_figure 5 = .ok (.getfield 29, 3) := by decide +kernel
theorem dX8_figure_8 : decode cX8_figure 8 = .ok (.if_icmp .ge 31, 3) := by decide +kernel
theorem dX8_figure_11 : decode cX8_figure 11 = .ok (.aload_n 0, 1) := by decide +kernel
theorem dX8_figure_12 : decode cX8_figure 12 = .ok (.getfield 11, 3) := by decide +kernel
theorem dX8_figure_15 : decode cX8_figure 15 = .ok (.aload_n 0, 1) := by decide +kernel
theorem dX8_figure_16 : decode cX8_figure 16 = .ok (.getfield 33, 3) := by decide +kernel
theorem dX8_figure_19 : decode cX8_figure 19 = .ok (.baload, 1) := by decide +kernel
theorem dX8_figure_20 : decode cX8_figure 20 = .ok (.bipush 48, 2) := by decide +kernel
theorem dX8_figure_22 : decode cX8_figure 22 = .ok (.if_icmp .lt 17, 3) := by decide +kernel
theorem dX8_figure_25 : decode cX8_figure 25 = .ok (.aload_n 0, 1) := by decide +kernel
theorem dX8_figure_26 : decode cX8_figure 26 = .ok (.getfield 11, 3) := by decide +kernel
theorem dX8_figure_29 : decode cX8_figure 29 = .ok (.aload_n 0, 1) := by decide +kernel
theorem dX8_figure_30 : decode cX8_figure 30 = .ok (.getfield 33, 3) := by decide +kernel
theorem dX8_figure_33 : decode cX8_figure 33 = .ok (.baload, 1) := by decide +kernel
theorem dX8_figure_34 : decode cX8_figure 34 = .ok (.bipush 57, 2) := by decide +kernel
theorem dX8_figure_36 : decode cX8_figure 36 = .ok (.if_icmp .le 5, 3) := by decide +kernel
theorem dX8_figure_39 : decode cX8_figure 39 = .ok (.iconst (-1), 1) := by decide +kernel
theorem dX8_figure_40 : decode cX8_figure 40 = .ok (.ireturn, 1) := by decide +kernel
theorem dX8_figure_41 : decode cX8_figure 41 = .ok (.aload_n 0, 1) := by decide +kernel
theorem dX8_figure_42 : decode cX8_figure 42 = .ok (.getfield 11, 3) := by decide +kernel
theorem dX8_figure_45 : decode cX8_figure 45 = .ok (.aload_n 0, 1) := by decide +kernel
theorem dX8_figure_46 : decode cX8_figure 46 = .ok (.getfield 33, 3) := by decide +kernel
theorem dX8_figure_49 : decode cX8_figure 49 = .ok (.baload, 1) := by decide +kernel
theorem dX8_figure_50 : decode cX8_figure 50 = .ok (.bipush 48, 2) := by decide +kernel
theorem dX8_figure_52 : decode cX8_figure 52 = .ok (.isub, 1) := by decide +kernel
theorem dX8_figure_53 : decode cX8_figure 53 = .ok (.ireturn, 1) := by decide +kernel
theorem dX8_readWorths_0 : decode cX8_readWorths 0 = .ok (.aload_n 0, 1) := by decide +kernel
theorem dX8_readWorths_1 : decode cX8_readWorths 1 = .ok (.bipush 119, 2) := by decide +kernel
theorem dX8_readWorths_3 : decode cX8_readWorths 3 = .ok (.invokevirtual 44, 3) := by decide +kernel
theorem dX8_readWorths_6 : decode cX8_readWorths 6 = .ok (.istore_n 2, 1) := by decide +kernel
theorem dX8_readWorths_7 : decode cX8_readWorths 7 = .ok (.iload_n 2, 1) := by decide +kernel
theorem dX8_readWorths_8 : decode cX8_readWorths 8 = .ok (.ifCond .ne 14, 3) := by decide +kernel
theorem dX8_readWorths_11 : decode cX8_readWorths 11 = .ok (.aload_n 0, 1) := by decide +kernel
theorem dX8_readWorths_12 : decode cX8_readWorths 12 = .ok (.bipush 116, 2) := by decide +kernel
theorem dX8_readWorths_14 : decode cX8_readWorths 14 = .ok (.invokevirtual 44, 3) := by decide +kernel
theorem dX8_readWorths_17 : decode cX8_readWorths 17 = .ok (.ifCond .ne 5, 3) := by decide +kernel
theorem dX8_readWorths_20 : decode cX8_readWorths 20 = .ok (.iconst 0, 1) := by decide +kernel
theorem dX8_readWorths_21 : decode cX8_readWorths 21 = .ok (.ireturn, 1) := by decide +kernel
theorem dX8_readWorths_22 : decode cX8_readWorths 22 = .ok (.aload_n 0, 1) := by decide +kernel
theorem dX8_readWorths_23 : decode cX8_readWorths 23 = .ok (.invokevirtual 48, 3) := by decide +kernel
theorem dX8_readWorths_26 : decode cX8_readWorths 26 = .ok (.istore_n 3, 1) := by decide +kernel
theorem dX8_readWorths_27 : decode cX8_readWorths 27 = .ok (.aload_n 1, 1) := by decide +kernel
theorem dX8_readWorths_28 : decode cX8_readWorths 28 = .ok (.iload_n 3, 1) := by decide +kernel
theorem dX8_readWorths_29 : decode cX8_readWorths 29 = .ok (.invokevirtual 52, 3) := by decide +kernel
theorem dX8_readWorths_32 : decode cX8_readWorths 32 = .ok (.ifCond .ne 5, 3) := by decide +kernel
theorem dX8_readWorths_35 : decode cX8_readWorths 35 = .ok (.iconst 0, 1) := by decide +kernel
theorem dX8_readWorths_36 : decode cX8_readWorths 36 = .ok (.ireturn, 1) := by decide +kernel
theorem dX8_readWorths_37 : decode cX8_readWorths 37 = .ok (.aload_n 0, 1) := by decide +kernel
theorem dX8_readWorths_38 : decode cX8_readWorths 38 = .ok (.dup, 1) := by decide +kernel
theorem dX8_readWorths_39 : decode cX8_readWorths 39 = .ok (.getfield 33, 3) := by decide +kernel
theorem dX8_readWorths_42 : decode cX8_readWorths 42 = .ok (.iconst 1, 1) := by decide +kernel
theorem dX8_readWorths_43 : decode cX8_readWorths 43 = .ok (.iadd, 1) := by decide +kernel
theorem dX8_readWorths_44 : decode cX8_readWorths 44 = .ok (.putfield 33, 3) := by decide +kernel
theorem dX8_readWorths_47 : decode cX8_readWorths 47 = .ok (.aload_n 0, 1) := by decide +kernel
theorem dX8_readWorths_48 : decode cX8_readWorths 48 = .ok (.bipush 58, 2) := by decide +kernel
theorem dX8_readWorths_50 : decode cX8_readWorths 50 = .ok (.invokevirtual 44, 3) := by decide +kernel
theorem dX8_readWorths_53 : decode cX8_readWorths 53 = .ok (.ifCond .ne 5, 3) := by decide +kernel
theorem dX8_readWorths_56 : decode cX8_readWorths 56 = .ok (.iconst 0, 1) := by decide +kernel
theorem dX8_readWorths_57 : decode cX8_readWorths 57 = .ok (.ireturn, 1) := by decide +kernel
theorem dX8_readWorths_58 : decode cX8_readWorths 58 = .ok (.iconst 0, 1) := by decide +kernel
theorem dX8_readWorths_59 : decode cX8_readWorths 59 = .ok (.istore 4, 2) := by decide +kernel
theorem dX8_readWorths_61 : decode cX8_readWorths 61 = .ok (.iload 4, 2) := by decide +kernel
theorem dX8_readWorths_63 : decode cX8_readWorths 63 = .ok (.aload_n 1, 1) := by decide +kernel
theorem dX8_readWorths_64 : decode cX8_readWorths 64 = .ok (.getfield 57, 3) := by decide +kernel
theorem dX8_readWorths_67 : decode cX8_readWorths 67 = .ok (.if_icmp .ge 69, 3) := by decide +kernel
theorem dX8_readWorths_70 : decode cX8_readWorths 70 = .ok (.aload_n 0, 1) := by decide +kernel
theorem dX8_readWorths_71 : decode cX8_readWorths 71 = .ok (.invokevirtual 48, 3) := by decide +kernel
theorem dX8_readWorths_74 : decode cX8_readWorths 74 = .ok (.istore 5, 2) := by decide +kernel
theorem dX8_readWorths_76 : decode cX8_readWorths 76 = .ok (.iload 5, 2) := by decide +kernel
theorem dX8_readWorths_78 : decode cX8_readWorths 78 = .ok (.ifCond .ge 5, 3) := by decide +kernel
theorem dX8_readWorths_81 : decode cX8_readWorths 81 = .ok (.iconst 0, 1) := by decide +kernel
theorem dX8_readWorths_82 : decode cX8_readWorths 82 = .ok (.ireturn, 1) := by decide +kernel
theorem dX8_readWorths_83 : decode cX8_readWorths 83 = .ok (.aload_n 0, 1) := by decide +kernel
theorem dX8_readWorths_84 : decode cX8_readWorths 84 = .ok (.dup, 1) := by decide +kernel
theorem dX8_readWorths_85 : decode cX8_readWorths 85 = .ok (.getfield 33, 3) := by decide +kernel
theorem dX8_readWorths_88 : decode cX8_readWorths 88 = .ok (.iconst 1, 1) := by decide +kernel
theorem dX8_readWorths_89 : decode cX8_readWorths 89 = .ok (.iadd, 1) := by decide +kernel
theorem dX8_readWorths_90 : decode cX8_readWorths 90 = .ok (.putfield 33, 3) := by decide +kernel
theorem dX8_readWorths_93 : decode cX8_readWorths 93 = .ok (.aload_n 1, 1) := by decide +kernel
theorem dX8_readWorths_94 : decode cX8_readWorths 94 = .ok (.getfield 60, 3) := by decide +kernel
theorem dX8_readWorths_97 : decode cX8_readWorths 97 = .ok (.iload_n 3, 1) := by decide +kernel
theorem dX8_readWorths_98 : decode cX8_readWorths 98 = .ok (.aaload, 1) := by decide +kernel
theorem dX8_readWorths_99 : decode cX8_readWorths 99 = .ok (.iload 4, 2) := by decide +kernel
theorem dX8_readWorths_101 : decode cX8_readWorths 101 = .ok (.iload 5, 2) := by decide +kernel
theorem dX8_readWorths_103 : decode cX8_readWorths 103 = .ok (.iastore, 1) := by decide +kernel
theorem dX8_readWorths_104 : decode cX8_readWorths 104 = .ok (.iload_n 2, 1) := by decide +kernel
theorem dX8_readWorths_105 : decode cX8_readWorths 105 = .ok (.ifCond .eq 14, 3) := by decide +kernel
theorem dX8_readWorths_108 : decode cX8_readWorths 108 = .ok (.aload_n 1, 1) := by decide +kernel
theorem dX8_readWorths_109 : decode cX8_readWorths 109 = .ok (.getfield 64, 3) := by decide +kernel
theorem dX8_readWorths_112 : decode cX8_readWorths 112 = .ok (.iload_n 3, 1) := by decide +kernel
theorem dX8_readWorths_113 : decode cX8_readWorths 113 = .ok (.aaload, 1) := by decide +kernel
theorem dX8_readWorths_114 : decode cX8_readWorths 114 = .ok (.iload 4, 2) := by decide +kernel
theorem dX8_readWorths_116 : decode cX8_readWorths 116 = .ok (.iload 5, 2) := by decide +kernel
theorem dX8_readWorths_118 : decode cX8_readWorths 118 = .ok (.iastore, 1) := by decide +kernel
theorem dX8_readWorths_119 : decode cX8_readWorths 119 = .ok (.aload_n 0, 1) := by decide +kernel
theorem dX8_readWorths_120 : decode cX8_readWorths 120 = .ok (.bipush 44, 2) := by decide +kernel
theorem dX8_readWorths_122 : decode cX8_readWorths 122 = .ok (.invokevirtual 44, 3) := by decide +kernel
theorem dX8_readWorths_125 : decode cX8_readWorths 125 = .ok (.ifCond .ne 5, 3) := by decide +kernel
theorem dX8_readWorths_128 : decode cX8_readWorths 128 = .ok (.iconst 1, 1) := by decide +kernel
theorem dX8_readWorths_129 : decode cX8_readWorths 129 = .ok (.ireturn, 1) := by decide +kernel
theorem dX8_readWorths_130 : decode cX8_readWorths 130 = .ok (.iinc 4 1, 3) := by decide +kernel
theorem dX8_readWorths_133 : decode cX8_readWorths 133 = .ok (.goto (-72), 3) := by decide +kernel
theorem dX8_readWorths_136 : decode cX8_readWorths 136 = .ok (.iconst 0, 1) := by decide +kernel
theorem dX8_readWorths_137 : decode cX8_readWorths 137 = .ok (.ireturn, 1) := by decide +kernel
theorem dX8_readShare_0 : decode cX8_readShare 0 = .ok (.aload_n 0, 1) := by decide +kernel
theorem dX8_readShare_1 : decode cX8_readShare 1 = .ok (.invokevirtual 48, 3) := by decide +kernel
theorem dX8_readShare_4 : decode cX8_readShare 4 = .ok (.istore_n 3, 1) := by decide +kernel
theorem dX8_readShare_5 : decode cX8_readShare 5 = .ok (.aload_n 1, 1) := by decide +kernel
theorem dX8_readShare_6 : decode cX8_readShare 6 = .ok (.iload_n 3, 1) := by decide +kernel
theorem dX8_readShare_7 : decode cX8_readShare 7 = .ok (.invokevirtual 52, 3) := by decide +kernel
theorem dX8_readShare_10 : decode cX8_readShare 10 = .ok (.ifCond .eq 12, 3) := by decide +kernel
theorem dX8_readShare_13 : decode cX8_readShare 13 = .ok (.aload_n 2, 1) := by decide +kernel
theorem dX8_readShare_14 : decode cX8_readShare 14 = .ok (.getfield 67, 3) := by decide +kernel
theorem dX8_readShare_17 : decode cX8_readShare 17 = .ok (.iload_n 3, 1) := by decide +kernel
theorem dX8_readShare_18 : decode cX8_readShare 18 = .ok (.iaload, 1) := by decide +kernel
theorem dX8_readShare_19 : decode cX8_readShare 19 = .ok (.ifCond .le 5, 3) := by decide +kernel
theorem dX8_readShare_22 : decode cX8_readShare 22 = .ok (.iconst 0, 1) := by decide +kernel
theorem dX8_readShare_23 : decode cX8_readShare 23 = .ok (.ireturn, 1) := by decide +kernel
theorem dX8_readShare_24 : decode cX8_readShare 24 = .ok (.aload_n 0, 1) := by decide +kernel
theorem dX8_readShare_25 : decode cX8_readShare 25 = .ok (.dup, 1) := by decide +kernel
theorem dX8_readShare_26 : decode cX8_readShare 26 = .ok (.getfield 33, 3) := by decide +kernel
theorem dX8_readShare_29 : decode cX8_readShare 29 = .ok (.iconst 1, 1) := by decide +kernel
theorem dX8_readShare_30 : decode cX8_readShare 30 = .ok (.iadd, 1) := by decide +kernel
theorem dX8_readShare_31 : decode cX8_readShare 31 = .ok (.putfield 33, 3) := by decide +kernel
theorem dX8_readShare_34 : decode cX8_readShare 34 = .ok (.aload_n 0, 1) := by decide +kernel
theorem dX8_readShare_35 : decode cX8_readShare 35 = .ok (.bipush 61, 2) := by decide +kernel
theorem dX8_readShare_37 : decode cX8_readShare 37 = .ok (.invokevirtual 44, 3) := by decide +kernel
theorem dX8_readShare_40 : decode cX8_readShare 40 = .ok (.ifCond .eq 16, 3) := by decide +kernel
theorem dX8_readShare_43 : decode cX8_readShare 43 = .ok (.aload_n 0, 1) := by decide +kernel
theorem dX8_readShare_44 : decode cX8_readShare 44 = .ok (.iload_n 3, 1) := by decide +kernel
theorem dX8_readShare_45 : decode cX8_readShare 45 = .ok (.aload_n 1, 1) := by decide +kernel
theorem dX8_readShare_46 : decode cX8_readShare 46 = .ok (.getfield 57, 3) := by decide +kernel
theorem dX8_readShare_49 : decode cX8_readShare 49 = .ok (.aload_n 2, 1) := by decide +kernel
theorem dX8_readShare_50 : decode cX8_readShare 50 = .ok (.invokevirtual 73, 3) := by decide +kernel
theorem dX8_readShare_53 : decode cX8_readShare 53 = .ok (.ifCond .ne 5, 3) := by decide +kernel
theorem dX8_readShare_56 : decode cX8_readShare 56 = .ok (.iconst 0, 1) := by decide +kernel
theorem dX8_readShare_57 : decode cX8_readShare 57 = .ok (.ireturn, 1) := by decide +kernel
theorem dX8_readShare_58 : decode cX8_readShare 58 = .ok (.aload_n 0, 1) := by decide +kernel
theorem dX8_readShare_59 : decode cX8_readShare 59 = .ok (.bipush 44, 2) := by decide +kernel
theorem dX8_readShare_61 : decode cX8_readShare 61 = .ok (.invokevirtual 44, 3) := by decide +kernel
theorem dX8_readShare_64 : decode cX8_readShare 64 = .ok (.ifCond .eq 16, 3) := by decide +kernel
theorem dX8_readShare_67 : decode cX8_readShare 67 = .ok (.aload_n 0, 1) := by decide +kernel
theorem dX8_readShare_68 : decode cX8_readShare 68 = .ok (.iload_n 3, 1) := by decide +kernel
theorem dX8_readShare_69 : decode cX8_readShare 69 = .ok (.aload_n 1, 1) := by decide +kernel
theorem dX8_readShare_70 : decode cX8_readShare 70 = .ok (.getfield 57, 3) := by decide +kernel
theorem dX8_readShare_73 : decode cX8_readShare 73 = .ok (.aload_n 2, 1) := by decide +kernel
theorem dX8_readShare_74 : decode cX8_readShare 74 = .ok (.invokevirtual 73, 3) := by decide +kernel
theorem dX8_readShare_77 : decode cX8_readShare 77 = .ok (.ifCond .eq 7, 3) := by decide +kernel
theorem dX8_readShare_80 : decode cX8_readShare 80 = .ok (.iconst 1, 1) := by decide +kernel
theorem dX8_readShare_81 : decode cX8_readShare 81 = .ok (.goto 4, 3) := by decide +kernel
theorem dX8_readShare_84 : decode cX8_readShare 84 = .ok (.iconst 0, 1) := by decide +kernel
theorem dX8_readShare_85 : decode cX8_readShare 85 = .ok (.ireturn, 1) := by decide +kernel
theorem dX8_readSpan_0 : decode cX8_readSpan 0 = .ok (.aload_n 0, 1) := by decide +kernel
theorem dX8_readSpan_1 : decode cX8_readSpan 1 = .ok (.getfield 33, 3) := by decide +kernel
theorem dX8_readSpan_4 : decode cX8_readSpan 4 = .ok (.istore 4, 2) := by decide +kernel
theorem dX8_readSpan_6 : decode cX8_readSpan 6 = .ok (.aload_n 0, 1) := by decide +kernel
theorem dX8_readSpan_7 : decode cX8_readSpan 7 = .ok (.aload_n 0, 1) := by decide +kernel
theorem dX8_readSpan_8 : decode cX8_readSpan 8 = .ok (.getfield 25, 3) := by decide +kernel
theorem dX8_readSpan_11 : decode cX8_readSpan 11 = .ok (.getfield 77, 3) := by decide +kernel
theorem dX8_readSpan_14 : decode cX8_readSpan 14 = .ok (.iload_n 2, 1) := by decide +kernel
theorem dX8_readSpan_15 : decode cX8_readSpan 15 = .ok (.invokevirtual 80, 3) := by decide +kernel
theorem dX8_readSpan_18 : decode cX8_readSpan 18 = .ok (.ifCond .eq 12, 3) := by decide +kernel
theorem dX8_readSpan_21 : decode cX8_readSpan 21 = .ok (.aload_n 0, 1) := by decide +kernel
theorem dX8_readSpan_22 : decode cX8_readSpan 22 = .ok (.bipush 45, 2) := by decide +kernel
theorem dX8_readSpan_24 : decode cX8_readSpan 24 = .ok (.invokevirtual 44, 3) := by decide +kernel
theorem dX8_readSpan_27 : decode cX8_readSpan 27 = .ok (.ifCond .ne 5, 3) := by decide +kernel
theorem dX8_readSpan_30 : decode cX8_readSpan 30 = .ok (.iconst 0, 1) := by decide +kernel
theorem dX8_readSpan_31 : decode cX8_readSpan 31 = .ok (.ireturn, 1) := by decide +kernel
theorem dX8_readSpan_32 : decode cX8_readSpan 32 = .ok (.aload_n 0, 1) := by decide +kernel
theorem dX8_readSpan_33 : decode cX8_readSpan 33 = .ok (.getfield 33, 3) := by decide +kernel
theorem dX8_readSpan_36 : decode cX8_readSpan 36 = .ok (.istore 5, 2) := by decide +kernel
theorem dX8_readSpan_38 : decode cX8_readSpan 38 = .ok (.aload_n 0, 1) := by decide +kernel
theorem dX8_readSpan_39 : decode cX8_readSpan 39 = .ok (.aload_n 0, 1) := by decide +kernel
theorem dX8_readSpan_40 : decode cX8_readSpan 40 = .ok (.getfield 25, 3) := by decide +kernel
theorem dX8_readSpan_43 : decode cX8_readSpan 43 = .ok (.getfield 84, 3) := by decide +kernel
theorem dX8_readSpan_46 : decode cX8_readSpan 46 = .ok (.iload_n 2, 1) := by decide +kernel
theorem dX8_readSpan_47 : decode cX8_readSpan 47 = .ok (.invokevirtual 80, 3) := by decide +kernel
theorem dX8_readSpan_50 : decode cX8_readSpan 50 = .ok (.ifCond .ne 5, 3) := by decide +kernel
theorem dX8_readSpan_53 : decode cX8_readSpan 53 = .ok (.iconst 0, 1) := by decide +kernel
theorem dX8_readSpan_54 : decode cX8_readSpan 54 = .ok (.ireturn, 1) := by decide +kernel
theorem dX8_readSpan_55 : decode cX8_readSpan 55 = .ok (.aload_n 0, 1) := by decide +kernel
theorem dX8_readSpan_56 : decode cX8_readSpan 56 = .ok (.getfield 25, 3) := by decide +kernel
theorem dX8_readSpan_59 : decode cX8_readSpan 59 = .ok (.getfield 84, 3) := by decide +kernel
theorem dX8_readSpan_62 : decode cX8_readSpan 62 = .ok (.aload_n 0, 1) := by decide +kernel
theorem dX8_readSpan_63 : decode cX8_readSpan 63 = .ok (.getfield 25, 3) := by decide +kernel
theorem dX8_readSpan_66 : decode cX8_readSpan 66 = .ok (.getfield 77, 3) := by decide +kernel
theorem dX8_readSpan_69 : decode cX8_readSpan 69 = .ok (.invokevirtual 87, 3) := by decide +kernel
theorem dX8_readSpan_72 : decode cX8_readSpan 72 = .ok (.ifCond .eq 11, 3) := by decide +kernel
theorem dX8_readSpan_75 : decode cX8_readSpan 75 = .ok (.aload_n 0, 1) := by decide +kernel
theorem dX8_readSpan_76 : decode cX8_readSpan 76 = .ok (.iload 5, 2) := by decide +kernel
theorem dX8_readSpan_78 : decode cX8_readSpan 78 = .ok (.putfield 33, 3) := by decide +kernel
theorem dX8_readSpan_81 : decode cX8_readSpan 81 = .ok (.iconst 0, 1) := by decide +kernel
theorem dX8_readSpan_82 : decode cX8_readSpan 82 = .ok (.ireturn, 1) := by decide +kernel
theorem dX8_readSpan_83 : decode cX8_readSpan 83 = .ok (.aload_n 3, 1) := by decide +kernel
theorem dX8_readSpan_84 : decode cX8_readSpan 84 = .ok (.aload_n 0, 1) := by decide +kernel
theorem dX8_readSpan_85 : decode cX8_readSpan 85 = .ok (.getfield 25, 3) := by decide +kernel
theorem dX8_readSpan_88 : decode cX8_readSpan 88 = .ok (.invokevirtual 91, 3) := by decide +kernel
theorem dX8_readSpan_91 : decode cX8_readSpan 91 = .ok (.ifCond .eq 11, 3) := by decide +kernel
theorem dX8_readSpan_94 : decode cX8_readSpan 94 = .ok (.aload_n 0, 1) := by decide +kernel
theorem dX8_readSpan_95 : decode cX8_readSpan 95 = .ok (.iload 4, 2) := by decide +kernel
theorem dX8_readSpan_97 : decode cX8_readSpan 97 = .ok (.putfield 33, 3) := by decide +kernel
theorem dX8_readSpan_100 : decode cX8_readSpan 100 = .ok (.iconst 0, 1) := by decide +kernel
theorem dX8_readSpan_101 : decode cX8_readSpan 101 = .ok (.ireturn, 1) := by decide +kernel
theorem dX8_readSpan_102 : decode cX8_readSpan 102 = .ok (.aload_n 3, 1) := by decide +kernel
theorem dX8_readSpan_103 : decode cX8_readSpan 103 = .ok (.aload_n 0, 1) := by decide +kernel
theorem dX8_readSpan_104 : decode cX8_readSpan 104 = .ok (.getfield 25, 3) := by decide +kernel
theorem dX8_readSpan_107 : decode cX8_readSpan 107 = .ok (.getfield 77, 3) := by decide +kernel
theorem dX8_readSpan_110 : decode cX8_readSpan 110 = .ok (.invokevirtual 95, 3) := by decide +kernel
theorem dX8_readSpan_113 : decode cX8_readSpan 113 = .ok (.pop, 1) := by decide +kernel
theorem dX8_readSpan_114 : decode cX8_readSpan 114 = .ok (.aload_n 3, 1) := by decide +kernel
theorem dX8_readSpan_115 : decode cX8_readSpan 115 = .ok (.aload_n 0, 1) := by decide +kernel
theorem dX8_readSpan_116 : decode cX8_readSpan 116 = .ok (.getfield 25, 3) := by decide +kernel
theorem dX8_readSpan_119 : decode cX8_readSpan 119 = .ok (.getfield 84, 3) := by decide +kernel
theorem dX8_readSpan_122 : decode cX8_readSpan 122 = .ok (.invokevirtual 95, 3) := by decide +kernel
theorem dX8_readSpan_125 : decode cX8_readSpan 125 = .ok (.pop, 1) := by decide +kernel
theorem dX8_readSpan_126 : decode cX8_readSpan 126 = .ok (.aload_n 3, 1) := by decide +kernel
theorem dX8_readSpan_127 : decode cX8_readSpan 127 = .ok (.iload_n 1, 1) := by decide +kernel
theorem dX8_readSpan_128 : decode cX8_readSpan 128 = .ok (.aload_n 0, 1) := by decide +kernel
theorem dX8_readSpan_129 : decode cX8_readSpan 129 = .ok (.getfield 25, 3) := by decide +kernel
theorem dX8_readSpan_132 : decode cX8_readSpan 132 = .ok (.getfield 77, 3) := by decide +kernel
theorem dX8_readSpan_135 : decode cX8_readSpan 135 = .ok (.aload_n 0, 1) := by decide +kernel
theorem dX8_readSpan_136 : decode cX8_readSpan 136 = .ok (.getfield 25, 3) := by decide +kernel
theorem dX8_readSpan_139 : decode cX8_readSpan 139 = .ok (.getfield 84, 3) := by decide +kernel
theorem dX8_readSpan_142 : decode cX8_readSpan 142 = .ok (.invokevirtual 98, 3) := by decide +kernel
theorem dX8_readSpan_145 : decode cX8_readSpan 145 = .ok (.iconst 1, 1) := by decide +kernel
theorem dX8_readSpan_146 : decode cX8_readSpan 146 = .ok (.ireturn, 1) := by decide +kernel
theorem dX8_readPoint_0 : decode cX8_readPoint 0 = .ok (.aload_n 0, 1) := by decide +kernel
theorem dX8_readPoint_1 : decode cX8_readPoint 1 = .ok (.getfield 33, 3) := by decide +kernel
theorem dX8_readPoint_4 : decode cX8_readPoint 4 = .ok (.istore_n 3, 1) := by decide +kernel
theorem dX8_readPoint_5 : decode cX8_readPoint 5 = .ok (.aload_n 0, 1) := by decide +kernel
theorem dX8_readPoint_6 : decode cX8_readPoint 6 = .ok (.iconst 2, 1) := by decide +kernel
theorem dX8_readPoint_7 : decode cX8_readPoint 7 = .ok (.invokevirtual 102, 3) := by decide +kernel
theorem dX8_readPoint_10 : decode cX8_readPoint 10 = .ok (.istore 4, 2) := by decide +kernel
theorem dX8_readPoint_12 : decode cX8_readPoint 12 = .ok (.iload 4, 2) := by decide +kernel
theorem dX8_readPoint_14 : decode cX8_readPoint 14 = .ok (.ifCond .ge 5, 3) := by decide +kernel
theorem dX8_readPoint_17 : decode cX8_readPoint 17 = .ok (.iconst 0, 1) := by decide +kernel
theorem dX8_readPoint_18 : decode cX8_readPoint 18 = .ok (.ireturn, 1) := by decide +kernel
theorem dX8_readPoint_19 : decode cX8_readPoint 19 = .ok (.iconst 1, 1) := by decide +kernel
theorem dX8_readPoint_20 : decode cX8_readPoint 20 = .ok (.istore 5, 2) := by decide +kernel
theorem dX8_readPoint_22 : decode cX8_readPoint 22 = .ok (.aload_n 0, 1) := by decide +kernel
theorem dX8_readPoint_23 : decode cX8_readPoint 23 = .ok (.bipush 47, 2) := by decide +kernel
theorem dX8_readPoint_25 : decode cX8_readPoint 25 = .ok (.invokevirtual 44, 3) := by decide +kernel
theorem dX8_readPoint_28 : decode cX8_readPoint 28 = .ok (.ifCond .eq 42, 3) := by decide +kernel
theorem dX8_readPoint_31 : decode cX8_readPoint 31 = .ok (.aload_n 0, 1) := by decide +kernel
theorem dX8_readPoint_32 : decode cX8_readPoint 32 = .ok (.getfield 33, 3) := by decide +kernel
theorem dX8_readPoint_35 : decode cX8_readPoint 35 = .ok (.istore 6, 2) := by decide +kernel
theorem dX8_readPoint_37 : decode cX8_readPoint 37 = .ok (.aload_n 0, 1) := by decide +kernel
theorem dX8_readPoint_38 : decode cX8_readPoint 38 = .ok (.iconst 3, 1) := by decide +kernel
theorem dX8_readPoint_39 : decode cX8_readPoint 39 = .ok (.invokevirtual 102, 3) := by decide +kernel
theorem dX8_readPoint_42 : decode cX8_readPoint 42 = .ok (.istore 5, 2) := by decide +kernel
theorem dX8_readPoint_44 : decode cX8_readPoint 44 = .ok (.iload 5, 2) := by decide +kernel
theorem dX8_readPoint_46 : decode cX8_readPoint 46 = .ok (.iconst 1, 1) := by decide +kernel
theorem dX8_readPoint_47 : decode cX8_readPoint 47 = .ok (.if_icmp .ge 23, 3) := by decide +kernel
theorem dX8_readPoint_50 : decode cX8_readPoint 50 = .ok (.aload_n 0, 1) := by decide +kernel
theorem dX8_readPoint_51 : decode cX8_readPoint 51 = .ok (.iload 5, 2) := by decide +kernel
theorem dX8_readPoint_53 : decode cX8_readPoint 53 = .ok (.ifCond .ge 10, 3) := by decide +kernel
theorem dX8_readPoint_56 : decode cX8_readPoint 56 = .ok (.aload_n 0, 1) := by decide +kernel
theorem dX8_readPoint_57 : decode cX8_readPoint 57 = .ok (.getfield 33, 3) := by decide +kernel
theorem dX8_readPoint_60 : decode cX8_readPoint 60 = .ok (.goto 5, 3) := by decide +kernel
theorem dX8_readPoint_63 : decode cX8_readPoint 63 = .ok (.iload 6, 2) := by decide +kernel
theorem dX8_readPoint_65 : decode cX8_readPoint 65 = .ok (.putfield 33, 3) := by decide +kernel
theorem dX8_readPoint_68 : decode cX8_readPoint 68 = .ok (.iconst 0, 1) := by decide +kernel
theorem dX8_readPoint_69 : decode cX8_readPoint 69 = .ok (.ireturn, 1) := by decide +kernel
theorem dX8_readPoint_70 : decode cX8_readPoint 70 = .ok (.iload 4, 2) := by decide +kernel
theorem dX8_readPoint_72 : decode cX8_readPoint 72 = .ok (.iload_n 2, 1) := by decide +kernel
theorem dX8_readPoint_73 : decode cX8_readPoint 73 = .ok (.iload 5, 2) := by decide +kernel
theorem dX8_readPoint_75 : decode cX8_readPoint 75 = .ok (.imul, 1) := by decide +kernel
theorem dX8_readPoint_76 : decode cX8_readPoint 76 = .ok (.if_icmp .le 10, 3) := by decide +kernel
theorem dX8_readPoint_79 : decode cX8_readPoint 79 = .ok (.aload_n 0, 1) := by decide +kernel
theorem dX8_readPoint_80 : decode cX8_readPoint 80 = .ok (.iload_n 3, 1) := by decide +kernel
theorem dX8_readPoint_81 : decode cX8_readPoint 81 = .ok (.putfield 33, 3) := by decide +kernel
theorem dX8_readPoint_84 : decode cX8_readPoint 84 = .ok (.iconst 0, 1) := by decide +kernel
theorem dX8_readPoint_85 : decode cX8_readPoint 85 = .ok (.ireturn, 1) := by decide +kernel
theorem dX8_readPoint_86 : decode cX8_readPoint 86 = .ok (.aload_n 1, 1) := by decide +kernel
theorem dX8_readPoint_87 : decode cX8_readPoint 87 = .ok (.iload 4, 2) := by decide +kernel
theorem dX8_readPoint_89 : decode cX8_readPoint 89 = .ok (.i2l, 1) := by decide +kernel
theorem dX8_readPoint_90 : decode cX8_readPoint 90 = .ok (.iload 5, 2) := by decide +kernel
theorem dX8_readPoint_92 : decode cX8_readPoint 92 = .ok (.i2l, 1) := by decide +kernel
theorem dX8_readPoint_93 : decode cX8_readPoint 93 = .ok (.invokevirtual 106, 3) := by decide +kernel
theorem dX8_readPoint_96 : decode cX8_readPoint 96 = .ok (.iconst 1, 1) := by decide +kernel
theorem dX8_readPoint_97 : decode cX8_readPoint 97 = .ok (.ireturn, 1) := by decide +kernel
theorem dX8_readNumber_0 : decode cX8_readNumber 0 = .ok (.aload_n 0, 1) := by decide +kernel
theorem dX8_readNumber_1 : decode cX8_readNumber 1 = .ok (.invokevirtual 48, 3) := by decide +kernel
theorem dX8_readNumber_4 : decode cX8_readNumber 4 = .ok (.istore_n 2, 1) := by decide +kernel
theorem dX8_readNumber_5 : decode cX8_readNumber 5 = .ok (.iload_n 2, 1) := by decide +kernel
theorem dX8_readNumber_6 : decode cX8_readNumber 6 = .ok (.ifCond .ge 5, 3) := by decide +kernel
theorem dX8_readNumber_9 : decode cX8_readNumber 9 = .ok (.iconst (-1), 1) := by decide +kernel
theorem dX8_readNumber_10 : decode cX8_readNumber 10 = .ok (.ireturn, 1) := by decide +kernel
theorem dX8_readNumber_11 : decode cX8_readNumber 11 = .ok (.aload_n 0, 1) := by decide +kernel
theorem dX8_readNumber_12 : decode cX8_readNumber 12 = .ok (.dup, 1) := by decide +kernel
theorem dX8_readNumber_13 : decode cX8_readNumber 13 = .ok (.getfield 33, 3) := by decide +kernel
theorem dX8_readNumber_16 : decode cX8_readNumber 16 = .ok (.iconst 1, 1) := by decide +kernel
theorem dX8_readNumber_17 : decode cX8_readNumber 17 = .ok (.iadd, 1) := by decide +kernel
theorem dX8_readNumber_18 : decode cX8_readNumber 18 = .ok (.putfield 33, 3) := by decide +kernel
theorem dX8_readNumber_21 : decode cX8_readNumber 21 = .ok (.iconst 1, 1) := by decide +kernel
theorem dX8_readNumber_22 : decode cX8_readNumber 22 = .ok (.istore_n 3, 1) := by decide +kernel
theorem dX8_readNumber_23 : decode cX8_readNumber 23 = .ok (.iload_n 3, 1) := by decide +kernel
theorem dX8_readNumber_24 : decode cX8_readNumber 24 = .ok (.iload_n 1, 1) := by decide +kernel
theorem dX8_readNumber_25 : decode cX8_readNumber 25 = .ok (.if_icmp .ge 36, 3) := by decide +kernel
theorem dX8_readNumber_28 : decode cX8_readNumber 28 = .ok (.aload_n 0, 1) := by decide +kernel
theorem dX8_readNumber_29 : decode cX8_readNumber 29 = .ok (.invokevirtual 48, 3) := by decide +kernel
theorem dX8_readNumber_32 : decode cX8_readNumber 32 = .ok (.ifCond .lt 29, 3) := by decide +kernel
theorem dX8_readNumber_35 : decode cX8_readNumber 35 = .ok (.iload_n 2, 1) := by decide +kernel
theorem dX8_readNumber_36 : decode cX8_readNumber 36 = .ok (.bipush 10, 2) := by decide +kernel
theorem dX8_readNumber_38 : decode cX8_readNumber 38 = .ok (.imul, 1) := by decide +kernel
theorem dX8_readNumber_39 : decode cX8_readNumber 39 = .ok (.aload_n 0, 1) := by decide +kernel
theorem dX8_readNumber_40 : decode cX8_readNumber 40 = .ok (.invokevirtual 48, 3) := by decide +kernel
theorem dX8_readNumber_43 : decode cX8_readNumber 43 = .ok (.iadd, 1) := by decide +kernel
theorem dX8_readNumber_44 : decode cX8_readNumber 44 = .ok (.istore_n 2, 1) := by decide +kernel
theorem dX8_readNumber_45 : decode cX8_readNumber 45 = .ok (.aload_n 0, 1) := by decide +kernel
theorem dX8_readNumber_46 : decode cX8_readNumber 46 = .ok (.dup, 1) := by decide +kernel
theorem dX8_readNumber_47 : decode cX8_readNumber 47 = .ok (.getfield 33, 3) := by decide +kernel
theorem dX8_readNumber_50 : decode cX8_readNumber 50 = .ok (.iconst 1, 1) := by decide +kernel
theorem dX8_readNumber_51 : decode cX8_readNumber 51 = .ok (.iadd, 1) := by decide +kernel
theorem dX8_readNumber_52 : decode cX8_readNumber 52 = .ok (.putfield 33, 3) := by decide +kernel
theorem dX8_readNumber_55 : decode cX8_readNumber 55 = .ok (.iinc 3 1, 3) := by decide +kernel
theorem dX8_readNumber_58 : decode cX8_readNumber 58 = .ok (.goto (-35), 3) := by decide +kernel
theorem dX8_readNumber_61 : decode cX8_readNumber 61 = .ok (.iload_n 2, 1) := by decide +kernel
theorem dX8_readNumber_62 : decode cX8_readNumber 62 = .ok (.ireturn, 1) := by decide +kernel
theorem dX9_init_0 : decode cX9_init 0 = .ok (.aload_n 0, 1) := by decide +kernel
theorem dX9_init_1 : decode cX9_init 1 = .ok (.invokespecial 3, 3) := by decide +kernel
theorem dX9_init_4 : decode cX9_init 4 = .ok (.aload_n 0, 1) := by decide +kernel
theorem dX9_init_5 : decode cX9_init 5 = .ok (.new 9, 3) := by decide +kernel
theorem dX9_init_8 : decode cX9_init 8 = .ok (.dup, 1) := by decide +kernel
theorem dX9_init_9 : decode cX9_init 9 = .ok (.invokespecial 11, 3) := by decide +kernel
theorem dX9_init_12 : decode cX9_init 12 = .ok (.putfield 12, 3) := by decide +kernel
theorem dX9_init_15 : decode cX9_init 15 = .ok (.aload_n 0, 1) := by decide +kernel
theorem dX9_init_16 : decode cX9_init 16 = .ok (.new 9, 3) := by decide +kernel
theorem dX9_init_19 : decode cX9_init 19 = .ok (.dup, 1) := by decide +kernel
theorem dX9_init_20 : decode cX9_init 20 = .ok (.invokespecial 11, 3) := by decide +kernel
theorem dX9_init_23 : decode cX9_init 23 = .ok (.putfield 18, 3) := by decide +kernel
theorem dX9_init_26 : decode cX9_init 26 = .ok (.aload_n 0, 1) := by decide +kernel
theorem dX9_init_27 : decode cX9_init 27 = .ok (.new 9, 3) := by decide +kernel
theorem dX9_init_30 : decode cX9_init 30 = .ok (.dup, 1) := by decide +kernel
theorem dX9_init_31 : decode cX9_init 31 = .ok (.invokespecial 11, 3) := by decide +kernel
theorem dX9_init_34 : decode cX9_init 34 = .ok (.putfield 21, 3) := by decide +kernel
theorem dX9_init_37 : decode cX9_init 37 = .ok (.aload_n 0, 1) := by decide +kernel
theorem dX9_init_38 : decode cX9_init 38 = .ok (.new 24, 3) := by decide +kernel
theorem dX9_init_41 : decode cX9_init 41 = .ok (.dup, 1) := by decide +kernel
theorem dX9_init_42 : decode cX9_init 42 = .ok (.invokespecial 26, 3) := by decide +kernel
theorem dX9_init_45 : decode cX9_init 45 = .ok (.putfield 27, 3) := by decide +kernel
theorem dX9_init_48 : decode cX9_init 48 = .ok (.aload_n 0, 1) := by decide +kernel
theorem dX9_init_49 : decode cX9_init 49 = .ok (.new 24, 3) := by decide +kernel
theorem dX9_init_52 : decode cX9_init 52 = .ok (.dup, 1) := by decide +kernel
theorem dX9_init_53 : decode cX9_init 53 = .ok (.invokespecial 26, 3) := by decide +kernel
theorem dX9_init_56 : decode cX9_init 56 = .ok (.putfield 31, 3) := by decide +kernel
theorem dX9_init_59 : decode cX9_init 59 = .ok (.aload_n 0, 1) := by decide +kernel
theorem dX9_init_60 : decode cX9_init 60 = .ok (.new 24, 3) := by decide +kernel
theorem dX9_init_63 : decode cX9_init 63 = .ok (.dup, 1) := by decide +kernel
theorem dX9_init_64 : decode cX9_init 64 = .ok (.invokespecial 26, 3) := by decide +kernel
theorem dX9_init_67 : decode cX9_init 67 = .ok (.putfield 34, 3) := by decide +kernel
theorem dX9_init_70 : decode cX9_init 70 = .ok (.aload_n 0, 1) := by decide +kernel
theorem dX9_init_71 : decode cX9_init 71 = .ok (.new 37, 3) := by decide +kernel
theorem dX9_init_74 : decode cX9_init 74 = .ok (.dup, 1) := by decide +kernel
theorem dX9_init_75 : decode cX9_init 75 = .ok (.aload_n 0, 1) := by decide +kernel
theorem dX9_init_76 : decode cX9_init 76 = .ok (.getfield 12, 3) := by decide +kernel
theorem dX9_init_79 : decode cX9_init 79 = .ok (.aload_n 0, 1) := by decide +kernel
theorem dX9_init_80 : decode cX9_init 80 = .ok (.getfield 31, 3) := by decide +kernel
theorem dX9_init_83 : decode cX9_init 83 = .ok (.invokespecial 39, 3) := by decide +kernel
theorem dX9_init_86 : decode cX9_init 86 = .ok (.putfield 42, 3) := by decide +kernel
theorem dX9_init_89 : decode cX9_init 89 = .ok (.aload_n 0, 1) := by decide +kernel
theorem dX9_init_90 : decode cX9_init 90 = .ok (.new 46, 3) := by decide +kernel
theorem dX9_init_93 : decode cX9_init 93 = .ok (.dup, 1) := by decide +kernel
theorem dX9_init_94 : decode cX9_init 94 = .ok (.invokespecial 48, 3) := by decide +kernel
theorem dX9_init_97 : decode cX9_init 97 = .ok (.putfield 49, 3) := by decide +kernel
theorem dX9_init_100 : decode cX9_init 100 = .ok (.aload_n 0, 1) := by decide +kernel
theorem dX9_init_101 : decode cX9_init 101 = .ok (.new 53, 3) := by decide +kernel
theorem dX9_init_104 : decode cX9_init 104 = .ok (.dup, 1) := by decide +kernel
theorem dX9_init_105 : decode cX9_init 105 = .ok (.invokespecial 55, 3) := by decide +kernel
theorem dX9_init_108 : decode cX9_init 108 = .ok (.putfield 56, 3) := by decide +kernel
theorem dX9_init_111 : decode cX9_init 111 = .ok (.aload_n 0, 1) := by decide +kernel
theorem dX9_init_112 : decode cX9_init 112 = .ok (.new 60, 3) := by decide +kernel
theorem dX9_init_115 : decode cX9_init 115 = .ok (.dup, 1) := by decide +kernel
theorem dX9_init_116 : decode cX9_init 116 = .ok (.invokespecial 62, 3) := by decide +kernel
theorem dX9_init_119 : decode cX9_init 119 = .ok (.putfield 63, 3) := by decide +kernel
theorem dX9_init_122 : decode cX9_init 122 = .ok (.aload_n 0, 1) := by decide +kernel
theorem dX9_init_123 : decode cX9_init 123 = .ok (.new 67, 3) := by decide +kernel
theorem dX9_init_126 : decode cX9_init 126 = .ok (.dup, 1) := by decide +kernel
theorem dX9_init_127 : decode cX9_init 127 = .ok (.invokespecial 69, 3) := by decide +kernel
theorem dX9_init_130 : decode cX9_init 130 = .ok (.putfield 70, 3) := by decide +kernel
theorem dX9_init_133 : decode cX9_init 133 = .ok (.aload_n 0, 1) := by decide +kernel
theorem dX9_init_134 : decode cX9_init 134 = .ok (.new 67, 3) := by decide +kernel
theorem dX9_init_137 : decode cX9_init 137 = .ok (.dup, 1) := by decide +kernel
theorem dX9_init_138 : decode cX9_init 138 = .ok (.invokespecial 69, 3) := by decide +kernel
theorem dX9_init_141 : decode cX9_init 141 = .ok (.putfield 74, 3) := by decide +kernel
theorem dX9_init_144 : decode cX9_init 144 = .ok (.aload_n 0, 1) := by decide +kernel
theorem dX9_init_145 : decode cX9_init 145 = .ok (.new 77, 3) := by decide +kernel
theorem dX9_init_148 : decode cX9_init 148 = .ok (.dup, 1) := by decide +kernel
theorem dX9_init_149 : decode cX9_init 149 = .ok (.invokespecial 79, 3) := by decide +kernel
theorem dX9_init_152 : decode cX9_init 152 = .ok (.putfield 80, 3) := by decide +kernel
theorem dX9_init_155 : decode cX9_init 155 = .ok (.return_, 1) := by decide +kernel
theorem dX9_begin_0 : decode cX9_begin 0 = .ok (.iload_n 1, 1) := by decide +kernel
theorem dX9_begin_1 : decode cX9_begin 1 = .ok (.iconst 2, 1) := by decide +kernel
theorem dX9_begin_2 : decode cX9_begin 2 = .ok (.if_icmp .lt 19, 3) := by decide +kernel
theorem dX9_begin_5 : decode cX9_begin 5 = .ok (.iload_n 1, 1) := by decide +kernel
theorem dX9_begin_6 : decode cX9_begin 6 = .ok (.bipush 16, 2) := by decide +kernel
theorem dX9_begin_8 : decode cX9_begin 8 = .ok (.if_icmp .gt 13, 3) := by decide +kernel
theorem dX9_begin_11 : decode cX9_begin 11 = .ok (.iload_n 2, 1) := by decide +kernel
theorem dX9_begin_12 : decode cX9_begin 12 = .ok (.iconst 2, 1) := by decide +kernel
theorem dX9_begin_13 : decode cX9_begin 13 = .ok (.if_icmp .lt 8, 3) := by decide +kernel
theorem dX9_begin_16 : decode cX9_begin 16 = .ok (.iload_n 2, 1) := by decide +kernel
theorem dX9_begin_17 : decode cX9_begin 17 = .ok (.iconst 5, 1) := by decide +kernel
theorem dX9_begin_18 : decode cX9_begin 18 = .ok (.if_icmp .le 5, 3) := by decide +kernel
theorem dX9_begin_21 : decode cX9_begin 21 = .ok (.iconst (-1), 1) := by decide +kernel
theorem dX9_begin_22 : decode cX9_begin 22 = .ok (.ireturn, 1) := by decide +kernel
theorem dX9_begin_23 : decode cX9_begin 23 = .ok (.aload_n 0, 1) := by decide +kernel
theorem dX9_begin_24 : decode cX9_begin 24 = .ok (.getfield 12, 3) := by decide +kernel
theorem dX9_begin_27 : decode cX9_begin 27 = .ok (.getfield 84, 3) := by decide +kernel
theorem dX9_begin_30 : decode cX9_begin 30 = .ok (.istore_n 3, 1) := by decide +kernel
theorem dX9_begin_31 : decode cX9_begin 31 = .ok (.aload_n 0, 1) := by decide +kernel
theorem dX9_begin_32 : decode cX9_begin 32 = .ok (.getfield 12, 3) := by decide +kernel
theorem dX9_begin_35 : decode cX9_begin 35 = .ok (.iload_n 1, 1) := by decide +kernel
theorem dX9_begin_36 : decode cX9_begin 36 = .ok (.iload_n 2, 1) := by decide +kernel
theorem dX9_begin_37 : decode cX9_begin 37 = .ok (.invokevirtual 88, 3) := by decide +kernel
theorem dX9_begin_40 : decode cX9_begin 40 = .ok (.aload_n 0, 1) := by decide +kernel
theorem dX9_begin_41 : decode cX9_begin 41 = .ok (.getfield 27, 3) := by decide +kernel
theorem dX9_begin_44 : decode cX9_begin 44 = .ok (.invokevirtual 92, 3) := by decide +kernel
theorem dX9_begin_47 : decode cX9_begin 47 = .ok (.iload_n 3, 1) := by decide +kernel
theorem dX9_begin_48 : decode cX9_begin 48 = .ok (.ireturn, 1) := by decide +kernel
theorem dX9_worth_0 : decode cX9_worth 0 = .ok (.aload_n 0, 1) := by decide +kernel
theorem dX9_worth_1 : decode cX9_worth 1 = .ok (.getfield 12, 3) := by decide +kernel
theorem dX9_worth_4 : decode cX9_worth 4 = .ok (.iload_n 1, 1) := by decide +kernel
theorem dX9_worth_5 : decode cX9_worth 5 = .ok (.invokevirtual 95, 3) := by decide +kernel
theorem dX9_worth_8 : decode cX9_worth 8 = .ok (.ifCond .eq 21, 3) := by decide +kernel
theorem dX9_worth_11 : decode cX9_worth 11 = .ok (.aload_n 0, 1) := by decide +kernel
theorem dX9_worth_12 : decode cX9_worth 12 = .ok (.getfield 12, 3) := by decide +kernel
theorem dX9_worth_15 : decode cX9_worth 15 = .ok (.iload_n 2, 1) := by decide +kernel
theorem dX9_worth_16 : decode cX9_worth 16 = .ok (.invokevirtual 99, 3) := by decide +kernel
theorem dX9_worth_19 : decode cX9_worth 19 = .ok (.ifCond .eq 10, 3) := by decide +kernel
theorem dX9_worth_22 : decode cX9_worth 22 = .ok (.iload_n 3, 1) := by decide +kernel
theorem dX9_worth_23 : decode cX9_worth 23 = .ok (.invokestatic 102, 3) := by decide +kernel
theorem dX9_worth_26 : decode cX9_worth 26 = .ok (.ifCond .ne 5, 3) := by decide +kernel
theorem dX9_worth_29 : decode cX9_worth 29 = .ok (.iconst (-1), 1) := by decide +kernel
theorem dX9_worth_30 : decode cX9_worth 30 = .ok (.ireturn, 1) := by decide +kernel
theorem dX9_worth_31 : decode cX9_worth 31 = .ok (.aload_n 0, 1) := by decide +kernel
theorem dX9_worth_32 : decode cX9_worth 32 = .ok (.getfield 12, 3) := by decide +kernel
theorem dX9_worth_35 : decode cX9_worth 35 = .ok (.getfield 105, 3) := by decide +kernel
theorem dX9_worth_38 : decode cX9_worth 38 = .ok (.iload_n 1, 1) := by decide +kernel
theorem dX9_worth_39 : decode cX9_worth 39 = .ok (.aaload, 1) := by decide +kernel
theorem dX9_worth_40 : decode cX9_worth 40 = .ok (.iload_n 2, 1) := by decide +kernel
theorem dX9_worth_41 : decode cX9_worth 41 = .ok (.iaload, 1) := by decide +kernel
theorem dX9_worth_42 : decode cX9_worth 42 = .ok (.istore 4, 2) := by decide +kernel
theorem dX9_worth_44 : decode cX9_worth 44 = .ok (.aload_n 0, 1) := by decide +kernel
theorem dX9_worth_45 : decode cX9_worth 45 = .ok (.getfield 12, 3) := by decide +kernel
theorem dX9_worth_48 : decode cX9_worth 48 = .ok (.getfield 105, 3) := by decide +kernel
theorem dX9_worth_51 : decode cX9_worth 51 = .ok (.iload_n 1, 1) := by decide +kernel
theorem dX9_worth_52 : decode cX9_worth 52 = .ok (.aaload, 1) := by decide +kernel
theorem dX9_worth_53 : decode cX9_worth 53 = .ok (.iload_n 2, 1) := by decide +kernel
theorem dX9_worth_54 : decode cX9_worth 54 = .ok (.iload_n 3, 1) := by decide +kernel
theorem dX9_worth_55 : decode cX9_worth 55 = .ok (.iastore, 1) := by decide +kernel
theorem dX9_worth_56 : decode cX9_worth 56 = .ok (.aload_n 0, 1) := by decide +kernel
theorem dX9_worth_57 : decode cX9_worth 57 = .ok (.getfield 12, 3) := by decide +kernel
theorem dX9_worth_60 : decode cX9_worth 60 = .ok (.getfield 109, 3) := by decide +kernel
theorem dX9_worth_63 : decode cX9_worth 63 = .ok (.iload_n 1, 1) := by decide +kernel
theorem dX9_worth_64 : decode cX9_worth 64 = .ok (.aaload, 1) := by decide +kernel
theorem dX9_worth_65 : decode cX9_worth 65 = .ok (.iload_n 2, 1) := by decide +kernel
theorem dX9_worth_66 : decode cX9_worth 66 = .ok (.iload_n 3, 1) := by decide +kernel
theorem dX9_worth_67 : decode cX9_worth 67 = .ok (.iastore, 1) := by decide +kernel
theorem dX9_worth_68 : decode cX9_worth 68 = .ok (.iload 4, 2) := by decide +kernel
theorem dX9_worth_70 : decode cX9_worth 70 = .ok (.ireturn, 1) := by decide +kernel
theorem dX9_tells_0 : decode cX9_tells 0 = .ok (.aload_n 0, 1) := by decide +kernel
theorem dX9_tells_1 : decode cX9_tells 1 = .ok (.getfield 12, 3) := by decide +kernel
theorem dX9_tells_4 : decode cX9_tells 4 = .ok (.iload_n 1, 1) := by decide +kernel
theorem dX9_tells_5 : decode cX9_tells 5 = .ok (.invokevirtual 95, 3) := by decide +kernel
theorem dX9_tells_8 : decode cX9_tells 8 = .ok (.ifCond .eq 21, 3) := by decide +kernel
theorem dX9_tells_11 : decode cX9_tells 11 = .ok (.aload_n 0, 1) := by decide +kernel
theorem dX9_tells_12 : decode cX9_tells 12 = .ok (.getfield 12, 3) := by decide +kernel
theorem dX9_tells_15 : decode cX9_tells 15 = .ok (.iload_n 2, 1) := by decide +kernel
theorem dX9_tells_16 : decode cX9_tells 16 = .ok (.invokevirtual 99, 3) := by decide +kernel
theorem dX9_tells_19 : decode cX9_tells 19 = .ok (.ifCond .eq 10, 3) := by decide +kernel
theorem dX9_tells_22 : decode cX9_tells 22 = .ok (.iload_n 3, 1) := by decide +kernel
theorem dX9_tells_23 : decode cX9_tells 23 = .ok (.invokestatic 102, 3) := by decide +kernel
theorem dX9_tells_26 : decode cX9_tells 26 = .ok (.ifCond .ne 5, 3) := by decide +kernel
theorem dX9_tells_29 : decode cX9_tells 29 = .ok (.iconst (-1), 1) := by decide +kernel
theorem dX9_tells_30 : decode cX9_tells 30 = .ok (.ireturn, 1) := by decide +kernel
theorem dX9_tells_31 : decode cX9_tells 31 = .ok (.aload_n 0, 1) := by decide +kernel
theorem dX9_tells_32 : decode cX9_tells 32 = .ok (.getfield 12, 3) := by decide +kernel
theorem dX9_tells_35 : decode cX9_tells 35 = .ok (.getfield 109, 3) := by decide +kernel
theorem dX9_tells_38 : decode cX9_tells 38 = .ok (.iload_n 1, 1) := by decide +kernel
theorem dX9_tells_39 : decode cX9_tells 39 = .ok (.aaload, 1) := by decide +kernel
theorem dX9_tells_40 : decode cX9_tells 40 = .ok (.iload_n 2, 1) := by decide +kernel
theorem dX9_tells_41 : decode cX9_tells 41 = .ok (.iaload, 1) := by decide +kernel
theorem dX9_tells_42 : decode cX9_tells 42 = .ok (.istore 4, 2) := by decide +kernel
theorem dX9_tells_44 : decode cX9_tells 44 = .ok (.aload_n 0, 1) := by decide +kernel
theorem dX9_tells_45 : decode cX9_tells 45 = .ok (.getfield 12, 3) := by decide +kernel
theorem dX9_tells_48 : decode cX9_tells 48 = .ok (.getfield 109, 3) := by decide +kernel
theorem dX9_tells_51 : decode cX9_tells 51 = .ok (.iload_n 1, 1) := by decide +kernel
theorem dX9_tells_52 : decode cX9_tells 52 = .ok (.aaload, 1) := by decide +kernel
theorem dX9_tells_53 : decode cX9_tells 53 = .ok (.iload_n 2, 1) := by decide +kernel
theorem dX9_tells_54 : decode cX9_tells 54 = .ok (.iload_n 3, 1) := by decide +kernel
theorem dX9_tells_55 : decode cX9_tells 55 = .ok (.iastore, 1) := by decide +kernel
theorem dX9_tells_56 : decode cX9_tells 56 = .ok (.iload 4, 2) := by decide +kernel
theorem dX9_tells_58 : decode cX9_tells 58 = .ok (.ireturn, 1) := by decide +kernel
theorem dX9_honest_0 : decode cX9_honest 0 = .ok (.aload_n 0, 1) := by decide +kernel
theorem dX9_honest_1 : decode cX9_honest 1 = .ok (.getfield 12, 3) := by decide +kernel
theorem dX9_honest_4 : decode cX9_honest 4 = .ok (.iload_n 1, 1) := by decide +kernel
theorem dX9_honest_5 : decode cX9_honest 5 = .ok (.invokevirtual 95, 3) := by decide +kernel
theorem dX9_honest_8 : decode cX9_honest 8 = .ok (.ifCond .ne 5, 3) := by decide +kernel
theorem dX9_honest_11 : decode cX9_honest 11 = .ok (.iconst (-1), 1) := by decide +kernel
theorem dX9_honest_12 : decode cX9_honest 12 = .ok (.ireturn, 1) := by decide +kernel
theorem dX9_honest_13 : decode cX9_honest 13 = .ok (.iconst 0, 1) := by decide +kernel
theorem dX9_honest_14 : decode cX9_honest 14 = .ok (.istore_n 2, 1) := by decide +kernel
theorem dX9_honest_15 : decode cX9_honest 15 = .ok (.iconst 0, 1) := by decide +kernel
theorem dX9_honest_16 : decode cX9_honest 16 = .ok (.istore_n 3, 1) := by decide +kernel
theorem dX9_honest_17 : decode cX9_honest 17 = .ok (.iload_n 3, 1) := by decide +kernel
theorem dX9_honest_18 : decode cX9_honest 18 = .ok (.aload_n 0, 1) := by decide +kernel
theorem dX9_honest_19 : decode cX9_honest 19 = .ok (.getfield 12, 3) := by decide +kernel
theorem dX9_honest_22 : decode cX9_honest 22 = .ok (.getfield 112, 3) := by decide +kernel
theorem dX9_honest_25 : decode cX9_honest 25 = .ok (.if_icmp .ge 59, 3) := by decide +kernel
theorem dX9_honest_28 : decode cX9_honest 28 = .ok (.aload_n 0, 1) := by decide +kernel
theorem dX9_honest_29 : decode cX9_honest 29 = .ok (.getfield 12, 3) := by decide +kernel
theorem dX9_honest_32 : decode cX9_honest 32 = .ok (.getfield 109, 3) := by decide +kernel
theorem dX9_honest_35 : decode cX9_honest 35 = .ok (.iload_n 1, 1) := by decide +kernel
theorem dX9_honest_36 : decode cX9_honest 36 = .ok (.aaload, 1) := by decide +kernel
theorem dX9_honest_37 : decode cX9_honest 37 = .ok (.iload_n 3, 1) := by decide +kernel
theorem dX9_honest_38 : decode cX9_honest 38 = .ok (.iaload, 1) := by decide +kernel
theorem dX9_honest_39 : decode cX9_honest 39 = .ok (.aload_n 0, 1) := by decide +kernel
theorem dX9_honest_40 : decode cX9_honest 40 = .ok (.getfield 12, 3) := by decide +kernel
theorem dX9_honest_43 : decode cX9_honest 43 = .ok (.getfield 105, 3) := by decide +kernel
theorem dX9_honest_46 : decode cX9_honest 46 = .ok (.iload_n 1, 1) := by decide +kernel
theorem dX9_honest_47 : decode cX9_honest 47 = .ok (.aaload, 1) := by decide +kernel
theorem dX9_honest_48 : decode cX9_honest 48 = .ok (.iload_n 3, 1) := by decide +kernel
theorem dX9_honest_49 : decode cX9_honest 49 = .ok (.iaload, 1) := by decide +kernel
theorem dX9_honest_50 : decode cX9_honest 50 = .ok (.if_icmp .eq 28, 3) := by decide +kernel
theorem dX9_honest_53 : decode cX9_honest 53 = .ok (.aload_n 0, 1) := by decide +kernel
theorem dX9_honest_54 : decode cX9_honest 54 = .ok (.getfield 12, 3) := by decide +kernel
theorem dX9_honest_57 : decode cX9_honest 57 = .ok (.getfield 109, 3) := by decide +kernel
theorem dX9_honest_60 : decode cX9_honest 60 = .ok (.iload_n 1, 1) := by decide +kernel
theorem dX9_honest_61 : decode cX9_honest 61 = .ok (.aaload, 1) := by decide +kernel
theorem dX9_honest_62 : decode cX9_honest 62 = .ok (.iload_n 3, 1) := by decide +kernel
theorem dX9_honest_63 : decode cX9_honest 63 = .ok (.aload_n 0, 1) := by decide +kernel
theorem dX9_honest_64 : decode cX9_honest 64 = .ok (.getfield 12, 3) := by decide +kernel
theorem dX9_honest_67 : decode cX9_honest 67 = .ok (.getfield 105, 3) := by decide +kernel
theorem dX9_honest_70 : decode cX9_honest 70 = .ok (.iload_n 1, 1) := by decide +kernel
theorem dX9_honest_71 : decode cX9_honest 71 = .ok (.aaload, 1) := by decide +kernel
theorem dX9_honest_72 : decode cX9_honest 72 = .ok (.iload_n 3, 1) := by decide +kernel
theorem dX9_honest_73 : decode cX9_honest 73 = .ok (.iaload, 1) := by decide +kernel
theorem dX9_honest_74 : decode cX9_honest 74 = .ok (.iastore, 1) := by decide +kernel
theorem dX9_honest_75 : decode cX9_honest 75 = .ok (.iinc 2 1, 3) := by decide +kernel
theorem dX9_honest_78 : decode cX9_honest 78 = .ok (.iinc 3 1, 3) := by decide +kernel
theorem dX9_honest_81 : decode cX9_honest 81 = .ok (.goto (-64), 3) := by decide +kernel
theorem dX9_honest_84 : decode cX9_honest 84 = .ok (.iload_n 2, 1) := by decide +kernel
theorem dX9_honest_85 : decode cX9_honest 85 = .ok (.ireturn, 1) := by decide +kernel
theorem dX9_strip_0 : decode cX9_strip 0 = .ok (.aload_n 0, 1) := by decide +kernel
theorem dX9_strip_1 : decode cX9_strip 1 = .ok (.getfield 12, 3) := by decide +kernel
theorem dX9_strip_4 : decode cX9_strip 4 = .ok (.iload_n 1, 1) := by decide +kernel
theorem dX9_strip_5 : decode cX9_strip 5 = .ok (.invokevirtual 95, 3) := by decide +kernel
theorem dX9_strip_8 : decode cX9_strip 8 = .ok (.ifCond .eq 21, 3) := by decide +kernel
theorem dX9_strip_11 : decode cX9_strip 11 = .ok (.aload_n 0, 1) := by decide +kernel
theorem dX9_strip_12 : decode cX9_strip 12 = .ok (.getfield 12, 3) := by decide +kernel
theorem dX9_strip_15 : decode cX9_strip 15 = .ok (.iload_n 2, 1) := by decide +kernel
theorem dX9_strip_16 : decode cX9_strip 16 = .ok (.invokevirtual 99, 3) := by decide +kernel
theorem dX9_strip_19 : decode cX9_strip 19 = .ok (.ifCond .eq 10, 3) := by decide +kernel
theorem dX9_strip_22 : decode cX9_strip 22 = .ok (.iload_n 3, 1) := by decide +kernel
theorem dX9_strip_23 : decode cX9_strip 23 = .ok (.invokestatic 115, 3) := by decide +kernel
theorem dX9_strip_26 : decode cX9_strip 26 = .ok (.ifCond .ne 5, 3) := by decide +kernel
theorem dX9_strip_29 : decode cX9_strip 29 = .ok (.iconst (-1), 1) := by decide +kernel
theorem dX9_strip_30 : decode cX9_strip 30 = .ok (.ireturn, 1) := by decide +kernel
theorem dX9_strip_31 : decode cX9_strip 31 = .ok (.aload_n 0, 1) := by decide +kernel
theorem dX9_strip_32 : decode cX9_strip 32 = .ok (.getfield 12, 3) := by decide +kernel
theorem dX9_strip_35 : decode cX9_strip 35 = .ok (.iload_n 1, 1) := by decide +kernel
theorem dX9_strip_36 : decode cX9_strip 36 = .ok (.iload_n 3, 1) := by decide +kernel
theorem dX9_strip_37 : decode cX9_strip 37 = .ok (.invokevirtual 118, 3) := by decide +kernel
theorem dX9_strip_40 : decode cX9_strip 40 = .ok (.iload_n 2, 1) := by decide +kernel
theorem dX9_strip_41 : decode cX9_strip 41 = .ok (.iaload, 1) := by decide +kernel
theorem dX9_strip_42 : decode cX9_strip 42 = .ok (.ireturn, 1) := by decide +kernel
theorem dX9_span_0 : decode cX9_span 0 = .ok (.aload_n 0, 1) := by decide +kernel
theorem dX9_span_1 : decode cX9_span 1 = .ok (.getfield 12, 3) := by decide +kernel
theorem dX9_span_4 : decode cX9_span 4 = .ok (.iload_n 1, 1) := by decide +kernel
theorem dX9_span_5 : decode cX9_span 5 = .ok (.invokevirtual 95, 3) := by decide +kernel
theorem dX9_span_8 : decode cX9_span 8 = .ok (.ifCond .eq 39, 3) := by decide +kernel
theorem dX9_span_11 : decode cX9_span 11 = .ok (.iload_n 2, 1) := by decide +kernel
theorem dX9_span_12 : decode cX9_span 12 = .ok (.invokestatic 115, 3) := by decide +kernel
theorem dX9_span_15 : decode cX9_span 15 = .ok (.ifCond .eq 32, 3) := by decide +kernel
theorem dX9_span_18 : decode cX9_span 18 = .ok (.iload 7, 2) := by decide +kernel
theorem dX9_span_20 : decode cX9_span 20 = .ok (.invokestatic 115, 3) := by decide +kernel
theorem dX9_span_23 : decode cX9_span 23 = .ok (.ifCond .eq 24, 3) := by decide +kernel
theorem dX9_span_26 : decode cX9_span 26 = .ok (.aload_n 0, 1) := by decide +kernel
theorem dX9_span_27 : decode cX9_span 27 = .ok (.iload_n 3, 1) := by decide +kernel
theorem dX9_span_28 : decode cX9_span 28 = .ok (.iload 4, 2) := by decide +kernel
theorem dX9_span_30 : decode cX9_span 30 = .ok (.invokevirtual 122, 3) := by decide +kernel
theorem dX9_span_33 : decode cX9_span 33 = .ok (.ifCond .eq 14, 3) := by decide +kernel
theorem dX9_span_36 : decode cX9_span 36 = .ok (.aload_n 0, 1) := by decide +kernel
theorem dX9_span_37 : decode cX9_span 37 = .ok (.iload 5, 2) := by decide +kernel
theorem dX9_span_39 : decode cX9_span 39 = .ok (.iload 6, 2) := by decide +kernel
theorem dX9_span_41 : decode cX9_span 41 = .ok (.invokevirtual 122, 3) := by decide +kernel
theorem dX9_span_44 : decode cX9_span 44 = .ok (.ifCond .ne 7, 3) := by decide +kernel
theorem dX9_span_47 : decode cX9_span 47 = .ok (.ldc2_w 126, 3) := by decide +kernel
theorem dX9_span_50 : decode cX9_span 50 = .ok (.lreturn, 1) := by decide +kernel
theorem dX9_span_51 : decode cX9_span 51 = .ok (.iload 4, 2) := by decide +kernel
theorem dX9_span_53 : decode cX9_span 53 = .ok (.i2l, 1) := by decide +kernel
theorem dX9_span_54 : decode cX9_span 54 = .ok (.iload 6, 2) := by decide +kernel
theorem dX9_span_56 : decode cX9_span 56 = .ok (.i2l, 1) := by decide +kernel
theorem dX9_span_57 : decode cX9_span 57 = .ok (.lmul, 1) := by decide +kernel
theorem dX9_span_58 : decode cX9_span 58 = .ok (.lstore 8, 2) := by decide +kernel
theorem dX9_span_60 : decode cX9_span 60 = .ok (.iload_n 3, 1) := by decide +kernel
theorem dX9_span_61 : decode cX9_span 61 = .ok (.i2l, 1) := by decide +kernel
theorem dX9_span_62 : decode cX9_span 62 = .ok (.iload 6, 2) := by decide +kernel
theorem dX9_span_64 : decode cX9_span 64 = .ok (.i2l, 1) := by decide +kernel
theorem dX9_span_65 : decode cX9_span 65 = .ok (.lmul, 1) := by decide +kernel
theorem dX9_span_66 : decode cX9_span 66 = .ok (.lstore 10, 2) := by decide +kernel
theorem dX9_span_68 : decode cX9_span 68 = .ok (.iload 5, 2) := by decide +kernel
theorem dX9_span_70 : decode cX9_span 70 = .ok (.i2l, 1) := by decide +kernel
theorem dX9_span_71 : decode cX9_span 71 = .ok (.iload 4, 2) := by decide +kernel
theorem dX9_span_73 : decode cX9_span 73 = .ok (.i2l, 1) := by decide +kernel
theorem dX9_span_74 : decode cX9_span 74 = .ok (.lmul, 1) := by decide +kernel
theorem dX9_span_75 : decode cX9_span 75 = .ok (.lstore 12, 2) := by decide +kernel
theorem dX9_span_77 : decode cX9_span 77 = .ok (.lload 12, 2) := by decide +kernel
theorem dX9_span_79 : decode cX9_span 79 = .ok (.lload 10, 2) := by decide +kernel
theorem dX9_span_81 : decode cX9_span 81 = .ok (.lcmp, 1) := by decide +kernel
theorem dX9_span_82 : decode cX9_span 82 = .ok (.ifCond .ge 7, 3) := by decide +kernel
theorem dX9_span_85 : decode cX9_span 85 = .ok (.ldc2_w 126, 3) := by decide +kernel
theorem dX9_span_88 : decode cX9_span 88 = .ok (.lreturn, 1) := by decide +kernel
theorem dX9_span_89 : decode cX9_span 89 = .ok (.aload_n 0, 1) := by decide +kernel
theorem dX9_span_90 : decode cX9_span 90 = .ok (.getfield 12, 3) := by decide +kernel
theorem dX9_span_93 : decode cX9_span 93 = .ok (.iload_n 1, 1) := by decide +kernel
theorem dX9_span_94 : decode cX9_span 94 = .ok (.iload_n 2, 1) := by decide +kernel
theorem dX9_span_95 : decode cX9_span 95 = .ok (.invokevirtual 118, 3) := by decide +kernel
theorem dX9_span_98 : decode cX9_span 98 = .ok (.astore 14, 2) := by decide +kernel
theorem dX9_span_100 : decode cX9_span 100 = .ok (.aload_n 0, 1) := by decide +kernel
theorem dX9_span_101 : decode cX9_span 101 = .ok (.aload_n 0, 1) := by decide +kernel
theorem dX9_span_102 : decode cX9_span 102 = .ok (.getfield 12, 3) := by decide +kernel
theorem dX9_span_105 : decode cX9_span 105 = .ok (.aload 14, 2) := by decide +kernel
theorem dX9_span_107 : decode cX9_span 107 = .ok (.lload 12, 2) := by decide +kernel
theorem dX9_span_109 : decode cX9_span 109 = .ok (.lload 8, 2) := by decide +kernel
theorem dX9_span_111 : decode cX9_span 111 = .ok (.invokevirtual 128, 3) := by decide +kernel
theorem dX9_span_114 : decode cX9_span 114 = .ok (.aload_n 0, 1) := by decide +kernel
theorem dX9_span_115 : decode cX9_span 115 = .ok (.getfield 12, 3) := by decide +kernel
theorem dX9_span_118 : decode cX9_span 118 = .ok (.aload 14, 2) := by decide +kernel
theorem dX9_span_120 : decode cX9_span 120 = .ok (.lload 10, 2) := by decide +kernel
theorem dX9_span_122 : decode cX9_span 122 = .ok (.lload 8, 2) := by decide +kernel
theorem dX9_span_124 : decode cX9_span 124 = .ok (.invokevirtual 128, 3) := by decide +kernel
theorem dX9_span_127 : decode cX9_span 127 = .ok (.lsub, 1) := by decide +kernel
theorem dX9_span_128 : decode cX9_span 128 = .ok (.lload 8, 2) := by decide +kernel
theorem dX9_span_130 : decode cX9_span 130 = .ok (.iload 7, 2) := by decide +kernel
theorem dX9_span_132 : decode cX9_span 132 = .ok (.invokevirtual 132, 3) := by decide +kernel
theorem dX9_span_135 : decode cX9_span 135 = .ok (.lreturn, 1) := by decide +kernel
theorem dX9_mark_0 : decode cX9_mark 0 = .ok (.aload_n 0, 1) := by decide +kernel
theorem dX9_mark_1 : decode cX9_mark 1 = .ok (.getfield 12, 3) := by decide +kernel
theorem dX9_mark_4 : decode cX9_mark 4 = .ok (.iload_n 1, 1) := by decide +kernel
theorem dX9_mark_5 : decode cX9_mark 5 = .ok (.invokevirtual 95, 3) := by decide +kernel
theorem dX9_mark_8 : decode cX9_mark 8 = .ok (.ifCond .eq 38, 3) := by decide +kernel
theorem dX9_mark_11 : decode cX9_mark 11 = .ok (.aload_n 0, 1) := by decide +kernel
theorem dX9_mark_12 : decode cX9_mark 12 = .ok (.iload_n 2, 1) := by decide +kernel
theorem dX9_mark_13 : decode cX9_mark 13 = .ok (.iload_n 3, 1) := by decide +kernel
theorem dX9_mark_14 : decode cX9_mark 14 = .ok (.invokevirtual 122, 3) := by decide +kernel
theorem dX9_mark_17 : decode cX9_mark 17 = .ok (.ifCond .eq 29, 3) := by decide +kernel
theorem dX9_mark_20 : decode cX9_mark 20 = .ok (.iload 4, 2) := by decide +kernel
theorem dX9_mark_22 : decode cX9_mark 22 = .ok (.ifCond .lt 24, 3) := by decide +kernel
theorem dX9_mark_25 : decode cX9_mark 25 = .ok (.iload 5, 2) := by decide +kernel
theorem dX9_mark_27 : decode cX9_mark 27 = .ok (.iconst 1, 1) := by decide +kernel
theorem dX9_mark_28 : decode cX9_mark 28 = .ok (.if_icmp .lt 18, 3) := by decide +kernel
theorem dX9_mark_31 : decode cX9_mark 31 = .ok (.iload 5, 2) := by decide +kernel
theorem dX9_mark_33 : decode cX9_mark 33 = .ok (.bipush 20, 2) := by decide +kernel
theorem dX9_mark_35 : decode cX9_mark 35 = .ok (.if_icmp .gt 11, 3) := by decide +kernel
theorem dX9_mark_38 : decode cX9_mark 38 = .ok (.iload 6, 2) := by decide +kernel
theorem dX9_mark_40 : decode cX9_mark 40 = .ok (.invokestatic 115, 3) := by decide +kernel
theorem dX9_mark_43 : decode cX9_mark 43 = .ok (.ifCond .ne 7, 3) := by decide +kernel
theorem dX9_mark_46 : decode cX9_mark 46 = .ok (.ldc2_w 126, 3) := by decide +kernel
theorem dX9_mark_49 : decode cX9_mark 49 = .ok (.lreturn, 1) := by decide +kernel
theorem dX9_mark_50 : decode cX9_mark 50 = .ok (.aload_n 0, 1) := by decide +kernel
theorem dX9_mark_51 : decode cX9_mark 51 = .ok (.getfield 12, 3) := by decide +kernel
theorem dX9_mark_54 : decode cX9_mark 54 = .ok (.getfield 109, 3) := by decide +kernel
theorem dX9_mark_57 : decode cX9_mark 57 = .ok (.iload_n 1, 1) := by decide +kernel
theorem dX9_mark_58 : decode cX9_mark 58 = .ok (.aaload, 1) := by decide +kernel
theorem dX9_mark_59 : decode cX9_mark 59 = .ok (.astore 7, 2) := by decide +kernel
theorem dX9_mark_61 : decode cX9_mark 61 = .ok (.aload_n 0, 1) := by decide +kernel
theorem dX9_mark_62 : decode cX9_mark 62 = .ok (.getfield 12, 3) := by decide +kernel
theorem dX9_mark_65 : decode cX9_mark 65 = .ok (.aload 7, 2) := by decide +kernel
theorem dX9_mark_67 : decode cX9_mark 67 = .ok (.invokevirtual 136, 3) := by decide +kernel
theorem dX9_mark_70 : decode cX9_mark 70 = .ok (.i2l, 1) := by decide +kernel
theorem dX9_mark_71 : decode cX9_mark 71 = .ok (.iload_n 3, 1) := by decide +kernel
theorem dX9_mark_72 : decode cX9_mark 72 = .ok (.i2l, 1) := by decide +kernel
theorem dX9_mark_73 : decode cX9_mark 73 = .ok (.lmul, 1) := by decide +kernel
theorem dX9_mark_74 : decode cX9_mark 74 = .ok (.iload 4, 2) := by decide +kernel
theorem dX9_mark_76 : decode cX9_mark 76 = .ok (.i2l, 1) := by decide +kernel
theorem dX9_mark_77 : decode cX9_mark 77 = .ok (.lmul, 1) := by decide +kernel
theorem dX9_mark_78 : decode cX9_mark 78 = .ok (.lstore 8, 2) := by decide +kernel
theorem dX9_mark_80 : decode cX9_mark 80 = .ok (.aload_n 0, 1) := by decide +kernel
theorem dX9_mark_81 : decode cX9_mark 81 = .ok (.getfield 12, 3) := by decide +kernel
theorem dX9_mark_84 : decode cX9_mark 84 = .ok (.aload_n 0, 1) := by decide +kernel
theorem dX9_mark_85 : decode cX9_mark 85 = .ok (.getfield 70, 3) := by decide +kernel
theorem dX9_mark_88 : decode cX9_mark 88 = .ok (.aload 7, 2) := by decide +kernel
theorem dX9_mark_90 : decode cX9_mark 90 = .ok (.iload_n 2, 1) := by decide +kernel
theorem dX9_mark_91 : decode cX9_mark 91 = .ok (.i2l, 1) := by decide +kernel
theorem dX9_mark_92 : decode cX9_mark 92 = .ok (.iload_n 3, 1) := by decide +kernel
theorem dX9_mark_93 : decode cX9_mark 93 = .ok (.i2l, 1) := by decide +kernel
theorem dX9_mark_94 : decode cX9_mark 94 = .ok (.lload 8, 2) := by decide +kernel
theorem dX9_mark_96 : decode cX9_mark 96 = .ok (.iload 5, 2) := by decide +kernel
theorem dX9_mark_98 : decode cX9_mark 98 = .ok (.i2l, 1) := by decide +kernel
theorem dX9_mark_99 : decode cX9_mark 99 = .ok (.invokevirtual 140, 3) := by decide +kernel
theorem dX9_mark_102 : decode cX9_mark 102 = .ok (.ifCond .ne 7, 3) := by decide +kernel
theorem dX9_mark_105 : decode cX9_mark 105 = .ok (.ldc2_w 126, 3) := by decide +kernel
theorem dX9_mark_108 : decode cX9_mark 108 = .ok (.lreturn, 1) := by decide +kernel
theorem dX9_mark_109 : decode cX9_mark 109 = .ok (.iload 6, 2) := by decide +kernel
theorem dX9_mark_111 : decode cX9_mark 111 = .ok (.ifCond .ne 13, 3) := by decide +kernel
theorem dX9_mark_114 : decode cX9_mark 114 = .ok (.aload_n 0, 1) := by decide +kernel
theorem dX9_mark_115 : decode cX9_mark 115 = .ok (.getfield 70, 3) := by decide +kernel
theorem dX9_mark_118 : decode cX9_mark 118 = .ok (.getfield 144, 3) := by decide +kernel
theorem dX9_mark_121 : decode cX9_mark 121 = .ok (.goto 10, 3) := by decide +kernel
theorem dX9_mark_124 : decode cX9_mark 124 = .ok (.aload_n 0, 1) := by decide +kernel
theorem dX9_mark_125 : decode cX9_mark 125 = .ok (.getfield 70, 3) := by decide +kernel
theorem dX9_mark_128 : decode cX9_mark 128 = .ok (.getfield 148, 3) := by decide +kernel
theorem dX9_mark_131 : decode cX9_mark 131 = .ok (.lreturn, 1) := by decide +kernel
theorem dX9_exact_0 : decode cX9_exact 0 = .ok (.aload_n 0, 1) := by decide +kernel
theorem dX9_exact_1 : decode cX9_exact 1 = .ok (.getfield 12, 3) := by decide +kernel
theorem dX9_exact_4 : decode cX9_exact 4 = .ok (.iload_n 1, 1) := by decide +kernel
theorem dX9_exact_5 : decode cX9_exact 5 = .ok (.invokevirtual 95, 3) := by decide +kernel
theorem dX9_exact_8 : decode cX9_exact 8 = .ok (.ifCond .eq 28, 3) := by decide +kernel
theorem dX9_exact_11 : decode cX9_exact 11 = .ok (.aload_n 0, 1) := by decide +kernel
theorem dX9_exact_12 : decode cX9_exact 12 = .ok (.getfield 12, 3) := by decide +kernel
theorem dX9_exact_15 : decode cX9_exact 15 = .ok (.iload_n 2, 1) := by decide +kernel
theorem dX9_exact_16 : decode cX9_exact 16 = .ok (.invokevirtual 95, 3) := by decide +kernel
theorem dX9_exact_19 : decode cX9_exact 19 = .ok (.ifCond .eq 17, 3) := by decide +kernel
theorem dX9_exact_22 : decode cX9_exact 22 = .ok (.iload_n 1, 1) := by decide +kernel
theorem dX9_exact_23 : decode cX9_exact 23 = .ok (.iload_n 2, 1) := by decide +kernel
theorem dX9_exact_24 : decode cX9_exact 24 = .ok (.if_icmp .eq 12, 3) := by decide +kernel
theorem dX9_exact_27 : decode cX9_exact 27 = .ok (.iload_n 3, 1) := by decide +kernel
theorem dX9_exact_28 : decode cX9_exact 28 = .ok (.ifCond .lt 8, 3) := by decide +kernel
theorem dX9_exact_31 : decode cX9_exact 31 = .ok (.iload_n 3, 1) := by decide +kernel
theorem dX9_exact_32 : decode cX9_exact 32 = .ok (.iconst 3, 1) := by decide +kernel
theorem dX9_exact_33 : decode cX9_exact 33 = .ok (.if_icmp .le 7, 3) := by decide +kernel
theorem dX9_exact_36 : decode cX9_exact 36 = .ok (.ldc2_w 126, 3) := by decide +kernel
theorem dX9_exact_39 : decode cX9_exact 39 = .ok (.lreturn, 1) := by decide +kernel
theorem dX9_exact_40 : decode cX9_exact 40 = .ok (.aload_n 0, 1) := by decide +kernel
theorem dX9_exact_41 : decode cX9_exact 41 = .ok (.getfield 12, 3) := by decide +kernel
theorem dX9_exact_44 : decode cX9_exact 44 = .ok (.aload_n 0, 1) := by decide +kernel
theorem dX9_exact_45 : decode cX9_exact 45 = .ok (.getfield 80, 3) := by decide +kernel
theorem dX9_exact_48 : decode cX9_exact 48 = .ok (.aload_n 0, 1) := by decide +kernel
theorem dX9_exact_49 : decode cX9_exact 49 = .ok (.getfield 12, 3) := by decide +kernel
theorem dX9_exact_52 : decode cX9_exact 52 = .ok (.getfield 109, 3) := by decide +kernel
theorem dX9_exact_55 : decode cX9_exact 55 = .ok (.iload_n 1, 1) := by decide +kernel
theorem dX9_exact_56 : decode cX9_exact 56 = .ok (.aaload, 1) := by decide +kernel
theorem dX9_exact_57 : decode cX9_exact 57 = .ok (.aload_n 0, 1) := by decide +kernel
theorem dX9_exact_58 : decode cX9_exact 58 = .ok (.getfield 12, 3) := by decide +kernel
theorem dX9_exact_61 : decode cX9_exact 61 = .ok (.getfield 109, 3) := by decide +kernel
theorem dX9_exact_64 : decode cX9_exact 64 = .ok (.iload_n 2, 1) := by decide +kernel
theorem dX9_exact_65 : decode cX9_exact 65 = .ok (.aaload, 1) := by decide +kernel
theorem dX9_exact_66 : decode cX9_exact 66 = .ok (.invokevirtual 151, 3) := by decide +kernel
theorem dX9_exact_69 : decode cX9_exact 69 = .ok (.ifCond .ne 7, 3) := by decide +kernel
theorem dX9_exact_72 : decode cX9_exact 72 = .ok (.ldc2_w 126, 3) := by decide +kernel
theorem dX9_exact_75 : decode cX9_exact 75 = .ok (.lreturn, 1) := by decide +kernel
theorem dX9_exact_76 : decode cX9_exact 76 = .ok (.aload_n 0, 1) := by decide +kernel
theorem dX9_exact_77 : decode cX9_exact 77 = .ok (.getfield 80, 3) := by decide +kernel
theorem dX9_exact_80 : decode cX9_exact 80 = .ok (.iload_n 3, 1) := by decide +kernel
theorem dX9_exact_81 : decode cX9_exact 81 = .ok (.invokevirtual 155, 3) := by decide +kernel
theorem dX9_exact_84 : decode cX9_exact 84 = .ok (.lreturn, 1) := by decide +kernel
theorem dX9_feed_0 : decode cX9_feed 0 = .ok (.iload_n 1, 1) := by decide +kernel
theorem dX9_feed_1 : decode cX9_feed 1 = .ok (.iconst 1, 1) := by decide +kernel
theorem dX9_feed_2 : decode cX9_feed 2 = .ok (.if_icmp .lt 9, 3) := by decide +kernel
theorem dX9_feed_5 : decode cX9_feed 5 = .ok (.iload_n 1, 1) := by decide +kernel
theorem dX9_feed_6 : decode cX9_feed 6 = .ok (.bipush 127, 2) := by decide +kernel
theorem dX9_feed_8 : decode cX9_feed 8 = .ok (.if_icmp .le 5, 3) := by decide +kernel
theorem dX9_feed_11 : decode cX9_feed 11 = .ok (.iconst (-1), 1) := by decide +kernel
theorem dX9_feed_12 : decode cX9_feed 12 = .ok (.ireturn, 1) := by decide +kernel
theorem dX9_feed_13 : decode cX9_feed 13 = .ok (.aload_n 0, 1) := by decide +kernel
theorem dX9_feed_14 : decode cX9_feed 14 = .ok (.getfield 49, 3) := by decide +kernel
theorem dX9_feed_17 : decode cX9_feed 17 = .ok (.iload_n 1, 1) := by decide +kernel
theorem dX9_feed_18 : decode cX9_feed 18 = .ok (.invokevirtual 159, 3) := by decide +kernel
theorem dX9_feed_21 : decode cX9_feed 21 = .ok (.ifCond .eq 13, 3) := by decide +kernel
theorem dX9_feed_24 : decode cX9_feed 24 = .ok (.aload_n 0, 1) := by decide +kernel
theorem dX9_feed_25 : decode cX9_feed 25 = .ok (.getfield 49, 3) := by decide +kernel
theorem dX9_feed_28 : decode cX9_feed 28 = .ok (.getfield 162, 3) := by decide +kernel
theorem dX9_feed_31 : decode cX9_feed 31 = .ok (.goto 5, 3) := by decide +kernel
theorem dX9_feed_34 : decode cX9_feed 34 = .ok (.bipush (-3), 2) := by decide +kernel
theorem dX9_feed_36 : decode cX9_feed 36 = .ok (.ireturn, 1) := by decide +kernel
theorem dX9_worths_0 : decode cX9_worths 0 = .ok (.aload_n 0, 1) := by decide +kernel
theorem dX9_worths_1 : decode cX9_worths 1 = .ok (.getfield 18, 3) := by decide +kernel
theorem dX9_worths_4 : decode cX9_worths 4 = .ok (.aload_n 0, 1) := by decide +kernel
theorem dX9_worths_5 : decode cX9_worths 5 = .ok (.getfield 12, 3) := by decide +kernel
theorem dX9_worths_8 : decode cX9_worths 8 = .ok (.invokevirtual 165, 3) := by decide +kernel
theorem dX9_worths_11 : decode cX9_worths 11 = .ok (.aload_n 0, 1) := by decide +kernel
theorem dX9_worths_12 : decode cX9_worths 12 = .ok (.getfield 49, 3) := by decide +kernel
theorem dX9_worths_15 : decode cX9_worths 15 = .ok (.iconst 1, 1) := by decide +kernel
theorem dX9_worths_16 : decode cX9_worths 16 = .ok (.aload_n 0, 1) := by decide +kernel
theorem dX9_worths_17 : decode cX9_worths 17 = .ok (.getfield 18, 3) := by decide +kernel
theorem dX9_worths_20 : decode cX9_worths 20 = .ok (.aload_n 0, 1) := by decide +kernel
theorem dX9_worths_21 : decode cX9_worths 21 = .ok (.getfield 31, 3) := by decide +kernel
theorem dX9_worths_24 : decode cX9_worths 24 = .ok (.invokevirtual 169, 3) := by decide +kernel
theorem dX9_worths_27 : decode cX9_worths 27 = .ok (.istore_n 1, 1) := by decide +kernel
theorem dX9_worths_28 : decode cX9_worths 28 = .ok (.iload_n 1, 1) := by decide +kernel
theorem dX9_worths_29 : decode cX9_worths 29 = .ok (.ifCond .le 14, 3) := by decide +kernel
theorem dX9_worths_32 : decode cX9_worths 32 = .ok (.aload_n 0, 1) := by decide +kernel
theorem dX9_worths_33 : decode cX9_worths 33 = .ok (.getfield 12, 3) := by decide +kernel
theorem dX9_worths_36 : decode cX9_worths 36 = .ok (.aload_n 0, 1) := by decide +kernel
theorem dX9_worths_37 : decode cX9_worths 37 = .ok (.getfield 18, 3) := by decide +kernel
theorem dX9_worths_40 : decode cX9_worths 40 = .ok (.invokevirtual 165, 3) := by decide +kernel
theorem dX9_worths_43 : decode cX9_worths 43 = .ok (.iload_n 1, 1) := by decide +kernel
theorem dX9_worths_44 : decode cX9_worths 44 = .ok (.ireturn, 1) := by decide +kernel
theorem dX9_divides_0 : decode cX9_divides 0 = .ok (.aload_n 0, 1) := by decide +kernel
theorem dX9_divides_1 : decode cX9_divides 1 = .ok (.getfield 31, 3) := by decide +kernel
theorem dX9_divides_4 : decode cX9_divides 4 = .ok (.invokevirtual 92, 3) := by decide +kernel
theorem dX9_divides_7 : decode cX9_divides 7 = .ok (.aload_n 0, 1) := by decide +kernel
theorem dX9_divides_8 : decode cX9_divides 8 = .ok (.getfield 49, 3) := by decide +kernel
theorem dX9_divides_11 : decode cX9_divides 11 = .ok (.iconst 0, 1) := by decide +kernel
theorem dX9_divides_12 : decode cX9_divides 12 = .ok (.aload_n 0, 1) := by decide +kernel
theorem dX9_divides_13 : decode cX9_divides 13 = .ok (.getfield 12, 3) := by decide +kernel
theorem dX9_divides_16 : decode cX9_divides 16 = .ok (.aload_n 0, 1) := by decide +kernel
theorem dX9_divides_17 : decode cX9_divides 17 = .ok (.getfield 31, 3) := by decide +kernel
theorem dX9_divides_20 : decode cX9_divides 20 = .ok (.invokevirtual 169, 3) := by decide +kernel
theorem dX9_divides_23 : decode cX9_divides 23 = .ok (.istore_n 1, 1) := by decide +kernel
theorem dX9_divides_24 : decode cX9_divides 24 = .ok (.iload_n 1, 1) := by decide +kernel
theorem dX9_divides_25 : decode cX9_divides 25 = .ok (.ifCond .le 16, 3) := by decide +kernel
theorem dX9_divides_28 : decode cX9_divides 28 = .ok (.aload_n 0, 1) := by decide +kernel
theorem dX9_divides_29 : decode cX9_divides 29 = .ok (.getfield 31, 3) := by decide +kernel
theorem dX9_divides_32 : decode cX9_divides 32 = .ok (.getfield 173, 3) := by decide +kernel
theorem dX9_divides_35 : decode cX9_divides 35 = .ok (.ifCond .eq 6, 3) := by decide +kernel
theorem dX9_divides_38 : decode cX9_divides 38 = .ok (.bipush (-3), 2) := by decide +kernel
theorem dX9_divides_40 : decode cX9_divides 40 = .ok (.ireturn, 1) := by decide +kernel
theorem dX9_divides_41 : decode cX9_divides 41 = .ok (.iload_n 1, 1) := by decide +kernel
theorem dX9_divides_42 : decode cX9_divides 42 = .ok (.ifCond .le 22, 3) := by decide +kernel
theorem dX9_divides_45 : decode cX9_divides 45 = .ok (.aload_n 0, 1) := by decide +kernel
theorem dX9_divides_46 : decode cX9_divides 46 = .ok (.getfield 31, 3) := by decide +kernel
theorem dX9_divides_49 : decode cX9_divides 49 = .ok (.iconst 1, 1) := by decide +kernel
theorem dX9_divides_50 : decode cX9_divides 50 = .ok (.putfield 177, 3) := by decide +kernel
theorem dX9_divides_53 : decode cX9_divides 53 = .ok (.aload_n 0, 1) := by decide +kernel
theorem dX9_divides_54 : decode cX9_divides 54 = .ok (.getfield 27, 3) := by decide +kernel
theorem dX9_divides_57 : decode cX9_divides 57 = .ok (.aload_n 0, 1) := by decide +kernel
theorem dX9_divides_58 : decode cX9_divides 58 = .ok (.getfield 31, 3) := by decide +kernel
theorem dX9_divides_61 : decode cX9_divides 61 = .ok (.invokevirtual 180, 3) := by decide +kernel
theorem dX9_divides_64 : decode cX9_divides 64 = .ok (.iload_n 1, 1) := by decide +kernel
theorem dX9_divides_65 : decode cX9_divides 65 = .ok (.ireturn, 1) := by decide +kernel
theorem dX9_prints_0 : decode cX9_prints 0 = .ok (.aload_n 0, 1) := by decide +kernel
theorem dX9_prints_1 : decode cX9_prints 1 = .ok (.getfield 27, 3) := by decide +kernel
theorem dX9_prints_4 : decode cX9_prints 4 = .ok (.getfield 177, 3) := by decide +kernel
theorem dX9_prints_7 : decode cX9_prints 7 = .ok (.ifCond .ne 6, 3) := by decide +kernel
theorem dX9_prints_10 : decode cX9_prints 10 = .ok (.bipush (-5), 2) := by decide +kernel
theorem dX9_prints_12 : decode cX9_prints 12 = .ok (.ireturn, 1) := by decide +kernel
theorem dX9_prints_13 : decode cX9_prints 13 = .ok (.aload_n 0, 1) := by decide +kernel
theorem dX9_prints_14 : decode cX9_prints 14 = .ok (.getfield 56, 3) := by decide +kernel
theorem dX9_prints_17 : decode cX9_prints 17 = .ok (.iconst 0, 1) := by decide +kernel
theorem dX9_prints_18 : decode cX9_prints 18 = .ok (.putfield 183, 3) := by decide +kernel
theorem dX9_prints_21 : decode cX9_prints 21 = .ok (.iconst 0, 1) := by decide +kernel
theorem dX9_prints_22 : decode cX9_prints 22 = .ok (.istore_n 1, 1) := by decide +kernel
theorem dX9_prints_23 : decode cX9_prints 23 = .ok (.iload_n 1, 1) := by decide +kernel
theorem dX9_prints_24 : decode cX9_prints 24 = .ok (.aload_n 0, 1) := by decide +kernel
theorem dX9_prints_25 : decode cX9_prints 25 = .ok (.getfield 27, 3) := by decide +kernel
theorem dX9_prints_28 : decode cX9_prints 28 = .ok (.getfield 184, 3) := by decide +kernel
theorem dX9_prints_31 : decode cX9_prints 31 = .ok (.if_icmp .ge 25, 3) := by decide +kernel
theorem dX9_prints_34 : decode cX9_prints 34 = .ok (.aload_n 0, 1) := by decide +kernel
theorem dX9_prints_35 : decode cX9_prints 35 = .ok (.getfield 56, 3) := by decide +kernel
theorem dX9_prints_38 : decode cX9_prints 38 = .ok (.aload_n 0, 1) := by decide +kernel
theorem dX9_prints_39 : decode cX9_prints 39 = .ok (.getfield 27, 3) := by decide +kernel
theorem dX9_prints_42 : decode cX9_prints 42 = .ok (.getfield 187, 3) := by decide +kernel
theorem dX9_prints_45 : decode cX9_prints 45 = .ok (.iload_n 1, 1) := by decide +kernel
theorem dX9_prints_46 : decode cX9_prints 46 = .ok (.aaload, 1) := by decide +kernel
theorem dX9_prints_47 : decode cX9_prints 47 = .ok (.invokevirtual 191, 3) := by decide +kernel
theorem dX9_prints_50 : decode cX9_prints 50 = .ok (.iinc 1 1, 3) := by decide +kernel
theorem dX9_prints_53 : decode cX9_prints 53 = .ok (.goto (-30), 3) := by decide +kernel
theorem dX9_prints_56 : decode cX9_prints 56 = .ok (.aload_n 0, 1) := by decide +kernel
theorem dX9_prints_57 : decode cX9_prints 57 = .ok (.getfield 56, 3) := by decide +kernel
theorem dX9_prints_60 : decode cX9_prints 60 = .ok (.getfield 183, 3) := by decide +kernel
theorem dX9_prints_63 : decode cX9_prints 63 = .ok (.ireturn, 1) := by decide +kernel
theorem dX9_paper_0 : decode cX9_paper 0 = .ok (.iload_n 1, 1) := by decide +kernel
theorem dX9_paper_1 : decode cX9_paper 1 = .ok (.iconst (-1), 1) := by decide +kernel
theorem dX9_paper_2 : decode cX9_paper 2 = .ok (.if_icmp .ge 5, 3) := by decide +kernel
theorem dX9_paper_5 : decode cX9_paper 5 = .ok (.iconst (-1), 1) := by decide +kernel
theorem dX9_paper_6 : decode cX9_paper 6 = .ok (.ireturn, 1) := by decide +kernel
theorem dX9_paper_7 : decode cX9_paper 7 = .ok (.iload_n 1, 1) := by decide +kernel
theorem dX9_paper_8 : decode cX9_paper 8 = .ok (.iconst (-1), 1) := by decide +kernel
theorem dX9_paper_9 : decode cX9_paper 9 = .ok (.if_icmp .ne 11, 3) := by decide +kernel
theorem dX9_paper_12 : decode cX9_paper 12 = .ok (.aload_n 0, 1) := by decide +kernel
theorem dX9_paper_13 : decode cX9_paper 13 = .ok (.getfield 56, 3) := by decide +kernel
theorem dX9_paper_16 : decode cX9_paper 16 = .ok (.getfield 183, 3) := by decide +kernel
theorem dX9_paper_19 : decode cX9_paper 19 = .ok (.ireturn, 1) := by decide +kernel
theorem dX9_paper_20 : decode cX9_paper 20 = .ok (.iload_n 1, 1) := by decide +kernel
theorem dX9_paper_21 : decode cX9_paper 21 = .ok (.aload_n 0, 1) := by decide +kernel
theorem dX9_paper_22 : decode cX9_paper 22 = .ok (.getfield 56, 3) := by decide +kernel
theorem dX9_paper_25 : decode cX9_paper 25 = .ok (.getfield 183, 3) := by decide +kernel
theorem dX9_paper_28 : decode cX9_paper 28 = .ok (.if_icmp .ge 15, 3) := by decide +kernel
theorem dX9_paper_31 : decode cX9_paper 31 = .ok (.aload_n 0, 1) := by decide +kernel
theorem dX9_paper_32 : decode cX9_paper 32 = .ok (.getfield 56, 3) := by decide +kernel
theorem dX9_paper_35 : decode cX9_paper 35 = .ok (.getfield 195, 3) := by decide +kernel
theorem dX9_paper_38 : decode cX9_paper 38 = .ok (.iload_n 1, 1) := by decide +kernel
theorem dX9_paper_39 : decode cX9_paper 39 = .ok (.baload, 1) := by decide +kernel
theorem dX9_paper_40 : decode cX9_paper 40 = .ok (.goto 5, 3) := by decide +kernel
theorem dX9_paper_43 : decode cX9_paper 43 = .ok (.bipush (-2), 2) := by decide +kernel
theorem dX9_paper_45 : decode cX9_paper 45 = .ok (.ireturn, 1) := by decide +kernel
theorem dX9_shares_0 : decode cX9_shares 0 = .ok (.iload_n 1, 1) := by decide +kernel
theorem dX9_shares_1 : decode cX9_shares 1 = .ok (.invokestatic 199, 3) := by decide +kernel
theorem dX9_shares_4 : decode cX9_shares 4 = .ok (.ifCond .eq 14, 3) := by decide +kernel
theorem dX9_shares_7 : decode cX9_shares 7 = .ok (.aload_n 0, 1) := by decide +kernel
theorem dX9_shares_8 : decode cX9_shares 8 = .ok (.getfield 12, 3) := by decide +kernel
theorem dX9_shares_11 : decode cX9_shares 11 = .ok (.iload_n 2, 1) := by decide +kernel
theorem dX9_shares_12 : decode cX9_shares 12 = .ok (.invokevirtual 95, 3) := by decide +kernel
theorem dX9_shares_15 : decode cX9_shares 15 = .ok (.ifCond .ne 5, 3) := by decide +kernel
theorem dX9_shares_18 : decode cX9_shares 18 = .ok (.iconst (-1), 1) := by decide +kernel
theorem dX9_shares_19 : decode cX9_shares 19 = .ok (.ireturn, 1) := by decide +kernel
theorem dX9_shares_20 : decode cX9_shares 20 = .ok (.aload_n 0, 1) := by decide +kernel
theorem dX9_shares_21 : decode cX9_shares 21 = .ok (.iload_n 1, 1) := by decide +kernel
theorem dX9_shares_22 : decode cX9_shares 22 = .ok (.invokevirtual 202, 3) := by decide +kernel
theorem dX9_shares_25 : decode cX9_shares 25 = .ok (.ifCond .ne 6, 3) := by decide +kernel
theorem dX9_shares_28 : decode cX9_shares 28 = .ok (.bipush (-5), 2) := by decide +kernel
theorem dX9_shares_30 : decode cX9_shares 30 = .ok (.ireturn, 1) := by decide +kernel
theorem dX9_shares_31 : decode cX9_shares 31 = .ok (.aload_n 0, 1) := by decide +kernel
theorem dX9_shares_32 : decode cX9_shares 32 = .ok (.getfield 42, 3) := by decide +kernel
theorem dX9_shares_35 : decode cX9_shares 35 = .ok (.iload_n 1, 1) := by decide +kernel
theorem dX9_shares_36 : decode cX9_shares 36 = .ok (.iload_n 2, 1) := by decide +kernel
theorem dX9_shares_37 : decode cX9_shares 37 = .ok (.invokevirtual 205, 3) := by decide +kernel
theorem dX9_shares_40 : decode cX9_shares 40 = .ok (.ifCond .ne 6, 3) := by decide +kernel
theorem dX9_shares_43 : decode cX9_shares 43 = .ok (.bipush (-3), 2) := by decide +kernel
theorem dX9_shares_45 : decode cX9_shares 45 = .ok (.ireturn, 1) := by decide +kernel
theorem dX9_shares_46 : decode cX9_shares 46 = .ok (.aload_n 0, 1) := by decide +kernel
theorem dX9_shares_47 : decode cX9_shares 47 = .ok (.getfield 27, 3) := by decide +kernel
theorem dX9_shares_50 : decode cX9_shares 50 = .ok (.aload_n 0, 1) := by decide +kernel
theorem dX9_shares_51 : decode cX9_shares 51 = .ok (.getfield 31, 3) := by decide +kernel
theorem dX9_shares_54 : decode cX9_shares 54 = .ok (.invokevirtual 180, 3) := by decide +kernel
theorem dX9_shares_57 : decode cX9_shares 57 = .ok (.aload_n 0, 1) := by decide +kernel
theorem dX9_shares_58 : decode cX9_shares 58 = .ok (.getfield 27, 3) := by decide +kernel
theorem dX9_shares_61 : decode cX9_shares 61 = .ok (.getfield 184, 3) := by decide +kernel
theorem dX9_shares_64 : decode cX9_shares 64 = .ok (.ireturn, 1) := by decide +kernel
theorem dX9_event_0 : decode cX9_event 0 = .ok (.aload_n 0, 1) := by decide +kernel
theorem dX9_event_1 : decode cX9_event 1 = .ok (.getfield 27, 3) := by decide +kernel
theorem dX9_event_4 : decode cX9_event 4 = .ok (.getfield 177, 3) := by decide +kernel
theorem dX9_event_7 : decode cX9_event 7 = .ok (.ifCond .eq 28, 3) := by decide +kernel
theorem dX9_event_10 : decode cX9_event 10 = .ok (.iload_n 2, 1) := by decide +kernel
theorem dX9_event_11 : decode cX9_event 11 = .ok (.ifCond .lt 24, 3) := by decide +kernel
theorem dX9_event_14 : decode cX9_event 14 = .ok (.iload_n 2, 1) := by decide +kernel
theorem dX9_event_15 : decode cX9_event 15 = .ok (.iconst 5, 1) := by decide +kernel
theorem dX9_event_16 : decode cX9_event 16 = .ok (.if_icmp .gt 19, 3) := by decide +kernel
theorem dX9_event_19 : decode cX9_event 19 = .ok (.iload_n 1, 1) := by decide +kernel
theorem dX9_event_20 : decode cX9_event 20 = .ok (.iconst (-1), 1) := by decide +kernel
theorem dX9_event_21 : decode cX9_event 21 = .ok (.if_icmp .lt 14, 3) := by decide +kernel
theorem dX9_event_24 : decode cX9_event 24 = .ok (.iload_n 1, 1) := by decide +kernel
theorem dX9_event_25 : decode cX9_event 25 = .ok (.aload_n 0, 1) := by decide +kernel
theorem dX9_event_26 : decode cX9_event 26 = .ok (.getfield 27, 3) := by decide +kernel
theorem dX9_event_29 : decode cX9_event 29 = .ok (.getfield 184, 3) := by decide +kernel
theorem dX9_event_32 : decode cX9_event 32 = .ok (.if_icmp .lt 7, 3) := by decide +kernel
theorem dX9_event_35 : decode cX9_event 35 = .ok (.ldc2_w 126, 3) := by decide +kernel
theorem dX9_event_38 : decode cX9_event 38 = .ok (.lreturn, 1) := by decide +kernel
theorem dX9_event_39 : decode cX9_event 39 = .ok (.iload_n 1, 1) := by decide +kernel
theorem dX9_event_40 : decode cX9_event 40 = .ok (.iconst (-1), 1) := by decide +kernel
theorem dX9_event_41 : decode cX9_event 41 = .ok (.if_icmp .ne 22, 3) := by decide +kernel
theorem dX9_event_44 : decode cX9_event 44 = .ok (.iload_n 2, 1) := by decide +kernel
theorem dX9_event_45 : decode cX9_event 45 = .ok (.ifCond .ne 14, 3) := by decide +kernel
theorem dX9_event_48 : decode cX9_event 48 = .ok (.aload_n 0, 1) := by decide +kernel
theorem dX9_event_49 : decode cX9_event 49 = .ok (.getfield 27, 3) := by decide +kernel
theorem dX9_event_52 : decode cX9_event 52 = .ok (.getfield 184, 3) := by decide +kernel
theorem dX9_event_55 : decode cX9_event 55 = .ok (.i2l, 1) := by decide +kernel
theorem dX9_event_56 : decode cX9_event 56 = .ok (.goto 6, 3) := by decide +kernel
theorem dX9_event_59 : decode cX9_event 59 = .ok (.ldc2_w 126, 3) := by decide +kernel
theorem dX9_event_62 : decode cX9_event 62 = .ok (.lreturn, 1) := by decide +kernel
theorem dX9_event_63 : decode cX9_event 63 = .ok (.aload_n 0, 1) := by decide +kernel
theorem dX9_event_64 : decode cX9_event 64 = .ok (.getfield 27, 3) := by decide +kernel
theorem dX9_event_67 : decode cX9_event 67 = .ok (.getfield 187, 3) := by decide +kernel
theorem dX9_event_70 : decode cX9_event 70 = .ok (.iload_n 1, 1) := by decide +kernel
theorem dX9_event_71 : decode cX9_event 71 = .ok (.aaload, 1) := by decide +kernel
theorem dX9_event_72 : decode cX9_event 72 = .ok (.iload_n 2, 1) := by decide +kernel
theorem dX9_event_73 : decode cX9_event 73 = .ok (.invokevirtual 208, 3) := by decide +kernel
theorem dX9_event_76 : decode cX9_event 76 = .ok (.lreturn, 1) := by decide +kernel
theorem dX9_share_0 : decode cX9_share 0 = .ok (.aload_n 0, 1) := by decide +kernel
theorem dX9_share_1 : decode cX9_share 1 = .ok (.getfield 27, 3) := by decide +kernel
theorem dX9_share_4 : decode cX9_share 4 = .ok (.getfield 177, 3) := by decide +kernel
theorem dX9_share_7 : decode cX9_share 7 = .ok (.ifCond .eq 23, 3) := by decide +kernel
theorem dX9_share_10 : decode cX9_share 10 = .ok (.aload_n 0, 1) := by decide +kernel
theorem dX9_share_11 : decode cX9_share 11 = .ok (.getfield 12, 3) := by decide +kernel
theorem dX9_share_14 : decode cX9_share 14 = .ok (.iload_n 1, 1) := by decide +kernel
theorem dX9_share_15 : decode cX9_share 15 = .ok (.invokevirtual 95, 3) := by decide +kernel
theorem dX9_share_18 : decode cX9_share 18 = .ok (.ifCond .eq 12, 3) := by decide +kernel
theorem dX9_share_21 : decode cX9_share 21 = .ok (.iload_n 3, 1) := by decide +kernel
theorem dX9_share_22 : decode cX9_share 22 = .ok (.ifCond .lt 8, 3) := by decide +kernel
theorem dX9_share_25 : decode cX9_share 25 = .ok (.iload_n 3, 1) := by decide +kernel
theorem dX9_share_26 : decode cX9_share 26 = .ok (.iconst 3, 1) := by decide +kernel
theorem dX9_share_27 : decode cX9_share 27 = .ok (.if_icmp .le 7, 3) := by decide +kernel
theorem dX9_share_30 : decode cX9_share 30 = .ok (.ldc2_w 126, 3) := by decide +kernel
theorem dX9_share_33 : decode cX9_share 33 = .ok (.lreturn, 1) := by decide +kernel
theorem dX9_share_34 : decode cX9_share 34 = .ok (.iload_n 2, 1) := by decide +kernel
theorem dX9_share_35 : decode cX9_share 35 = .ok (.iconst (-1), 1) := by decide +kernel
theorem dX9_share_36 : decode cX9_share 36 = .ok (.if_icmp .lt 16, 3) := by decide +kernel
theorem dX9_share_39 : decode cX9_share 39 = .ok (.iload_n 2, 1) := by decide +kernel
theorem dX9_share_40 : decode cX9_share 40 = .ok (.aload_n 0, 1) := by decide +kernel
theorem dX9_share_41 : decode cX9_share 41 = .ok (.getfield 27, 3) := by decide +kernel
theorem dX9_share_44 : decode cX9_share 44 = .ok (.getfield 211, 3) := by decide +kernel
theorem dX9_share_47 : decode cX9_share 47 = .ok (.iload_n 1, 1) := by decide +kernel
theorem dX9_share_48 : decode cX9_share 48 = .ok (.iaload, 1) := by decide +kernel
theorem dX9_share_49 : decode cX9_share 49 = .ok (.if_icmp .lt 7, 3) := by decide +kernel
theorem dX9_share_52 : decode cX9_share 52 = .ok (.ldc2_w 126, 3) := by decide +kernel
theorem dX9_share_55 : decode cX9_share 55 = .ok (.lreturn, 1) := by decide +kernel
theorem dX9_share_56 : decode cX9_share 56 = .ok (.iload_n 2, 1) := by decide +kernel
theorem dX9_share_57 : decode cX9_share 57 = .ok (.iconst (-1), 1) := by decide +kernel
theorem dX9_share_58 : decode cX9_share 58 = .ok (.if_icmp .ne 24, 3) := by decide +kernel
theorem dX9_share_61 : decode cX9_share 61 = .ok (.iload_n 3, 1) := by decide +kernel
theorem dX9_share_62 : decode cX9_share 62 = .ok (.ifCond .ne 16, 3) := by decide +kernel
theorem dX9_share_65 : decode cX9_share 65 = .ok (.aload_n 0, 1) := by decide +kernel
theorem dX9_share_66 : decode cX9_share 66 = .ok (.getfield 27, 3) := by decide +kernel
theorem dX9_share_69 : decode cX9_share 69 = .ok (.getfield 211, 3) := by decide +kernel
theorem dX9_share_72 : decode cX9_share 72 = .ok (.iload_n 1, 1) := by decide +kernel
theorem dX9_share_73 : decode cX9_share 73 = .ok (.iaload, 1) := by decide +kernel
theorem dX9_share_74 : decode cX9_share 74 = .ok (.i2l, 1) := by decide +kernel
theorem dX9_share_75 : decode cX9_share 75 = .ok (.goto 6, 3) := by decide +kernel
theorem dX9_share_78 : decode cX9_share 78 = .ok (.ldc2_w 126, 3) := by decide +kernel
theorem dX9_share_81 : decode cX9_share 81 = .ok (.lreturn, 1) := by decide +kernel
theorem dX9_share_82 : decode cX9_share 82 = .ok (.aload_n 0, 1) := by decide +kernel
theorem dX9_share_83 : decode cX9_share 83 = .ok (.getfield 27, 3) := by decide +kernel
theorem dX9_share_86 : decode cX9_share 86 = .ok (.iload_n 1, 1) := by decide +kernel
theorem dX9_share_87 : decode cX9_share 87 = .ok (.iload_n 2, 1) := by decide +kernel
theorem dX9_share_88 : decode cX9_share 88 = .ok (.invokevirtual 215, 3) := by decide +kernel
theorem dX9_share_91 : decode cX9_share 91 = .ok (.iload_n 3, 1) := by decide +kernel
theorem dX9_share_92 : decode cX9_share 92 = .ok (.invokevirtual 155, 3) := by decide +kernel
theorem dX9_share_95 : decode cX9_share 95 = .ok (.lreturn, 1) := by decide +kernel
theorem dX9_gets_0 : decode cX9_gets 0 = .ok (.aload_n 0, 1) := by decide +kernel
theorem dX9_gets_1 : decode cX9_gets 1 = .ok (.getfield 12, 3) := by decide +kernel
theorem dX9_gets_4 : decode cX9_gets 4 = .ok (.iload_n 1, 1) := by decide +kernel
theorem dX9_gets_5 : decode cX9_gets 5 = .ok (.invokevirtual 95, 3) := by decide +kernel
theorem dX9_gets_8 : decode cX9_gets 8 = .ok (.ifCond .eq 39, 3) := by decide +kernel
theorem dX9_gets_11 : decode cX9_gets 11 = .ok (.aload_n 0, 1) := by decide +kernel
theorem dX9_gets_12 : decode cX9_gets 12 = .ok (.getfield 12, 3) := by decide +kernel
theorem dX9_gets_15 : decode cX9_gets 15 = .ok (.iload_n 2, 1) := by decide +kernel
theorem dX9_gets_16 : decode cX9_gets 16 = .ok (.invokevirtual 95, 3) := by decide +kernel
theorem dX9_gets_19 : decode cX9_gets 19 = .ok (.ifCond .eq 28, 3) := by decide +kernel
theorem dX9_gets_22 : decode cX9_gets 22 = .ok (.iload_n 3, 1) := by decide +kernel
theorem dX9_gets_23 : decode cX9_gets 23 = .ok (.invokestatic 115, 3) := by decide +kernel
theorem dX9_gets_26 : decode cX9_gets 26 = .ok (.ifCond .eq 21, 3) := by decide +kernel
theorem dX9_gets_29 : decode cX9_gets 29 = .ok (.iload 4, 2) := by decide +kernel
theorem dX9_gets_31 : decode cX9_gets 31 = .ok (.invokestatic 115, 3) := by decide +kernel
theorem dX9_gets_34 : decode cX9_gets 34 = .ok (.ifCond .eq 13, 3) := by decide +kernel
theorem dX9_gets_37 : decode cX9_gets 37 = .ok (.aload_n 0, 1) := by decide +kernel
theorem dX9_gets_38 : decode cX9_gets 38 = .ok (.getfield 27, 3) := by decide +kernel
theorem dX9_gets_41 : decode cX9_gets 41 = .ok (.getfield 177, 3) := by decide +kernel
theorem dX9_gets_44 : decode cX9_gets 44 = .ok (.ifCond .ne 7, 3) := by decide +kernel
theorem dX9_gets_47 : decode cX9_gets 47 = .ok (.ldc2_w 126, 3) := by decide +kernel
theorem dX9_gets_50 : decode cX9_gets 50 = .ok (.lreturn, 1) := by decide +kernel
theorem dX9_gets_51 : decode cX9_gets 51 = .ok (.aload_n 0, 1) := by decide +kernel
theorem dX9_gets_52 : decode cX9_gets 52 = .ok (.aload_n 0, 1) := by decide +kernel
theorem dX9_gets_53 : decode cX9_gets 53 = .ok (.getfield 27, 3) := by decide +kernel
theorem dX9_gets_56 : decode cX9_gets 56 = .ok (.iload_n 2, 1) := by decide +kernel
theorem dX9_gets_57 : decode cX9_gets 57 = .ok (.aload_n 0, 1) := by decide +kernel
theorem dX9_gets_58 : decode cX9_gets 58 = .ok (.getfield 12, 3) := by decide +kernel
theorem dX9_gets_61 : decode cX9_gets 61 = .ok (.aload_n 0, 1) := by decide +kernel
theorem dX9_gets_62 : decode cX9_gets 62 = .ok (.getfield 12, 3) := by decide +kernel
theorem dX9_gets_65 : decode cX9_gets 65 = .ok (.iload_n 1, 1) := by decide +kernel
theorem dX9_gets_66 : decode cX9_gets 66 = .ok (.iload_n 3, 1) := by decide +kernel
theorem dX9_gets_67 : decode cX9_gets 67 = .ok (.invokevirtual 118, 3) := by decide +kernel
theorem dX9_gets_70 : decode cX9_gets 70 = .ok (.invokevirtual 219, 3) := by decide +kernel
theorem dX9_gets_73 : decode cX9_gets 73 = .ok (.aload_n 0, 1) := by decide +kernel
theorem dX9_gets_74 : decode cX9_gets 74 = .ok (.getfield 27, 3) := by decide +kernel
theorem dX9_gets_77 : decode cX9_gets 77 = .ok (.getfield 223, 3) := by decide +kernel
theorem dX9_gets_80 : decode cX9_gets 80 = .ok (.iload 4, 2) := by decide +kernel
theorem dX9_gets_82 : decode cX9_gets 82 = .ok (.invokevirtual 132, 3) := by decide +kernel
theorem dX9_gets_85 : decode cX9_gets 85 = .ok (.lreturn, 1) := by decide +kernel
theorem dX9_envies_0 : decode cX9_envies 0 = .ok (.aload_n 0, 1) := by decide +kernel
theorem dX9_envies_1 : decode cX9_envies 1 = .ok (.getfield 12, 3) := by decide +kernel
theorem dX9_envies_4 : decode cX9_envies 4 = .ok (.iload_n 1, 1) := by decide +kernel
theorem dX9_envies_5 : decode cX9_envies 5 = .ok (.invokevirtual 95, 3) := by decide +kernel
theorem dX9_envies_8 : decode cX9_envies 8 = .ok (.ifCond .eq 10, 3) := by decide +kernel
theorem dX9_envies_11 : decode cX9_envies 11 = .ok (.iload_n 2, 1) := by decide +kernel
theorem dX9_envies_12 : decode cX9_envies 12 = .ok (.invokestatic 115, 3) := by decide +kernel
theorem dX9_envies_15 : decode cX9_envies 15 = .ok (.ifCond .ne 5, 3) := by decide +kernel
theorem dX9_envies_18 : decode cX9_envies 18 = .ok (.iconst (-1), 1) := by decide +kernel
theorem dX9_envies_19 : decode cX9_envies 19 = .ok (.ireturn, 1) := by decide +kernel
theorem dX9_envies_20 : decode cX9_envies 20 = .ok (.aload_n 0, 1) := by decide +kernel
theorem dX9_envies_21 : decode cX9_envies 21 = .ok (.getfield 27, 3) := by decide +kernel
theorem dX9_envies_24 : decode cX9_envies 24 = .ok (.getfield 177, 3) := by decide +kernel
theorem dX9_envies_27 : decode cX9_envies 27 = .ok (.ifCond .ne 6, 3) := by decide +kernel
theorem dX9_envies_30 : decode cX9_envies 30 = .ok (.bipush (-5), 2) := by decide +kernel
theorem dX9_envies_32 : decode cX9_envies 32 = .ok (.ireturn, 1) := by decide +kernel
theorem dX9_envies_33 : decode cX9_envies 33 = .ok (.aload_n 0, 1) := by decide +kernel
theorem dX9_envies_34 : decode cX9_envies 34 = .ok (.getfield 12, 3) := by decide +kernel
theorem dX9_envies_37 : decode cX9_envies 37 = .ok (.iload_n 1, 1) := by decide +kernel
theorem dX9_envies_38 : decode cX9_envies 38 = .ok (.iload_n 2, 1) := by decide +kernel
theorem dX9_envies_39 : decode cX9_envies 39 = .ok (.invokevirtual 118, 3) := by decide +kernel
theorem dX9_envies_42 : decode cX9_envies 42 = .ok (.astore_n 3, 1) := by decide +kernel
theorem dX9_envies_43 : decode cX9_envies 43 = .ok (.aload_n 0, 1) := by decide +kernel
theorem dX9_envies_44 : decode cX9_envies 44 = .ok (.getfield 27, 3) := by decide +kernel
theorem dX9_envies_47 : decode cX9_envies 47 = .ok (.iload_n 1, 1) := by decide +kernel
theorem dX9_envies_48 : decode cX9_envies 48 = .ok (.aload_n 0, 1) := by decide +kernel
theorem dX9_envies_49 : decode cX9_envies 49 = .ok (.getfield 12, 3) := by decide +kernel
theorem dX9_envies_52 : decode cX9_envies 52 = .ok (.aload_n 3, 1) := by decide +kernel
theorem dX9_envies_53 : decode cX9_envies 53 = .ok (.invokevirtual 219, 3) := by decide +kernel
theorem dX9_envies_56 : decode cX9_envies 56 = .ok (.lstore 4, 2) := by decide +kernel
theorem dX9_envies_58 : decode cX9_envies 58 = .ok (.iconst 0, 1) := by decide +kernel
theorem dX9_envies_59 : decode cX9_envies 59 = .ok (.istore 6, 2) := by decide +kernel
theorem dX9_envies_61 : decode cX9_envies 61 = .ok (.iconst 0, 1) := by decide +kernel
theorem dX9_envies_62 : decode cX9_envies 62 = .ok (.istore 7, 2) := by decide +kernel
theorem dX9_envies_64 : decode cX9_envies 64 = .ok (.iload 7, 2) := by decide +kernel
theorem dX9_envies_66 : decode cX9_envies 66 = .ok (.aload_n 0, 1) := by decide +kernel
theorem dX9_envies_67 : decode cX9_envies 67 = .ok (.getfield 12, 3) := by decide +kernel
theorem dX9_envies_70 : decode cX9_envies 70 = .ok (.getfield 84, 3) := by decide +kernel
theorem dX9_envies_73 : decode cX9_envies 73 = .ok (.if_icmp .ge 38, 3) := by decide +kernel
theorem dX9_envies_76 : decode cX9_envies 76 = .ok (.aload_n 0, 1) := by decide +kernel
theorem dX9_envies_77 : decode cX9_envies 77 = .ok (.getfield 27, 3) := by decide +kernel
theorem dX9_envies_80 : decode cX9_envies 80 = .ok (.iload 7, 2) := by decide +kernel
theorem dX9_envies_82 : decode cX9_envies 82 = .ok (.aload_n 0, 1) := by decide +kernel
theorem dX9_envies_83 : decode cX9_envies 83 = .ok (.getfield 12, 3) := by decide +kernel
theorem dX9_envies_86 : decode cX9_envies 86 = .ok (.aload_n 3, 1) := by decide +kernel
theorem dX9_envies_87 : decode cX9_envies 87 = .ok (.invokevirtual 219, 3) := by decide +kernel
theorem dX9_envies_90 : decode cX9_envies 90 = .ok (.lload 4, 2) := by decide +kernel
theorem dX9_envies_92 : decode cX9_envies 92 = .ok (.lcmp, 1) := by decide +kernel
theorem dX9_envies_93 : decode cX9_envies 93 = .ok (.ifCond .le 12, 3) := by decide +kernel
theorem dX9_envies_96 : decode cX9_envies 96 = .ok (.iload 6, 2) := by decide +kernel
theorem dX9_envies_98 : decode cX9_envies 98 = .ok (.iconst 1, 1) := by decide +kernel
theorem dX9_envies_99 : decode cX9_envies 99 = .ok (.iload 7, 2) := by decide +kernel
theorem dX9_envies_101 : decode cX9_envies 101 = .ok (.ishl, 1) := by decide +kernel
theorem dX9_envies_102 : decode cX9_envies 102 = .ok (.ior, 1) := by decide +kernel
theorem dX9_envies_103 : decode cX9_envies 103 = .ok (.istore 6, 2) := by decide +kernel
theorem dX9_envies_105 : decode cX9_envies 105 = .ok (.iinc 7 1, 3) := by decide +kernel
theorem dX9_envies_108 : decode cX9_envies 108 = .ok (.goto (-44), 3) := by decide +kernel
theorem dX9_envies_111 : decode cX9_envies 111 = .ok (.iload 6, 2) := by decide +kernel
theorem dX9_envies_113 : decode cX9_envies 113 = .ok (.ireturn, 1) := by decide +kernel
theorem dX9_fair_0 : decode cX9_fair 0 = .ok (.iload_n 1, 1) := by decide +kernel
theorem dX9_fair_1 : decode cX9_fair 1 = .ok (.invokestatic 115, 3) := by decide +kernel
theorem dX9_fair_4 : decode cX9_fair 4 = .ok (.ifCond .ne 5, 3) := by decide +kernel
theorem dX9_fair_7 : decode cX9_fair 7 = .ok (.iconst (-1), 1) := by decide +kernel
theorem dX9_fair_8 : decode cX9_fair 8 = .ok (.ireturn, 1) := by decide +kernel
theorem dX9_fair_9 : decode cX9_fair 9 = .ok (.aload_n 0, 1) := by decide +kernel
theorem dX9_fair_10 : decode cX9_fair 10 = .ok (.getfield 27, 3) := by decide +kernel
theorem dX9_fair_13 : decode cX9_fair 13 = .ok (.getfield 177, 3) := by decide +kernel
theorem dX9_fair_16 : decode cX9_fair 16 = .ok (.ifCond .ne 6, 3) := by decide +kernel
theorem dX9_fair_19 : decode cX9_fair 19 = .ok (.bipush (-5), 2) := by decide +kernel
theorem dX9_fair_21 : decode cX9_fair 21 = .ok (.ireturn, 1) := by decide +kernel
theorem dX9_fair_22 : decode cX9_fair 22 = .ok (.iconst 0, 1) := by decide +kernel
theorem dX9_fair_23 : decode cX9_fair 23 = .ok (.istore_n 2, 1) := by decide +kernel
theorem dX9_fair_24 : decode cX9_fair 24 = .ok (.iconst 0, 1) := by decide +kernel
theorem dX9_fair_25 : decode cX9_fair 25 = .ok (.istore_n 3, 1) := by decide +kernel
theorem dX9_fair_26 : decode cX9_fair 26 = .ok (.iload_n 3, 1) := by decide +kernel
theorem dX9_fair_27 : decode cX9_fair 27 = .ok (.aload_n 0, 1) := by decide +kernel
theorem dX9_fair_28 : decode cX9_fair 28 = .ok (.getfield 12, 3) := by decide +kernel
theorem dX9_fair_31 : decode cX9_fair 31 = .ok (.getfield 84, 3) := by decide +kernel
theorem dX9_fair_34 : decode cX9_fair 34 = .ok (.if_icmp .ge 71, 3) := by decide +kernel
theorem dX9_fair_37 : decode cX9_fair 37 = .ok (.aload_n 0, 1) := by decide +kernel
theorem dX9_fair_38 : decode cX9_fair 38 = .ok (.getfield 12, 3) := by decide +kernel
theorem dX9_fair_41 : decode cX9_fair 41 = .ok (.iload_n 3, 1) := by decide +kernel
theorem dX9_fair_42 : decode cX9_fair 42 = .ok (.iload_n 1, 1) := by decide +kernel
theorem dX9_fair_43 : decode cX9_fair 43 = .ok (.invokevirtual 118, 3) := by decide +kernel
theorem dX9_fair_46 : decode cX9_fair 46 = .ok (.astore 4, 2) := by decide +kernel
theorem dX9_fair_48 : decode cX9_fair 48 = .ok (.aload_n 0, 1) := by decide +kernel
theorem dX9_fair_49 : decode cX9_fair 49 = .ok (.getfield 27, 3) := by decide +kernel
theorem dX9_fair_52 : decode cX9_fair 52 = .ok (.iload_n 3, 1) := by decide +kernel
theorem dX9_fair_53 : decode cX9_fair 53 = .ok (.aload_n 0, 1) := by decide +kernel
theorem dX9_fair_54 : decode cX9_fair 54 = .ok (.getfield 12, 3) := by decide +kernel
theorem dX9_fair_57 : decode cX9_fair 57 = .ok (.aload 4, 2) := by decide +kernel
theorem dX9_fair_59 : decode cX9_fair 59 = .ok (.invokevirtual 219, 3) := by decide +kernel
theorem dX9_fair_62 : decode cX9_fair 62 = .ok (.aload_n 0, 1) := by decide +kernel
theorem dX9_fair_63 : decode cX9_fair 63 = .ok (.getfield 12, 3) := by decide +kernel
theorem dX9_fair_66 : decode cX9_fair 66 = .ok (.getfield 84, 3) := by decide +kernel
theorem dX9_fair_69 : decode cX9_fair 69 = .ok (.i2l, 1) := by decide +kernel
theorem dX9_fair_70 : decode cX9_fair 70 = .ok (.lmul, 1) := by decide +kernel
theorem dX9_fair_71 : decode cX9_fair 71 = .ok (.aload_n 0, 1) := by decide +kernel
theorem dX9_fair_72 : decode cX9_fair 72 = .ok (.getfield 12, 3) := by decide +kernel
theorem dX9_fair_75 : decode cX9_fair 75 = .ok (.aload 4, 2) := by decide +kernel
theorem dX9_fair_77 : decode cX9_fair 77 = .ok (.invokevirtual 136, 3) := by decide +kernel
theorem dX9_fair_80 : decode cX9_fair 80 = .ok (.i2l, 1) := by decide +kernel
theorem dX9_fair_81 : decode cX9_fair 81 = .ok (.aload_n 0, 1) := by decide +kernel
theorem dX9_fair_82 : decode cX9_fair 82 = .ok (.getfield 27, 3) := by decide +kernel
theorem dX9_fair_85 : decode cX9_fair 85 = .ok (.getfield 223, 3) := by decide +kernel
theorem dX9_fair_88 : decode cX9_fair 88 = .ok (.lmul, 1) := by decide +kernel
theorem dX9_fair_89 : decode cX9_fair 89 = .ok (.lcmp, 1) := by decide +kernel
theorem dX9_fair_90 : decode cX9_fair 90 = .ok (.ifCond .lt 9, 3) := by decide +kernel
theorem dX9_fair_93 : decode cX9_fair 93 = .ok (.iload_n 2, 1) := by decide +kernel
theorem dX9_fair_94 : decode cX9_fair 94 = .ok (.iconst 1, 1) := by decide +kernel
theorem dX9_fair_95 : decode cX9_fair 95 = .ok (.iload_n 3, 1) := by decide +kernel
theorem dX9_fair_96 : decode cX9_fair 96 = .ok (.ishl, 1) := by decide +kernel
theorem dX9_fair_97 : decode cX9_fair 97 = .ok (.ior, 1) := by decide +kernel
theorem dX9_fair_98 : decode cX9_fair 98 = .ok (.istore_n 2, 1) := by decide +kernel
theorem dX9_fair_99 : decode cX9_fair 99 = .ok (.iinc 3 1, 3) := by decide +kernel
theorem dX9_fair_102 : decode cX9_fair 102 = .ok (.goto (-76), 3) := by decide +kernel
theorem dX9_fair_105 : decode cX9_fair 105 = .ok (.iload_n 2, 1) := by decide +kernel
theorem dX9_fair_106 : decode cX9_fair 106 = .ok (.ireturn, 1) := by decide +kernel
theorem dX9_exchange_0 : decode cX9_exchange 0 = .ok (.aload_n 0, 1) := by decide +kernel
theorem dX9_exchange_1 : decode cX9_exchange 1 = .ok (.getfield 27, 3) := by decide +kernel
theorem dX9_exchange_4 : decode cX9_exchange 4 = .ok (.getfield 177, 3) := by decide +kernel
theorem dX9_exchange_7 : decode cX9_exchange 7 = .ok (.ifCond .ne 6, 3) := by decide +kernel
theorem dX9_exchange_10 : decode cX9_exchange 10 = .ok (.bipush (-5), 2) := by decide +kernel
theorem dX9_exchange_12 : decode cX9_exchange 12 = .ok (.ireturn, 1) := by decide +kernel
theorem dX9_exchange_13 : decode cX9_exchange 13 = .ok (.aload_n 0, 1) := by decide +kernel
theorem dX9_exchange_14 : decode cX9_exchange 14 = .ok (.getfield 27, 3) := by decide +kernel
theorem dX9_exchange_17 : decode cX9_exchange 17 = .ok (.aload_n 0, 1) := by decide +kernel
theorem dX9_exchange_18 : decode cX9_exchange 18 = .ok (.getfield 12, 3) := by decide +kernel
theorem dX9_exchange_21 : decode cX9_exchange 21 = .ok (.invokevirtual 226, 3) := by decide +kernel
theorem dX9_exchange_24 : decode cX9_exchange 24 = .ok (.ireturn, 1) := by decide +kernel
theorem dX9_cuts_0 : decode cX9_cuts 0 = .ok (.aload_n 0, 1) := by decide +kernel
theorem dX9_cuts_1 : decode cX9_cuts 1 = .ok (.getfield 27, 3) := by decide +kernel
theorem dX9_cuts_4 : decode cX9_cuts 4 = .ok (.getfield 177, 3) := by decide +kernel
theorem dX9_cuts_7 : decode cX9_cuts 7 = .ok (.ifCond .ne 6, 3) := by decide +kernel
theorem dX9_cuts_10 : decode cX9_cuts 10 = .ok (.bipush (-5), 2) := by decide +kernel
theorem dX9_cuts_12 : decode cX9_cuts 12 = .ok (.ireturn, 1) := by decide +kernel
theorem dX9_cuts_13 : decode cX9_cuts 13 = .ok (.aload_n 0, 1) := by decide +kernel
theorem dX9_cuts_14 : decode cX9_cuts 14 = .ok (.getfield 27, 3) := by decide +kernel
theorem dX9_cuts_17 : decode cX9_cuts 17 = .ok (.aload_n 0, 1) := by decide +kernel
theorem dX9_cuts_18 : decode cX9_cuts 18 = .ok (.getfield 12, 3) := by decide +kernel
theorem dX9_cuts_21 : decode cX9_cuts 21 = .ok (.getfield 112, 3) := by decide +kernel
theorem dX9_cuts_24 : decode cX9_cuts 24 = .ok (.invokevirtual 230, 3) := by decide +kernel
theorem dX9_cuts_27 : decode cX9_cuts 27 = .ok (.ireturn, 1) := by decide +kernel
theorem dX9_off_0 : decode cX9_off 0 = .ok (.aload_n 0, 1) := by decide +kernel
theorem dX9_off_1 : decode cX9_off 1 = .ok (.getfield 12, 3) := by decide +kernel
theorem dX9_off_4 : decode cX9_off 4 = .ok (.iload_n 1, 1) := by decide +kernel
theorem dX9_off_5 : decode cX9_off 5 = .ok (.invokevirtual 95, 3) := by decide +kernel
theorem dX9_off_8 : decode cX9_off 8 = .ok (.ifCond .eq 27, 3) := by decide +kernel
theorem dX9_off_11 : decode cX9_off 11 = .ok (.iload_n 2, 1) := by decide +kernel
theorem dX9_off_12 : decode cX9_off 12 = .ok (.invokestatic 115, 3) := by decide +kernel
theorem dX9_off_15 : decode cX9_off 15 = .ok (.ifCond .eq 20, 3) := by decide +kernel
theorem dX9_off_18 : decode cX9_off 18 = .ok (.iload_n 3, 1) := by decide +kernel
theorem dX9_off_19 : decode cX9_off 19 = .ok (.invokestatic 115, 3) := by decide +kernel
theorem dX9_off_22 : decode cX9_off 22 = .ok (.ifCond .eq 13, 3) := by decide +kernel
theorem dX9_off_25 : decode cX9_off 25 = .ok (.aload_n 0, 1) := by decide +kernel
theorem dX9_off_26 : decode cX9_off 26 = .ok (.getfield 27, 3) := by decide +kernel
theorem dX9_off_29 : decode cX9_off 29 = .ok (.getfield 177, 3) := by decide +kernel
theorem dX9_off_32 : decode cX9_off 32 = .ok (.ifCond .ne 7, 3) := by decide +kernel
theorem dX9_off_35 : decode cX9_off 35 = .ok (.ldc2_w 126, 3) := by decide +kernel
theorem dX9_off_38 : decode cX9_off 38 = .ok (.lreturn, 1) := by decide +kernel
theorem dX9_off_39 : decode cX9_off 39 = .ok (.aload_n 0, 1) := by decide +kernel
theorem dX9_off_40 : decode cX9_off 40 = .ok (.getfield 12, 3) := by decide +kernel
theorem dX9_off_43 : decode cX9_off 43 = .ok (.getfield 105, 3) := by decide +kernel
theorem dX9_off_46 : decode cX9_off 46 = .ok (.iload_n 1, 1) := by decide +kernel
theorem dX9_off_47 : decode cX9_off 47 = .ok (.aaload, 1) := by decide +kernel
theorem dX9_off_48 : decode cX9_off 48 = .ok (.astore 4, 2) := by decide +kernel
theorem dX9_off_50 : decode cX9_off 50 = .ok (.iload_n 2, 1) := by decide +kernel
theorem dX9_off_51 : decode cX9_off 51 = .ok (.ifCond .ne 19, 3) := by decide +kernel
theorem dX9_off_54 : decode cX9_off 54 = .ok (.aload_n 0, 1) := by decide +kernel
theorem dX9_off_55 : decode cX9_off 55 = .ok (.getfield 27, 3) := by decide +kernel
theorem dX9_off_58 : decode cX9_off 58 = .ok (.aload_n 0, 1) := by decide +kernel
theorem dX9_off_59 : decode cX9_off 59 = .ok (.getfield 12, 3) := by decide +kernel
theorem dX9_off_62 : decode cX9_off 62 = .ok (.aload 4, 2) := by decide +kernel
theorem dX9_off_64 : decode cX9_off 64 = .ok (.invokevirtual 234, 3) := by decide +kernel
theorem dX9_off_67 : decode cX9_off 67 = .ok (.goto 16, 3) := by decide +kernel
theorem dX9_off_70 : decode cX9_off 70 = .ok (.aload_n 0, 1) := by decide +kernel
theorem dX9_off_71 : decode cX9_off 71 = .ok (.getfield 27, 3) := by decide +kernel
theorem dX9_off_74 : decode cX9_off 74 = .ok (.aload_n 0, 1) := by decide +kernel
theorem dX9_off_75 : decode cX9_off 75 = .ok (.getfield 12, 3) := by decide +kernel
theorem dX9_off_78 : decode cX9_off 78 = .ok (.aload 4, 2) := by decide +kernel
theorem dX9_off_80 : decode cX9_off 80 = .ok (.invokevirtual 238, 3) := by decide +kernel
theorem dX9_off_83 : decode cX9_off 83 = .ok (.lstore 5, 2) := by decide +kernel
theorem dX9_off_85 : decode cX9_off 85 = .ok (.aload_n 0, 1) := by decide +kernel
theorem dX9_off_86 : decode cX9_off 86 = .ok (.lload 5, 2) := by decide +kernel
theorem dX9_off_88 : decode cX9_off 88 = .ok (.aload_n 0, 1) := by decide +kernel
theorem dX9_off_89 : decode cX9_off 89 = .ok (.getfield 27, 3) := by decide +kernel
theorem dX9_off_92 : decode cX9_off 92 = .ok (.getfield 223, 3) := by decide +kernel
theorem dX9_off_95 : decode cX9_off 95 = .ok (.iload_n 3, 1) := by decide +kernel
theorem dX9_off_96 : decode cX9_off 96 = .ok (.invokevirtual 132, 3) := by decide +kernel
theorem dX9_off_99 : decode cX9_off 99 = .ok (.lreturn, 1) := by decide +kernel
theorem dX9_would_0 : decode cX9_would 0 = .ok (.iload_n 1, 1) := by decide +kernel
theorem dX9_would_1 : decode cX9_would 1 = .ok (.invokestatic 199, 3) := by decide +kernel
theorem dX9_would_4 : decode cX9_would 4 = .ok (.ifCond .eq 33, 3) := by decide +kernel
theorem dX9_would_7 : decode cX9_would 7 = .ok (.aload_n 0, 1) := by decide +kernel
theorem dX9_would_8 : decode cX9_would 8 = .ok (.getfield 12, 3) := by decide +kernel
theorem dX9_would_11 : decode cX9_would 11 = .ok (.iload_n 2, 1) := by decide +kernel
theorem dX9_would_12 : decode cX9_would 12 = .ok (.invokevirtual 95, 3) := by decide +kernel
theorem dX9_would_15 : decode cX9_would 15 = .ok (.ifCond .eq 22, 3) := by decide +kernel
theorem dX9_would_18 : decode cX9_would 18 = .ok (.aload_n 0, 1) := by decide +kernel
theorem dX9_would_19 : decode cX9_would 19 = .ok (.getfield 12, 3) := by decide +kernel
theorem dX9_would_22 : decode cX9_would 22 = .ok (.iload_n 3, 1) := by decide +kernel
theorem dX9_would_23 : decode cX9_would 23 = .ok (.invokevirtual 95, 3) := by decide +kernel
theorem dX9_would_26 : decode cX9_would 26 = .ok (.ifCond .eq 11, 3) := by decide +kernel
theorem dX9_would_29 : decode cX9_would 29 = .ok (.iload 4, 2) := by decide +kernel
theorem dX9_would_31 : decode cX9_would 31 = .ok (.invokestatic 115, 3) := by decide +kernel
theorem dX9_would_34 : decode cX9_would 34 = .ok (.ifCond .ne 7, 3) := by decide +kernel
theorem dX9_would_37 : decode cX9_would 37 = .ok (.ldc2_w 126, 3) := by decide +kernel
theorem dX9_would_40 : decode cX9_would 40 = .ok (.lreturn, 1) := by decide +kernel
theorem dX9_would_41 : decode cX9_would 41 = .ok (.aload_n 0, 1) := by decide +kernel
theorem dX9_would_42 : decode cX9_would 42 = .ok (.iload_n 1, 1) := by decide +kernel
theorem dX9_would_43 : decode cX9_would 43 = .ok (.invokevirtual 202, 3) := by decide +kernel
theorem dX9_would_46 : decode cX9_would 46 = .ok (.ifCond .eq 15, 3) := by decide +kernel
theorem dX9_would_49 : decode cX9_would 49 = .ok (.aload_n 0, 1) := by decide +kernel
theorem dX9_would_50 : decode cX9_would 50 = .ok (.getfield 42, 3) := by decide +kernel
theorem dX9_would_53 : decode cX9_would 53 = .ok (.iload_n 1, 1) := by decide +kernel
theorem dX9_would_54 : decode cX9_would 54 = .ok (.iload_n 2, 1) := by decide +kernel
theorem dX9_would_55 : decode cX9_would 55 = .ok (.invokevirtual 205, 3) := by decide +kernel
theorem dX9_would_58 : decode cX9_would 58 = .ok (.ifCond .ne 7, 3) := by decide +kernel
theorem dX9_would_61 : decode cX9_would 61 = .ok (.ldc2_w 126, 3) := by decide +kernel
theorem dX9_would_64 : decode cX9_would 64 = .ok (.lreturn, 1) := by decide +kernel
theorem dX9_would_65 : decode cX9_would 65 = .ok (.aload_n 0, 1) := by decide +kernel
theorem dX9_would_66 : decode cX9_would 66 = .ok (.aload_n 0, 1) := by decide +kernel
theorem dX9_would_67 : decode cX9_would 67 = .ok (.getfield 31, 3) := by decide +kernel
theorem dX9_would_70 : decode cX9_would 70 = .ok (.iload_n 3, 1) := by decide +kernel
theorem dX9_would_71 : decode cX9_would 71 = .ok (.aload_n 0, 1) := by decide +kernel
theorem dX9_would_72 : decode cX9_would 72 = .ok (.getfield 12, 3) := by decide +kernel
theorem dX9_would_75 : decode cX9_would 75 = .ok (.aload_n 0, 1) := by decide +kernel
theorem dX9_would_76 : decode cX9_would 76 = .ok (.getfield 12, 3) := by decide +kernel
theorem dX9_would_79 : decode cX9_would 79 = .ok (.getfield 105, 3) := by decide +kernel
theorem dX9_would_82 : decode cX9_would 82 = .ok (.iload_n 3, 1) := by decide +kernel
theorem dX9_would_83 : decode cX9_would 83 = .ok (.aaload, 1) := by decide +kernel
theorem dX9_would_84 : decode cX9_would 84 = .ok (.invokevirtual 219, 3) := by decide +kernel
theorem dX9_would_87 : decode cX9_would 87 = .ok (.aload_n 0, 1) := by decide +kernel
theorem dX9_would_88 : decode cX9_would 88 = .ok (.getfield 31, 3) := by decide +kernel
theorem dX9_would_91 : decode cX9_would 91 = .ok (.getfield 223, 3) := by decide +kernel
theorem dX9_would_94 : decode cX9_would 94 = .ok (.iload 4, 2) := by decide +kernel
theorem dX9_would_96 : decode cX9_would 96 = .ok (.invokevirtual 132, 3) := by decide +kernel
theorem dX9_would_99 : decode cX9_would 99 = .ok (.lreturn, 1) := by decide +kernel
theorem dX9_lie_0 : decode cX9_lie 0 = .ok (.iload_n 1, 1) := by decide +kernel
theorem dX9_lie_1 : decode cX9_lie 1 = .ok (.invokestatic 199, 3) := by decide +kernel
theorem dX9_lie_4 : decode cX9_lie 4 = .ok (.ifCond .eq 36, 3) := by decide +kernel
theorem dX9_lie_7 : decode cX9_lie 7 = .ok (.aload_n 0, 1) := by decide +kernel
theorem dX9_lie_8 : decode cX9_lie 8 = .ok (.getfield 12, 3) := by decide +kernel
theorem dX9_lie_11 : decode cX9_lie 11 = .ok (.iload_n 2, 1) := by decide +kernel
theorem dX9_lie_12 : decode cX9_lie 12 = .ok (.invokevirtual 95, 3) := by decide +kernel
theorem dX9_lie_15 : decode cX9_lie 15 = .ok (.ifCond .eq 25, 3) := by decide +kernel
theorem dX9_lie_18 : decode cX9_lie 18 = .ok (.aload_n 0, 1) := by decide +kernel
theorem dX9_lie_19 : decode cX9_lie 19 = .ok (.getfield 12, 3) := by decide +kernel
theorem dX9_lie_22 : decode cX9_lie 22 = .ok (.iload_n 3, 1) := by decide +kernel
theorem dX9_lie_23 : decode cX9_lie 23 = .ok (.invokevirtual 95, 3) := by decide +kernel
theorem dX9_lie_26 : decode cX9_lie 26 = .ok (.ifCond .eq 14, 3) := by decide +kernel
theorem dX9_lie_29 : decode cX9_lie 29 = .ok (.iload 4, 2) := by decide +kernel
theorem dX9_lie_31 : decode cX9_lie 31 = .ok (.ifCond .lt 9, 3) := by decide +kernel
theorem dX9_lie_34 : decode cX9_lie 34 = .ok (.iload 4, 2) := by decide +kernel
theorem dX9_lie_36 : decode cX9_lie 36 = .ok (.iconst 2, 1) := by decide +kernel
theorem dX9_lie_37 : decode cX9_lie 37 = .ok (.if_icmp .le 7, 3) := by decide +kernel
theorem dX9_lie_40 : decode cX9_lie 40 = .ok (.ldc2_w 126, 3) := by decide +kernel
theorem dX9_lie_43 : decode cX9_lie 43 = .ok (.lreturn, 1) := by decide +kernel
theorem dX9_lie_44 : decode cX9_lie 44 = .ok (.aload_n 0, 1) := by decide +kernel
theorem dX9_lie_45 : decode cX9_lie 45 = .ok (.iload_n 1, 1) := by decide +kernel
theorem dX9_lie_46 : decode cX9_lie 46 = .ok (.invokevirtual 202, 3) := by decide +kernel
theorem dX9_lie_49 : decode cX9_lie 49 = .ok (.ifCond .eq 15, 3) := by decide +kernel
theorem dX9_lie_52 : decode cX9_lie 52 = .ok (.aload_n 0, 1) := by decide +kernel
theorem dX9_lie_53 : decode cX9_lie 53 = .ok (.getfield 42, 3) := by decide +kernel
theorem dX9_lie_56 : decode cX9_lie 56 = .ok (.iload_n 1, 1) := by decide +kernel
theorem dX9_lie_57 : decode cX9_lie 57 = .ok (.iload_n 2, 1) := by decide +kernel
theorem dX9_lie_58 : decode cX9_lie 58 = .ok (.invokevirtual 205, 3) := by decide +kernel
theorem dX9_lie_61 : decode cX9_lie 61 = .ok (.ifCond .ne 7, 3) := by decide +kernel
theorem dX9_lie_64 : decode cX9_lie 64 = .ok (.ldc2_w 126, 3) := by decide +kernel
theorem dX9_lie_67 : decode cX9_lie 67 = .ok (.lreturn, 1) := by decide +kernel
theorem dX9_lie_68 : decode cX9_lie 68 = .ok (.aload_n 0, 1) := by decide +kernel
theorem dX9_lie_69 : decode cX9_lie 69 = .ok (.getfield 74, 3) := by decide +kernel
theorem dX9_lie_72 : decode cX9_lie 72 = .ok (.aload_n 0, 1) := by decide +kernel
theorem dX9_lie_73 : decode cX9_lie 73 = .ok (.getfield 31, 3) := by decide +kernel
theorem dX9_lie_76 : decode cX9_lie 76 = .ok (.iload_n 3, 1) := by decide +kernel
theorem dX9_lie_77 : decode cX9_lie 77 = .ok (.aload_n 0, 1) := by decide +kernel
theorem dX9_lie_78 : decode cX9_lie 78 = .ok (.getfield 12, 3) := by decide +kernel
theorem dX9_lie_81 : decode cX9_lie 81 = .ok (.aload_n 0, 1) := by decide +kernel
theorem dX9_lie_82 : decode cX9_lie 82 = .ok (.getfield 12, 3) := by decide +kernel
theorem dX9_lie_85 : decode cX9_lie 85 = .ok (.getfield 105, 3) := by decide +kernel
theorem dX9_lie_88 : decode cX9_lie 88 = .ok (.iload_n 3, 1) := by decide +kernel
theorem dX9_lie_89 : decode cX9_lie 89 = .ok (.aaload, 1) := by decide +kernel
theorem dX9_lie_90 : decode cX9_lie 90 = .ok (.invokevirtual 219, 3) := by decide +kernel
theorem dX9_lie_93 : decode cX9_lie 93 = .ok (.aload_n 0, 1) := by decide +kernel
theorem dX9_lie_94 : decode cX9_lie 94 = .ok (.getfield 31, 3) := by decide +kernel
theorem dX9_lie_97 : decode cX9_lie 97 = .ok (.getfield 223, 3) := by decide +kernel
theorem dX9_lie_100 : decode cX9_lie 100 = .ok (.invokevirtual 241, 3) := by decide +kernel
theorem dX9_lie_103 : decode cX9_lie 103 = .ok (.iconst (-1), 1) := by decide +kernel
theorem dX9_lie_104 : decode cX9_lie 104 = .ok (.istore 5, 2) := by decide +kernel
theorem dX9_lie_106 : decode cX9_lie 106 = .ok (.iconst 0, 1) := by decide +kernel
theorem dX9_lie_107 : decode cX9_lie 107 = .ok (.istore 6, 2) := by decide +kernel
theorem dX9_lie_109 : decode cX9_lie 109 = .ok (.iload 6, 2) := by decide +kernel
theorem dX9_lie_111 : decode cX9_lie 111 = .ok (.aload_n 0, 1) := by decide +kernel
theorem dX9_lie_112 : decode cX9_lie 112 = .ok (.getfield 12, 3) := by decide +kernel
theorem dX9_lie_115 : decode cX9_lie 115 = .ok (.getfield 112, 3) := by decide +kernel
theorem dX9_lie_118 : decode cX9_lie 118 = .ok (.if_icmp .ge 88, 3) := by decide +kernel
theorem dX9_lie_121 : decode cX9_lie 121 = .ok (.iconst 0, 1) := by decide +kernel
theorem dX9_lie_122 : decode cX9_lie 122 = .ok (.istore 7, 2) := by decide +kernel
theorem dX9_lie_124 : decode cX9_lie 124 = .ok (.iload 7, 2) := by decide +kernel
theorem dX9_lie_126 : decode cX9_lie 126 = .ok (.aload_n 0, 1) := by decide +kernel
theorem dX9_lie_127 : decode cX9_lie 127 = .ok (.getfield 12, 3) := by decide +kernel
theorem dX9_lie_130 : decode cX9_lie 130 = .ok (.getfield 112, 3) := by decide +kernel
theorem dX9_lie_133 : decode cX9_lie 133 = .ok (.if_icmp .ge 67, 3) := by decide +kernel
theorem dX9_lie_136 : decode cX9_lie 136 = .ok (.aload_n 0, 1) := by decide +kernel
theorem dX9_lie_137 : decode cX9_lie 137 = .ok (.getfield 12, 3) := by decide +kernel
theorem dX9_lie_140 : decode cX9_lie 140 = .ok (.iload_n 3, 1) := by decide +kernel
theorem dX9_lie_141 : decode cX9_lie 141 = .ok (.iload 6, 2) := by decide +kernel
theorem dX9_lie_143 : decode cX9_lie 143 = .ok (.iload 7, 2) := by decide +kernel
theorem dX9_lie_145 : decode cX9_lie 145 = .ok (.invokevirtual 245, 3) := by decide +kernel
theorem dX9_lie_148 : decode cX9_lie 148 = .ok (.ifCond .eq 46, 3) := by decide +kernel
theorem dX9_lie_151 : decode cX9_lie 151 = .ok (.aload_n 0, 1) := by decide +kernel
theorem dX9_lie_152 : decode cX9_lie 152 = .ok (.getfield 42, 3) := by decide +kernel
theorem dX9_lie_155 : decode cX9_lie 155 = .ok (.iload_n 1, 1) := by decide +kernel
theorem dX9_lie_156 : decode cX9_lie 156 = .ok (.iload_n 2, 1) := by decide +kernel
theorem dX9_lie_157 : decode cX9_lie 157 = .ok (.invokevirtual 205, 3) := by decide +kernel
theorem dX9_lie_160 : decode cX9_lie 160 = .ok (.ifCond .eq 21, 3) := by decide +kernel
theorem dX9_lie_163 : decode cX9_lie 163 = .ok (.aload_n 0, 1) := by decide +kernel
theorem dX9_lie_164 : decode cX9_lie 164 = .ok (.iload_n 3, 1) := by decide +kernel
theorem dX9_lie_165 : decode cX9_lie 165 = .ok (.invokevirtual 249, 3) := by decide +kernel
theorem dX9_lie_168 : decode cX9_lie 168 = .ok (.ifCond .eq 13, 3) := by decide +kernel
theorem dX9_lie_171 : decode cX9_lie 171 = .ok (.bipush 100, 2) := by decide +kernel
theorem dX9_lie_173 : decode cX9_lie 173 = .ok (.iload 6, 2) := by decide +kernel
theorem dX9_lie_175 : decode cX9_lie 175 = .ok (.imul, 1) := by decide +kernel
theorem dX9_lie_176 : decode cX9_lie 176 = .ok (.iload 7, 2) := by decide +kernel
theorem dX9_lie_178 : decode cX9_lie 178 = .ok (.iadd, 1) := by decide +kernel
theorem dX9_lie_179 : decode cX9_lie 179 = .ok (.istore 5, 2) := by decide +kernel
theorem dX9_lie_181 : decode cX9_lie 181 = .ok (.aload_n 0, 1) := by decide +kernel
theorem dX9_lie_182 : decode cX9_lie 182 = .ok (.getfield 12, 3) := by decide +kernel
theorem dX9_lie_185 : decode cX9_lie 185 = .ok (.iload_n 3, 1) := by decide +kernel
theorem dX9_lie_186 : decode cX9_lie 186 = .ok (.iload 7, 2) := by decide +kernel
theorem dX9_lie_188 : decode cX9_lie 188 = .ok (.iload 6, 2) := by decide +kernel
theorem dX9_lie_190 : decode cX9_lie 190 = .ok (.invokevirtual 245, 3) := by decide +kernel
theorem dX9_lie_193 : decode cX9_lie 193 = .ok (.pop, 1) := by decide +kernel
theorem dX9_lie_194 : decode cX9_lie 194 = .ok (.iinc 7 1, 3) := by decide +kernel
theorem dX9_lie_197 : decode cX9_lie 197 = .ok (.goto (-73), 3) := by decide +kernel
theorem dX9_lie_200 : decode cX9_lie 200 = .ok (.iinc 6 1, 3) := by decide +kernel
theorem dX9_lie_203 : decode cX9_lie 203 = .ok (.goto (-94), 3) := by decide +kernel
theorem dX9_lie_206 : decode cX9_lie 206 = .ok (.iload 5, 2) := by decide +kernel
theorem dX9_lie_208 : decode cX9_lie 208 = .ok (.ifCond .ge 7, 3) := by decide +kernel
theorem dX9_lie_211 : decode cX9_lie 211 = .ok (.ldc2_w 126, 3) := by decide +kernel
theorem dX9_lie_214 : decode cX9_lie 214 = .ok (.lreturn, 1) := by decide +kernel
theorem dX9_lie_215 : decode cX9_lie 215 = .ok (.iload 4, 2) := by decide +kernel
theorem dX9_lie_217 : decode cX9_lie 217 = .ok (.ifCond .ne 9, 3) := by decide +kernel
theorem dX9_lie_220 : decode cX9_lie 220 = .ok (.iload 5, 2) := by decide +kernel
theorem dX9_lie_222 : decode cX9_lie 222 = .ok (.i2l, 1) := by decide +kernel
theorem dX9_lie_223 : decode cX9_lie 223 = .ok (.goto 14, 3) := by decide +kernel
theorem dX9_lie_226 : decode cX9_lie 226 = .ok (.aload_n 0, 1) := by decide +kernel
theorem dX9_lie_227 : decode cX9_lie 227 = .ok (.getfield 74, 3) := by decide +kernel
theorem dX9_lie_230 : decode cX9_lie 230 = .ok (.iload 4, 2) := by decide +kernel
theorem dX9_lie_232 : decode cX9_lie 232 = .ok (.iconst 1, 1) := by decide +kernel
theorem dX9_lie_233 : decode cX9_lie 233 = .ok (.isub, 1) := by decide +kernel
theorem dX9_lie_234 : decode cX9_lie 234 = .ok (.invokevirtual 252, 3) := by decide +kernel
theorem dX9_lie_237 : decode cX9_lie 237 = .ok (.lreturn, 1) := by decide +kernel
theorem dX9_best_0 : decode cX9_best 0 = .ok (.aload_n 0, 1) := by decide +kernel
theorem dX9_best_1 : decode cX9_best 1 = .ok (.getfield 12, 3) := by decide +kernel
theorem dX9_best_4 : decode cX9_best 4 = .ok (.iload_n 1, 1) := by decide +kernel
theorem dX9_best_5 : decode cX9_best 5 = .ok (.invokevirtual 95, 3) := by decide +kernel
theorem dX9_best_8 : decode cX9_best 8 = .ok (.ifCond .eq 14, 3) := by decide +kernel
theorem dX9_best_11 : decode cX9_best 11 = .ok (.aload_n 0, 1) := by decide +kernel
theorem dX9_best_12 : decode cX9_best 12 = .ok (.getfield 12, 3) := by decide +kernel
theorem dX9_best_15 : decode cX9_best 15 = .ok (.iload_n 2, 1) := by decide +kernel
theorem dX9_best_16 : decode cX9_best 16 = .ok (.invokevirtual 95, 3) := by decide +kernel
theorem dX9_best_19 : decode cX9_best 19 = .ok (.ifCond .ne 5, 3) := by decide +kernel
theorem dX9_best_22 : decode cX9_best 22 = .ok (.iconst (-1), 1) := by decide +kernel
theorem dX9_best_23 : decode cX9_best 23 = .ok (.ireturn, 1) := by decide +kernel
theorem dX9_best_24 : decode cX9_best 24 = .ok (.bipush (-2), 2) := by decide +kernel
theorem dX9_best_26 : decode cX9_best 26 = .ok (.istore_n 3, 1) := by decide +kernel
theorem dX9_best_27 : decode cX9_best 27 = .ok (.iconst 0, 1) := by decide +kernel
theorem dX9_best_28 : decode cX9_best 28 = .ok (.istore 4, 2) := by decide +kernel
theorem dX9_best_30 : decode cX9_best 30 = .ok (.iload 4, 2) := by decide +kernel
theorem dX9_best_32 : decode cX9_best 32 = .ok (.iconst 4, 1) := by decide +kernel
theorem dX9_best_33 : decode cX9_best 33 = .ok (.if_icmp .gt 89, 3) := by decide +kernel
theorem dX9_best_36 : decode cX9_best 36 = .ok (.aload_n 0, 1) := by decide +kernel
theorem dX9_best_37 : decode cX9_best 37 = .ok (.iload 4, 2) := by decide +kernel
theorem dX9_best_39 : decode cX9_best 39 = .ok (.invokevirtual 202, 3) := by decide +kernel
theorem dX9_best_42 : decode cX9_best 42 = .ok (.ifCond .eq 74, 3) := by decide +kernel
theorem dX9_best_45 : decode cX9_best 45 = .ok (.aload_n 0, 1) := by decide +kernel
theorem dX9_best_46 : decode cX9_best 46 = .ok (.getfield 42, 3) := by decide +kernel
theorem dX9_best_49 : decode cX9_best 49 = .ok (.iload 4, 2) := by decide +kernel
theorem dX9_best_51 : decode cX9_best 51 = .ok (.iload_n 2, 1) := by decide +kernel
theorem dX9_best_52 : decode cX9_best 52 = .ok (.invokevirtual 205, 3) := by decide +kernel
theorem dX9_best_55 : decode cX9_best 55 = .ok (.ifCond .eq 61, 3) := by decide +kernel
theorem dX9_best_58 : decode cX9_best 58 = .ok (.iload_n 3, 1) := by decide +kernel
theorem dX9_best_59 : decode cX9_best 59 = .ok (.bipush (-2), 2) := by decide +kernel
theorem dX9_best_61 : decode cX9_best 61 = .ok (.if_icmp .ne 44, 3) := by decide +kernel
theorem dX9_best_64 : decode cX9_best 64 = .ok (.aload_n 0, 1) := by decide +kernel
theorem dX9_best_65 : decode cX9_best 65 = .ok (.getfield 74, 3) := by decide +kernel
theorem dX9_best_68 : decode cX9_best 68 = .ok (.aload_n 0, 1) := by decide +kernel
theorem dX9_best_69 : decode cX9_best 69 = .ok (.getfield 31, 3) := by decide +kernel
theorem dX9_best_72 : decode cX9_best 72 = .ok (.iload_n 1, 1) := by decide +kernel
theorem dX9_best_73 : decode cX9_best 73 = .ok (.aload_n 0, 1) := by decide +kernel
theorem dX9_best_74 : decode cX9_best 74 = .ok (.getfield 12, 3) := by decide +kernel
theorem dX9_best_77 : decode cX9_best 77 = .ok (.aload_n 0, 1) := by decide +kernel
theorem dX9_best_78 : decode cX9_best 78 = .ok (.getfield 12, 3) := by decide +kernel
theorem dX9_best_81 : decode cX9_best 81 = .ok (.getfield 105, 3) := by decide +kernel
theorem dX9_best_84 : decode cX9_best 84 = .ok (.iload_n 1, 1) := by decide +kernel
theorem dX9_best_85 : decode cX9_best 85 = .ok (.aaload, 1) := by decide +kernel
theorem dX9_best_86 : decode cX9_best 86 = .ok (.invokevirtual 219, 3) := by decide +kernel
theorem dX9_best_89 : decode cX9_best 89 = .ok (.aload_n 0, 1) := by decide +kernel
theorem dX9_best_90 : decode cX9_best 90 = .ok (.getfield 31, 3) := by decide +kernel
theorem dX9_best_93 : decode cX9_best 93 = .ok (.getfield 223, 3) := by decide +kernel
theorem dX9_best_96 : decode cX9_best 96 = .ok (.invokevirtual 241, 3) := by decide +kernel
theorem dX9_best_99 : decode cX9_best 99 = .ok (.iload 4, 2) := by decide +kernel
theorem dX9_best_101 : decode cX9_best 101 = .ok (.istore_n 3, 1) := by decide +kernel
theorem dX9_best_102 : decode cX9_best 102 = .ok (.goto 14, 3) := by decide +kernel
theorem dX9_best_105 : decode cX9_best 105 = .ok (.aload_n 0, 1) := by decide +kernel
theorem dX9_best_106 : decode cX9_best 106 = .ok (.iload_n 1, 1) := by decide +kernel
theorem dX9_best_107 : decode cX9_best 107 = .ok (.invokevirtual 249, 3) := by decide +kernel
theorem dX9_best_110 : decode cX9_best 110 = .ok (.ifCond .eq 6, 3) := by decide +kernel
theorem dX9_best_113 : decode cX9_best 113 = .ok (.iload 4, 2) := by decide +kernel
theorem dX9_best_115 : decode cX9_best 115 = .ok (.istore_n 3, 1) := by decide +kernel
theorem dX9_best_116 : decode cX9_best 116 = .ok (.iinc 4 1, 3) := by decide +kernel
theorem dX9_best_119 : decode cX9_best 119 = .ok (.goto (-89), 3) := by decide +kernel
theorem dX9_best_122 : decode cX9_best 122 = .ok (.iload_n 3, 1) := by decide +kernel
theorem dX9_best_123 : decode cX9_best 123 = .ok (.ireturn, 1) := by decide +kernel
theorem dX9_list_0 : decode cX9_list 0 = .ok (.aload_n 0, 1) := by decide +kernel
theorem dX9_list_1 : decode cX9_list 1 = .ok (.getfield 63, 3) := by decide +kernel
theorem dX9_list_4 : decode cX9_list 4 = .ok (.iload_n 1, 1) := by decide +kernel
theorem dX9_list_5 : decode cX9_list 5 = .ok (.invokevirtual 253, 3) := by decide +kernel
theorem dX9_list_8 : decode cX9_list 8 = .ok (.ifCond .eq 9, 3) := by decide +kernel
theorem dX9_list_11 : decode cX9_list 11 = .ok (.iload_n 2, 1) := by decide +kernel
theorem dX9_list_12 : decode cX9_list 12 = .ok (.bipush 20, 2) := by decide +kernel
theorem dX9_list_14 : decode cX9_list 14 = .ok (.if_icmp .le 5, 3) := by decide +kernel
theorem dX9_list_17 : decode cX9_list 17 = .ok (.iconst (-1), 1) := by decide +kernel
theorem dX9_list_18 : decode cX9_list 18 = .ok (.ireturn, 1) := by decide +kernel
theorem dX9_list_19 : decode cX9_list 19 = .ok (.iload_n 2, 1) := by decide +kernel
theorem dX9_list_20 : decode cX9_list 20 = .ok (.ifCond .ge 6, 3) := by decide +kernel
theorem dX9_list_23 : decode cX9_list 23 = .ok (.bipush (-14), 2) := by decide +kernel
theorem dX9_list_25 : decode cX9_list 25 = .ok (.ireturn, 1) := by decide +kernel
theorem dX9_list_26 : decode cX9_list 26 = .ok (.aload_n 0, 1) := by decide +kernel
theorem dX9_list_27 : decode cX9_list 27 = .ok (.getfield 63, 3) := by decide +kernel
theorem dX9_list_30 : decode cX9_list 30 = .ok (.iload_n 1, 1) := by decide +kernel
theorem dX9_list_31 : decode cX9_list 31 = .ok (.iload_n 2, 1) := by decide +kernel
theorem dX9_list_32 : decode cX9_list 32 = .ok (.invokevirtual 256, 3) := by decide +kernel
theorem dX9_list_35 : decode cX9_list 35 = .ok (.iconst 1, 1) := by decide +kernel
theorem dX9_list_36 : decode cX9_list 36 = .ok (.ireturn, 1) := by decide +kernel
theorem dX9_set_0 : decode cX9_set 0 = .ok (.aload_n 0, 1) := by decide +kernel
theorem dX9_set_1 : decode cX9_set 1 = .ok (.getfield 63, 3) := by decide +kernel
theorem dX9_set_4 : decode cX9_set 4 = .ok (.iload_n 1, 1) := by decide +kernel
theorem dX9_set_5 : decode cX9_set 5 = .ok (.invokevirtual 253, 3) := by decide +kernel
theorem dX9_set_8 : decode cX9_set 8 = .ok (.ifCond .ne 5, 3) := by decide +kernel
theorem dX9_set_11 : decode cX9_set 11 = .ok (.iconst (-1), 1) := by decide +kernel
theorem dX9_set_12 : decode cX9_set 12 = .ok (.ireturn, 1) := by decide +kernel
theorem dX9_set_13 : decode cX9_set 13 = .ok (.aload_n 0, 1) := by decide +kernel
theorem dX9_set_14 : decode cX9_set 14 = .ok (.getfield 63, 3) := by decide +kernel
theorem dX9_set_17 : decode cX9_set 17 = .ok (.iload_n 1, 1) := by decide +kernel
theorem dX9_set_18 : decode cX9_set 18 = .ok (.invokevirtual 257, 3) := by decide +kernel
theorem dX9_set_21 : decode cX9_set 21 = .ok (.ifCond .ne 6, 3) := by decide +kernel
theorem dX9_set_24 : decode cX9_set 24 = .ok (.bipush (-11), 2) := by decide +kernel
theorem dX9_set_26 : decode cX9_set 26 = .ok (.ireturn, 1) := by decide +kernel
theorem dX9_set_27 : decode cX9_set 27 = .ok (.aload_n 0, 1) := by decide +kernel
theorem dX9_set_28 : decode cX9_set 28 = .ok (.getfield 63, 3) := by decide +kernel
theorem dX9_set_31 : decode cX9_set 31 = .ok (.iload_n 1, 1) := by decide +kernel
theorem dX9_set_32 : decode cX9_set 32 = .ok (.iload_n 2, 1) := by decide +kernel
theorem dX9_set_33 : decode cX9_set 33 = .ok (.invokevirtual 260, 3) := by decide +kernel
theorem dX9_set_36 : decode cX9_set 36 = .ok (.ifCond .ne 6, 3) := by decide +kernel
theorem dX9_set_39 : decode cX9_set 39 = .ok (.bipush (-13), 2) := by decide +kernel
theorem dX9_set_41 : decode cX9_set 41 = .ok (.ireturn, 1) := by decide +kernel
theorem dX9_set_42 : decode cX9_set 42 = .ok (.aload_n 0, 1) := by decide +kernel
theorem dX9_set_43 : decode cX9_set 43 = .ok (.getfield 63, 3) := by decide +kernel
theorem dX9_set_46 : decode cX9_set 46 = .ok (.getfield 263, 3) := by decide +kernel
theorem dX9_set_49 : decode cX9_set 49 = .ok (.iload_n 1, 1) := by decide +kernel
theorem dX9_set_50 : decode cX9_set 50 = .ok (.aaload, 1) := by decide +kernel
theorem dX9_set_51 : decode cX9_set 51 = .ok (.iload_n 2, 1) := by decide +kernel
theorem dX9_set_52 : decode cX9_set 52 = .ok (.iload_n 3, 1) := by decide +kernel
theorem dX9_set_53 : decode cX9_set 53 = .ok (.iastore, 1) := by decide +kernel
theorem dX9_set_54 : decode cX9_set 54 = .ok (.iconst 1, 1) := by decide +kernel
theorem dX9_set_55 : decode cX9_set 55 = .ok (.ireturn, 1) := by decide +kernel
theorem dX9_get_0 : decode cX9_get 0 = .ok (.aload_n 0, 1) := by decide +kernel
theorem dX9_get_1 : decode cX9_get 1 = .ok (.getfield 63, 3) := by decide +kernel
theorem dX9_get_4 : decode cX9_get 4 = .ok (.iload_n 1, 1) := by decide +kernel
theorem dX9_get_5 : decode cX9_get 5 = .ok (.invokevirtual 253, 3) := by decide +kernel
theorem dX9_get_8 : decode cX9_get 8 = .ok (.ifCond .eq 15, 3) := by decide +kernel
theorem dX9_get_11 : decode cX9_get 11 = .ok (.aload_n 0, 1) := by decide +kernel
theorem dX9_get_12 : decode cX9_get 12 = .ok (.getfield 63, 3) := by decide +kernel
theorem dX9_get_15 : decode cX9_get 15 = .ok (.iload_n 1, 1) := by decide +kernel
theorem dX9_get_16 : decode cX9_get 16 = .ok (.iload_n 2, 1) := by decide +kernel
theorem dX9_get_17 : decode cX9_get 17 = .ok (.invokevirtual 260, 3) := by decide +kernel
theorem dX9_get_20 : decode cX9_get 20 = .ok (.ifCond .ne 7, 3) := by decide +kernel
theorem dX9_get_23 : decode cX9_get 23 = .ok (.ldc2_w 126, 3) := by decide +kernel
theorem dX9_get_26 : decode cX9_get 26 = .ok (.lreturn, 1) := by decide +kernel
theorem dX9_get_27 : decode cX9_get 27 = .ok (.aload_n 0, 1) := by decide +kernel
theorem dX9_get_28 : decode cX9_get 28 = .ok (.getfield 63, 3) := by decide +kernel
theorem dX9_get_31 : decode cX9_get 31 = .ok (.getfield 263, 3) := by decide +kernel
theorem dX9_get_34 : decode cX9_get 34 = .ok (.iload_n 1, 1) := by decide +kernel
theorem dX9_get_35 : decode cX9_get 35 = .ok (.aaload, 1) := by decide +kernel
theorem dX9_get_36 : decode cX9_get 36 = .ok (.iload_n 2, 1) := by decide +kernel
theorem dX9_get_37 : decode cX9_get 37 = .ok (.iaload, 1) := by decide +kernel
theorem dX9_get_38 : decode cX9_get 38 = .ok (.i2l, 1) := by decide +kernel
theorem dX9_get_39 : decode cX9_get 39 = .ok (.lreturn, 1) := by decide +kernel
theorem dX9_into_0 : decode cX9_into 0 = .ok (.aload_n 0, 1) := by decide +kernel
theorem dX9_into_1 : decode cX9_into 1 = .ok (.iload_n 1, 1) := by decide +kernel
theorem dX9_into_2 : decode cX9_into 2 = .ok (.iload_n 2, 1) := by decide +kernel
theorem dX9_into_3 : decode cX9_into 3 = .ok (.iload_n 3, 1) := by decide +kernel
theorem dX9_into_4 : decode cX9_into 4 = .ok (.invokevirtual 266, 3) := by decide +kernel
theorem dX9_into_7 : decode cX9_into 7 = .ok (.istore 4, 2) := by decide +kernel
theorem dX9_into_9 : decode cX9_into 9 = .ok (.iload 4, 2) := by decide +kernel
theorem dX9_into_11 : decode cX9_into 11 = .ok (.ifCond .eq 6, 3) := by decide +kernel
theorem dX9_into_14 : decode cX9_into 14 = .ok (.iload 4, 2) := by decide +kernel
theorem dX9_into_16 : decode cX9_into 16 = .ok (.ireturn, 1) := by decide +kernel
theorem dX9_into_17 : decode cX9_into 17 = .ok (.iconst 0, 1) := by decide +kernel
theorem dX9_into_18 : decode cX9_into 18 = .ok (.istore 5, 2) := by decide +kernel
theorem dX9_into_20 : decode cX9_into 20 = .ok (.iload 5, 2) := by decide +kernel
theorem dX9_into_22 : decode cX9_into 22 = .ok (.aload_n 0, 1) := by decide +kernel
theorem dX9_into_23 : decode cX9_into 23 = .ok (.getfield 12, 3) := by decide +kernel
theorem dX9_into_26 : decode cX9_into 26 = .ok (.getfield 112, 3) := by decide +kernel
theorem dX9_into_29 : decode cX9_into 29 = .ok (.if_icmp .ge 50, 3) := by decide +kernel
theorem dX9_into_32 : decode cX9_into 32 = .ok (.aload_n 0, 1) := by decide +kernel
theorem dX9_into_33 : decode cX9_into 33 = .ok (.getfield 63, 3) := by decide +kernel
theorem dX9_into_36 : decode cX9_into 36 = .ok (.iload_n 2, 1) := by decide +kernel
theorem dX9_into_37 : decode cX9_into 37 = .ok (.iload_n 3, 1) := by decide +kernel
theorem dX9_into_38 : decode cX9_into 38 = .ok (.iload 5, 2) := by decide +kernel
theorem dX9_into_40 : decode cX9_into 40 = .ok (.iadd, 1) := by decide +kernel
theorem dX9_into_41 : decode cX9_into 41 = .ok (.invokevirtual 260, 3) := by decide +kernel
theorem dX9_into_44 : decode cX9_into 44 = .ok (.ifCond .eq 35, 3) := by decide +kernel
theorem dX9_into_47 : decode cX9_into 47 = .ok (.aload_n 0, 1) := by decide +kernel
theorem dX9_into_48 : decode cX9_into 48 = .ok (.getfield 63, 3) := by decide +kernel
theorem dX9_into_51 : decode cX9_into 51 = .ok (.getfield 263, 3) := by decide +kernel
theorem dX9_into_54 : decode cX9_into 54 = .ok (.iload_n 2, 1) := by decide +kernel
theorem dX9_into_55 : decode cX9_into 55 = .ok (.aaload, 1) := by decide +kernel
theorem dX9_into_56 : decode cX9_into 56 = .ok (.iload_n 3, 1) := by decide +kernel
theorem dX9_into_57 : decode cX9_into 57 = .ok (.iload 5, 2) := by decide +kernel
theorem dX9_into_59 : decode cX9_into 59 = .ok (.iadd, 1) := by decide +kernel
theorem dX9_into_60 : decode cX9_into 60 = .ok (.aload_n 0, 1) := by decide +kernel
theorem dX9_into_61 : decode cX9_into 61 = .ok (.getfield 12, 3) := by decide +kernel
theorem dX9_into_64 : decode cX9_into 64 = .ok (.getfield 109, 3) := by decide +kernel
theorem dX9_into_67 : decode cX9_into 67 = .ok (.iload_n 1, 1) := by decide +kernel
theorem dX9_into_68 : decode cX9_into 68 = .ok (.aaload, 1) := by decide +kernel
theorem dX9_into_69 : decode cX9_into 69 = .ok (.iload 5, 2) := by decide +kernel
theorem dX9_into_71 : decode cX9_into 71 = .ok (.iaload, 1) := by decide +kernel
theorem dX9_into_72 : decode cX9_into 72 = .ok (.iastore, 1) := by decide +kernel
theorem dX9_into_73 : decode cX9_into 73 = .ok (.iinc 5 1, 3) := by decide +kernel
theorem dX9_into_76 : decode cX9_into 76 = .ok (.goto (-56), 3) := by decide +kernel
theorem dX9_into_79 : decode cX9_into 79 = .ok (.iload 5, 2) := by decide +kernel
theorem dX9_into_81 : decode cX9_into 81 = .ok (.ireturn, 1) := by decide +kernel
theorem dX9_from_0 : decode cX9_from 0 = .ok (.aload_n 0, 1) := by decide +kernel
theorem dX9_from_1 : decode cX9_from 1 = .ok (.iload_n 1, 1) := by decide +kernel
theorem dX9_from_2 : decode cX9_from 2 = .ok (.iload_n 2, 1) := by decide +kernel
theorem dX9_from_3 : decode cX9_from 3 = .ok (.iload_n 3, 1) := by decide +kernel
theorem dX9_from_4 : decode cX9_from 4 = .ok (.invokevirtual 266, 3) := by decide +kernel
theorem dX9_from_7 : decode cX9_from 7 = .ok (.istore 4, 2) := by decide +kernel
theorem dX9_from_9 : decode cX9_from 9 = .ok (.iload 4, 2) := by decide +kernel
theorem dX9_from_11 : decode cX9_from 11 = .ok (.ifCond .eq 6, 3) := by decide +kernel
theorem dX9_from_14 : decode cX9_from 14 = .ok (.iload 4, 2) := by decide +kernel
theorem dX9_from_16 : decode cX9_from 16 = .ok (.ireturn, 1) := by decide +kernel
theorem dX9_from_17 : decode cX9_from 17 = .ok (.iconst 0, 1) := by decide +kernel
theorem dX9_from_18 : decode cX9_from 18 = .ok (.istore 5, 2) := by decide +kernel
theorem dX9_from_20 : decode cX9_from 20 = .ok (.iload 5, 2) := by decide +kernel
theorem dX9_from_22 : decode cX9_from 22 = .ok (.aload_n 0, 1) := by decide +kernel
theorem dX9_from_23 : decode cX9_from 23 = .ok (.getfield 12, 3) := by decide +kernel
theorem dX9_from_26 : decode cX9_from 26 = .ok (.getfield 112, 3) := by decide +kernel
theorem dX9_from_29 : decode cX9_from 29 = .ok (.if_icmp .ge 70, 3) := by decide +kernel
theorem dX9_from_32 : decode cX9_from 32 = .ok (.aload_n 0, 1) := by decide +kernel
theorem dX9_from_33 : decode cX9_from 33 = .ok (.getfield 63, 3) := by decide +kernel
theorem dX9_from_36 : decode cX9_from 36 = .ok (.iload_n 2, 1) := by decide +kernel
theorem dX9_from_37 : decode cX9_from 37 = .ok (.iload_n 3, 1) := by decide +kernel
theorem dX9_from_38 : decode cX9_from 38 = .ok (.iload 5, 2) := by decide +kernel
theorem dX9_from_40 : decode cX9_from 40 = .ok (.iadd, 1) := by decide +kernel
theorem dX9_from_41 : decode cX9_from 41 = .ok (.invokevirtual 260, 3) := by decide +kernel
theorem dX9_from_44 : decode cX9_from 44 = .ok (.ifCond .eq 55, 3) := by decide +kernel
theorem dX9_from_47 : decode cX9_from 47 = .ok (.aload_n 0, 1) := by decide +kernel
theorem dX9_from_48 : decode cX9_from 48 = .ok (.getfield 63, 3) := by decide +kernel
theorem dX9_from_51 : decode cX9_from 51 = .ok (.getfield 263, 3) := by decide +kernel
theorem dX9_from_54 : decode cX9_from 54 = .ok (.iload_n 2, 1) := by decide +kernel
theorem dX9_from_55 : decode cX9_from 55 = .ok (.aaload, 1) := by decide +kernel
theorem dX9_from_56 : decode cX9_from 56 = .ok (.iload_n 3, 1) := by decide +kernel
theorem dX9_from_57 : decode cX9_from 57 = .ok (.iload 5, 2) := by decide +kernel
theorem dX9_from_59 : decode cX9_from 59 = .ok (.iadd, 1) := by decide +kernel
theorem dX9_from_60 : decode cX9_from 60 = .ok (.iaload, 1) := by decide +kernel
theorem dX9_from_61 : decode cX9_from 61 = .ok (.invokestatic 102, 3) := by decide +kernel
theorem dX9_from_64 : decode cX9_from 64 = .ok (.ifCond .eq 35, 3) := by decide +kernel
theorem dX9_from_67 : decode cX9_from 67 = .ok (.aload_n 0, 1) := by decide +kernel
theorem dX9_from_68 : decode cX9_from 68 = .ok (.getfield 12, 3) := by decide +kernel
theorem dX9_from_71 : decode cX9_from 71 = .ok (.getfield 109, 3) := by decide +kernel
theorem dX9_from_74 : decode cX9_from 74 = .ok (.iload_n 1, 1) := by decide +kernel
theorem dX9_from_75 : decode cX9_from 75 = .ok (.aaload, 1) := by decide +kernel
theorem dX9_from_76 : decode cX9_from 76 = .ok (.iload 5, 2) := by decide +kernel
theorem dX9_from_78 : decode cX9_from 78 = .ok (.aload_n 0, 1) := by decide +kernel
theorem dX9_from_79 : decode cX9_from 79 = .ok (.getfield 63, 3) := by decide +kernel
theorem dX9_from_82 : decode cX9_from 82 = .ok (.getfield 263, 3) := by decide +kernel
theorem dX9_from_85 : decode cX9_from 85 = .ok (.iload_n 2, 1) := by decide +kernel
theorem dX9_from_86 : decode cX9_from 86 = .ok (.aaload, 1) := by decide +kernel
theorem dX9_from_87 : decode cX9_from 87 = .ok (.iload_n 3, 1) := by decide +kernel
theorem dX9_from_88 : decode cX9_from 88 = .ok (.iload 5, 2) := by decide +kernel
theorem dX9_from_90 : decode cX9_from 90 = .ok (.iadd, 1) := by decide +kernel
theorem dX9_from_91 : decode cX9_from 91 = .ok (.iaload, 1) := by decide +kernel
theorem dX9_from_92 : decode cX9_from 92 = .ok (.iastore, 1) := by decide +kernel
theorem dX9_from_93 : decode cX9_from 93 = .ok (.iinc 5 1, 3) := by decide +kernel
theorem dX9_from_96 : decode cX9_from 96 = .ok (.goto (-76), 3) := by decide +kernel
theorem dX9_from_99 : decode cX9_from 99 = .ok (.iload 5, 2) := by decide +kernel
theorem dX9_from_101 : decode cX9_from 101 = .ok (.ireturn, 1) := by decide +kernel
theorem dX9_image_0 : decode cX9_image 0 = .ok (.aload_n 0, 1) := by decide +kernel
theorem dX9_image_1 : decode cX9_image 1 = .ok (.getfield 21, 3) := by decide +kernel
theorem dX9_image_4 : decode cX9_image 4 = .ok (.aload_n 0, 1) := by decide +kernel
theorem dX9_image_5 : decode cX9_image 5 = .ok (.getfield 12, 3) := by decide +kernel
theorem dX9_image_8 : decode cX9_image 8 = .ok (.invokevirtual 165, 3) := by decide +kernel
theorem dX9_image_11 : decode cX9_image 11 = .ok (.aload_n 0, 1) := by decide +kernel
theorem dX9_image_12 : decode cX9_image 12 = .ok (.getfield 34, 3) := by decide +kernel
theorem dX9_image_15 : decode cX9_image 15 = .ok (.aload_n 0, 1) := by decide +kernel
theorem dX9_image_16 : decode cX9_image 16 = .ok (.getfield 27, 3) := by decide +kernel
theorem dX9_image_19 : decode cX9_image 19 = .ok (.invokevirtual 180, 3) := by decide +kernel
theorem dX9_image_22 : decode cX9_image 22 = .ok (.aload_n 0, 1) := by decide +kernel
theorem dX9_image_23 : decode cX9_image 23 = .ok (.iconst 1, 1) := by decide +kernel
theorem dX9_image_24 : decode cX9_image 24 = .ok (.putfield 270, 3) := by decide +kernel
theorem dX9_image_27 : decode cX9_image 27 = .ok (.aload_n 0, 1) := by decide +kernel
theorem dX9_image_28 : decode cX9_image 28 = .ok (.getfield 12, 3) := by decide +kernel
theorem dX9_image_31 : decode cX9_image 31 = .ok (.getfield 84, 3) := by decide +kernel
theorem dX9_image_34 : decode cX9_image 34 = .ok (.ireturn, 1) := by decide +kernel
theorem dX9_back_0 : decode cX9_back 0 = .ok (.aload_n 0, 1) := by decide +kernel
theorem dX9_back_1 : decode cX9_back 1 = .ok (.getfield 270, 3) := by decide +kernel
theorem dX9_back_4 : decode cX9_back 4 = .ok (.ifCond .ne 6, 3) := by decide +kernel
theorem dX9_back_7 : decode cX9_back 7 = .ok (.bipush (-5), 2) := by decide +kernel
theorem dX9_back_9 : decode cX9_back 9 = .ok (.ireturn, 1) := by decide +kernel
theorem dX9_back_10 : decode cX9_back 10 = .ok (.aload_n 0, 1) := by decide +kernel
theorem dX9_back_11 : decode cX9_back 11 = .ok (.getfield 12, 3) := by decide +kernel
theorem dX9_back_14 : decode cX9_back 14 = .ok (.aload_n 0, 1) := by decide +kernel
theorem dX9_back_15 : decode cX9_back 15 = .ok (.getfield 21, 3) := by decide +kernel
theorem dX9_back_18 : decode cX9_back 18 = .ok (.invokevirtual 165, 3) := by decide +kernel
theorem dX9_back_21 : decode cX9_back 21 = .ok (.aload_n 0, 1) := by decide +kernel
theorem dX9_back_22 : decode cX9_back 22 = .ok (.getfield 27, 3) := by decide +kernel
theorem dX9_back_25 : decode cX9_back 25 = .ok (.aload_n 0, 1) := by decide +kernel
theorem dX9_back_26 : decode cX9_back 26 = .ok (.getfield 34, 3) := by decide +kernel
theorem dX9_back_29 : decode cX9_back 29 = .ok (.invokevirtual 180, 3) := by decide +kernel
theorem dX9_back_32 : decode cX9_back 32 = .ok (.aload_n 0, 1) := by decide +kernel
theorem dX9_back_33 : decode cX9_back 33 = .ok (.getfield 12, 3) := by decide +kernel
theorem dX9_back_36 : decode cX9_back 36 = .ok (.getfield 84, 3) := by decide +kernel
theorem dX9_back_39 : decode cX9_back 39 = .ok (.ireturn, 1) := by decide +kernel
theorem dX9_count_0 : decode cX9_count 0 = .ok (.iload_n 1, 1) := by decide +kernel
theorem dX9_count_1 : decode cX9_count 1 = .ok (.tableswitch 123 0 6 #[43, 51, 59, 75, 99, 107, 115], 43) := by decide +kernel
theorem dX9_count_44 : decode cX9_count 44 = .ok (.aload_n 0, 1) := by decide +kernel
theorem dX9_count_45 : decode cX9_count 45 = .ok (.getfield 12, 3) := by decide +kernel
theorem dX9_count_48 : decode cX9_count 48 = .ok (.getfield 84, 3) := by decide +kernel
theorem dX9_count_51 : decode cX9_count 51 = .ok (.ireturn, 1) := by decide +kernel
theorem dX9_count_52 : decode cX9_count 52 = .ok (.aload_n 0, 1) := by decide +kernel
theorem dX9_count_53 : decode cX9_count 53 = .ok (.getfield 12, 3) := by decide +kernel
theorem dX9_count_56 : decode cX9_count 56 = .ok (.getfield 112, 3) := by decide +kernel
theorem dX9_count_59 : decode cX9_count 59 = .ok (.ireturn, 1) := by decide +kernel
theorem dX9_count_60 : decode cX9_count 60 = .ok (.aload_n 0, 1) := by decide +kernel
theorem dX9_count_61 : decode cX9_count 61 = .ok (.getfield 27, 3) := by decide +kernel
theorem dX9_count_64 : decode cX9_count 64 = .ok (.getfield 177, 3) := by decide +kernel
theorem dX9_count_67 : decode cX9_count 67 = .ok (.ifCond .eq 7, 3) := by decide +kernel
theorem dX9_count_70 : decode cX9_count 70 = .ok (.iconst 1, 1) := by decide +kernel
theorem dX9_count_71 : decode cX9_count 71 = .ok (.goto 4, 3) := by decide +kernel
theorem dX9_count_74 : decode cX9_count 74 = .ok (.iconst 0, 1) := by decide +kernel
theorem dX9_count_75 : decode cX9_count 75 = .ok (.ireturn, 1) := by decide +kernel
theorem dX9_count_76 : decode cX9_count 76 = .ok (.aload_n 0, 1) := by decide +kernel
theorem dX9_count_77 : decode cX9_count 77 = .ok (.getfield 27, 3) := by decide +kernel
theorem dX9_count_80 : decode cX9_count 80 = .ok (.getfield 177, 3) := by decide +kernel
theorem dX9_count_83 : decode cX9_count 83 = .ok (.ifCond .eq 14, 3) := by decide +kernel
theorem dX9_count_86 : decode cX9_count 86 = .ok (.aload_n 0, 1) := by decide +kernel
theorem dX9_count_87 : decode cX9_count 87 = .ok (.getfield 27, 3) := by decide +kernel
theorem dX9_count_90 : decode cX9_count 90 = .ok (.getfield 223, 3) := by decide +kernel
theorem dX9_count_93 : decode cX9_count 93 = .ok (.l2i, 1) := by decide +kernel
theorem dX9_count_94 : decode cX9_count 94 = .ok (.goto 5, 3) := by decide +kernel
theorem dX9_count_97 : decode cX9_count 97 = .ok (.bipush (-5), 2) := by decide +kernel
theorem dX9_count_99 : decode cX9_count 99 = .ok (.ireturn, 1) := by decide +kernel
theorem dX9_count_100 : decode cX9_count 100 = .ok (.aload_n 0, 1) := by decide +kernel
theorem dX9_count_101 : decode cX9_count 101 = .ok (.getfield 49, 3) := by decide +kernel
theorem dX9_count_104 : decode cX9_count 104 = .ok (.getfield 162, 3) := by decide +kernel
theorem dX9_count_107 : decode cX9_count 107 = .ok (.ireturn, 1) := by decide +kernel
theorem dX9_count_108 : decode cX9_count 108 = .ok (.aload_n 0, 1) := by decide +kernel
theorem dX9_count_109 : decode cX9_count 109 = .ok (.getfield 56, 3) := by decide +kernel
theorem dX9_count_112 : decode cX9_count 112 = .ok (.getfield 183, 3) := by decide +kernel
theorem dX9_count_115 : decode cX9_count 115 = .ok (.ireturn, 1) := by decide +kernel
theorem dX9_count_116 : decode cX9_count 116 = .ok (.aload_n 0, 1) := by decide +kernel
theorem dX9_count_117 : decode cX9_count 117 = .ok (.getfield 27, 3) := by decide +kernel
theorem dX9_count_120 : decode cX9_count 120 = .ok (.getfield 184, 3) := by decide +kernel
theorem dX9_count_123 : decode cX9_count 123 = .ok (.ireturn, 1) := by decide +kernel
theorem dX9_count_124 : decode cX9_count 124 = .ok (.iconst (-1), 1) := by decide +kernel
theorem dX9_count_125 : decode cX9_count 125 = .ok (.ireturn, 1) := by decide +kernel
theorem dX9_isWorth_0 : decode cX9_isWorth 0 = .ok (.iload_n 0, 1) := by decide +kernel
theorem dX9_isWorth_1 : decode cX9_isWorth 1 = .ok (.ifCond .lt 13, 3) := by decide +kernel
theorem dX9_isWorth_4 : decode cX9_isWorth 4 = .ok (.iload_n 0, 1) := by decide +kernel
theorem dX9_isWorth_5 : decode cX9_isWorth 5 = .ok (.bipush 9, 2) := by decide +kernel
theorem dX9_isWorth_7 : decode cX9_isWorth 7 = .ok (.if_icmp .gt 7, 3) := by decide +kernel
theorem dX9_isWorth_10 : decode cX9_isWorth 10 = .ok (.iconst 1, 1) := by decide +kernel
theorem dX9_isWorth_11 : decode cX9_isWorth 11 = .ok (.goto 4, 3) := by decide +kernel
theorem dX9_isWorth_14 : decode cX9_isWorth 14 = .ok (.iconst 0, 1) := by decide +kernel
theorem dX9_isWorth_15 : decode cX9_isWorth 15 = .ok (.ireturn, 1) := by decide +kernel
theorem dX9_isFlag_0 : decode cX9_isFlag 0 = .ok (.iload_n 0, 1) := by decide +kernel
theorem dX9_isFlag_1 : decode cX9_isFlag 1 = .ok (.ifCond .eq 8, 3) := by decide +kernel
theorem dX9_isFlag_4 : decode cX9_isFlag 4 = .ok (.iload_n 0, 1) := by decide +kernel
theorem dX9_isFlag_5 : decode cX9_isFlag 5 = .ok (.iconst 1, 1) := by decide +kernel
theorem dX9_isFlag_6 : decode cX9_isFlag 6 = .ok (.if_icmp .ne 7, 3) := by decide +kernel
theorem dX9_isFlag_9 : decode cX9_isFlag 9 = .ok (.iconst 1, 1) := by decide +kernel
theorem dX9_isFlag_10 : decode cX9_isFlag 10 = .ok (.goto 4, 3) := by decide +kernel
theorem dX9_isFlag_13 : decode cX9_isFlag 13 = .ok (.iconst 0, 1) := by decide +kernel
theorem dX9_isFlag_14 : decode cX9_isFlag 14 = .ok (.ireturn, 1) := by decide +kernel
theorem dX9_isWay_0 : decode cX9_isWay 0 = .ok (.iload_n 0, 1) := by decide +kernel
theorem dX9_isWay_1 : decode cX9_isWay 1 = .ok (.ifCond .lt 12, 3) := by decide +kernel
theorem dX9_isWay_4 : decode cX9_isWay 4 = .ok (.iload_n 0, 1) := by decide +kernel
theorem dX9_isWay_5 : decode cX9_isWay 5 = .ok (.iconst 4, 1) := by decide +kernel
theorem dX9_isWay_6 : decode cX9_isWay 6 = .ok (.if_icmp .gt 7, 3) := by decide +kernel
theorem dX9_isWay_9 : decode cX9_isWay 9 = .ok (.iconst 1, 1) := by decide +kernel
theorem dX9_isWay_10 : decode cX9_isWay 10 = .ok (.goto 4, 3) := by decide +kernel
theorem dX9_isWay_13 : decode cX9_isWay 13 = .ok (.iconst 0, 1) := by decide +kernel
theorem dX9_isWay_14 : decode cX9_isWay 14 = .ok (.ireturn, 1) := by decide +kernel
theorem dX9_isAllowed_0 : decode cX9_isAllowed 0 = .ok (.iload_n 1, 1) := by decide +kernel
theorem dX9_isAllowed_1 : decode cX9_isAllowed 1 = .ok (.ifCond .ne 22, 3) := by decide +kernel
theorem dX9_isAllowed_4 : decode cX9_isAllowed 4 = .ok (.aload_n 0, 1) := by decide +kernel
theorem dX9_isAllowed_5 : decode cX9_isAllowed 5 = .ok (.getfield 12, 3) := by decide +kernel
theorem dX9_isAllowed_8 : decode cX9_isAllowed 8 = .ok (.getfield 84, 3) := by decide +kernel
theorem dX9_isAllowed_11 : decode cX9_isAllowed 11 = .ok (.iconst 2, 1) := by decide +kernel
theorem dX9_isAllowed_12 : decode cX9_isAllowed 12 = .ok (.if_icmp .ne 7, 3) := by decide +kernel
theorem dX9_isAllowed_15 : decode cX9_isAllowed 15 = .ok (.iconst 1, 1) := by decide +kernel
theorem dX9_isAllowed_16 : decode cX9_isAllowed 16 = .ok (.goto 28, 3) := by decide +kernel
theorem dX9_isAllowed_19 : decode cX9_isAllowed 19 = .ok (.iconst 0, 1) := by decide +kernel
theorem dX9_isAllowed_20 : decode cX9_isAllowed 20 = .ok (.goto 24, 3) := by decide +kernel
theorem dX9_isAllowed_23 : decode cX9_isAllowed 23 = .ok (.iload_n 1, 1) := by decide +kernel
theorem dX9_isAllowed_24 : decode cX9_isAllowed 24 = .ok (.iconst 4, 1) := by decide +kernel
theorem dX9_isAllowed_25 : decode cX9_isAllowed 25 = .ok (.if_icmp .ne 14, 3) := by decide +kernel
theorem dX9_isAllowed_28 : decode cX9_isAllowed 28 = .ok (.aload_n 0, 1) := by decide +kernel
theorem dX9_isAllowed_29 : decode cX9_isAllowed 29 = .ok (.getfield 12, 3) := by decide +kernel
theorem dX9_isAllowed_32 : decode cX9_isAllowed 32 = .ok (.getfield 84, 3) := by decide +kernel
theorem dX9_isAllowed_35 : decode cX9_isAllowed 35 = .ok (.iconst 3, 1) := by decide +kernel
theorem dX9_isAllowed_36 : decode cX9_isAllowed 36 = .ok (.if_icmp .ne 7, 3) := by decide +kernel
theorem dX9_isAllowed_39 : decode cX9_isAllowed 39 = .ok (.iconst 1, 1) := by decide +kernel
theorem dX9_isAllowed_40 : decode cX9_isAllowed 40 = .ok (.goto 4, 3) := by decide +kernel
theorem dX9_isAllowed_43 : decode cX9_isAllowed 43 = .ok (.iconst 0, 1) := by decide +kernel
theorem dX9_isAllowed_44 : decode cX9_isAllowed 44 = .ok (.ireturn, 1) := by decide +kernel
theorem dX9_isPoint_0 : decode cX9_isPoint 0 = .ok (.iload_n 2, 1) := by decide +kernel
theorem dX9_isPoint_1 : decode cX9_isPoint 1 = .ok (.iconst 1, 1) := by decide +kernel
theorem dX9_isPoint_2 : decode cX9_isPoint 2 = .ok (.if_icmp .lt 35, 3) := by decide +kernel
theorem dX9_isPoint_5 : decode cX9_isPoint 5 = .ok (.iload_n 2, 1) := by decide +kernel
theorem dX9_isPoint_6 : decode cX9_isPoint 6 = .ok (.sipush 1000, 3) := by decide +kernel
theorem dX9_isPoint_9 : decode cX9_isPoint 9 = .ok (.if_icmp .gt 28, 3) := by decide +kernel
theorem dX9_isPoint_12 : decode cX9_isPoint 12 = .ok (.iload_n 1, 1) := by decide +kernel
theorem dX9_isPoint_13 : decode cX9_isPoint 13 = .ok (.ifCond .lt 24, 3) := by decide +kernel
theorem dX9_isPoint_16 : decode cX9_isPoint 16 = .ok (.iload_n 1, 1) := by decide +kernel
theorem dX9_isPoint_17 : decode cX9_isPoint 17 = .ok (.i2l, 1) := by decide +kernel
theorem dX9_isPoint_18 : decode cX9_isPoint 18 = .ok (.aload_n 0, 1) := by decide +kernel
theorem dX9_isPoint_19 : decode cX9_isPoint 19 = .ok (.getfield 12, 3) := by decide +kernel
theorem dX9_isPoint_22 : decode cX9_isPoint 22 = .ok (.getfield 112, 3) := by decide +kernel
theorem dX9_isPoint_25 : decode cX9_isPoint 25 = .ok (.i2l, 1) := by decide +kernel
theorem dX9_isPoint_26 : decode cX9_isPoint 26 = .ok (.iload_n 2, 1) := by decide +kernel
theorem dX9_isPoint_27 : decode cX9_isPoint 27 = .ok (.i2l, 1) := by decide +kernel
theorem dX9_isPoint_28 : decode cX9_isPoint 28 = .ok (.lmul, 1) := by decide +kernel
theorem dX9_isPoint_29 : decode cX9_isPoint 29 = .ok (.lcmp, 1) := by decide +kernel
theorem dX9_isPoint_30 : decode cX9_isPoint 30 = .ok (.ifCond .gt 7, 3) := by decide +kernel
theorem dX9_isPoint_33 : decode cX9_isPoint 33 = .ok (.iconst 1, 1) := by decide +kernel
theorem dX9_isPoint_34 : decode cX9_isPoint 34 = .ok (.goto 4, 3) := by decide +kernel
theorem dX9_isPoint_37 : decode cX9_isPoint 37 = .ok (.iconst 0, 1) := by decide +kernel
theorem dX9_isPoint_38 : decode cX9_isPoint 38 = .ok (.ireturn, 1) := by decide +kernel
theorem dX9_refusal_0 : decode cX9_refusal 0 = .ok (.aload_n 0, 1) := by decide +kernel
theorem dX9_refusal_1 : decode cX9_refusal 1 = .ok (.getfield 12, 3) := by decide +kernel
theorem dX9_refusal_4 : decode cX9_refusal 4 = .ok (.iload_n 1, 1) := by decide +kernel
theorem dX9_refusal_5 : decode cX9_refusal 5 = .ok (.invokevirtual 95, 3) := by decide +kernel
theorem dX9_refusal_8 : decode cX9_refusal 8 = .ok (.ifCond .eq 14, 3) := by decide +kernel
theorem dX9_refusal_11 : decode cX9_refusal 11 = .ok (.aload_n 0, 1) := by decide +kernel
theorem dX9_refusal_12 : decode cX9_refusal 12 = .ok (.getfield 63, 3) := by decide +kernel
theorem dX9_refusal_15 : decode cX9_refusal 15 = .ok (.iload_n 2, 1) := by decide +kernel
theorem dX9_refusal_16 : decode cX9_refusal 16 = .ok (.invokevirtual 253, 3) := by decide +kernel
theorem dX9_refusal_19 : decode cX9_refusal 19 = .ok (.ifCond .ne 5, 3) := by decide +kernel
theorem dX9_refusal_22 : decode cX9_refusal 22 = .ok (.iconst (-1), 1) := by decide +kernel
theorem dX9_refusal_23 : decode cX9_refusal 23 = .ok (.ireturn, 1) := by decide +kernel
theorem dX9_refusal_24 : decode cX9_refusal 24 = .ok (.aload_n 0, 1) := by decide +kernel
theorem dX9_refusal_25 : decode cX9_refusal 25 = .ok (.getfield 63, 3) := by decide +kernel
theorem dX9_refusal_28 : decode cX9_refusal 28 = .ok (.iload_n 2, 1) := by decide +kernel
theorem dX9_refusal_29 : decode cX9_refusal 29 = .ok (.invokevirtual 257, 3) := by decide +kernel
theorem dX9_refusal_32 : decode cX9_refusal 32 = .ok (.ifCond .ne 6, 3) := by decide +kernel
theorem dX9_refusal_35 : decode cX9_refusal 35 = .ok (.bipush (-11), 2) := by decide +kernel
theorem dX9_refusal_37 : decode cX9_refusal 37 = .ok (.ireturn, 1) := by decide +kernel
theorem dX9_refusal_38 : decode cX9_refusal 38 = .ok (.iload_n 3, 1) := by decide +kernel
theorem dX9_refusal_39 : decode cX9_refusal 39 = .ok (.ifCond .ge 8, 3) := by decide +kernel
theorem dX9_refusal_42 : decode cX9_refusal 42 = .ok (.bipush (-13), 2) := by decide +kernel
theorem dX9_refusal_44 : decode cX9_refusal 44 = .ok (.goto 4, 3) := by decide +kernel
theorem dX9_refusal_47 : decode cX9_refusal 47 = .ok (.iconst 0, 1) := by decide +kernel
theorem dX9_refusal_48 : decode cX9_refusal 48 = .ok (.ireturn, 1) := by decide +kernel
theorem dX9_bringsMore_0 : decode cX9_bringsMore 0 = .ok (.aload_n 0, 1) := by decide +kernel
theorem dX9_bringsMore_1 : decode cX9_bringsMore 1 = .ok (.getfield 70, 3) := by decide +kernel
theorem dX9_bringsMore_4 : decode cX9_bringsMore 4 = .ok (.aload_n 0, 1) := by decide +kernel
theorem dX9_bringsMore_5 : decode cX9_bringsMore 5 = .ok (.getfield 31, 3) := by decide +kernel
theorem dX9_bringsMore_8 : decode cX9_bringsMore 8 = .ok (.iload_n 1, 1) := by decide +kernel
theorem dX9_bringsMore_9 : decode cX9_bringsMore 9 = .ok (.aload_n 0, 1) := by decide +kernel
theorem dX9_bringsMore_10 : decode cX9_bringsMore 10 = .ok (.getfield 12, 3) := by decide +kernel
theorem dX9_bringsMore_13 : decode cX9_bringsMore 13 = .ok (.aload_n 0, 1) := by decide +kernel
theorem dX9_bringsMore_14 : decode cX9_bringsMore 14 = .ok (.getfield 12, 3) := by decide +kernel
theorem dX9_bringsMore_17 : decode cX9_bringsMore 17 = .ok (.getfield 105, 3) := by decide +kernel
theorem dX9_bringsMore_20 : decode cX9_bringsMore 20 = .ok (.iload_n 1, 1) := by decide +kernel
theorem dX9_bringsMore_21 : decode cX9_bringsMore 21 = .ok (.aaload, 1) := by decide +kernel
theorem dX9_bringsMore_22 : decode cX9_bringsMore 22 = .ok (.invokevirtual 219, 3) := by decide +kernel
theorem dX9_bringsMore_25 : decode cX9_bringsMore 25 = .ok (.aload_n 0, 1) := by decide +kernel
theorem dX9_bringsMore_26 : decode cX9_bringsMore 26 = .ok (.getfield 31, 3) := by decide +kernel
theorem dX9_bringsMore_29 : decode cX9_bringsMore 29 = .ok (.getfield 223, 3) := by decide +kernel
theorem dX9_bringsMore_32 : decode cX9_bringsMore 32 = .ok (.invokevirtual 241, 3) := by decide +kernel
theorem dX9_bringsMore_35 : decode cX9_bringsMore 35 = .ok (.aload_n 0, 1) := by decide +kernel
theorem dX9_bringsMore_36 : decode cX9_bringsMore 36 = .ok (.getfield 74, 3) := by decide +kernel
theorem dX9_bringsMore_39 : decode cX9_bringsMore 39 = .ok (.aload_n 0, 1) := by decide +kernel
theorem dX9_bringsMore_40 : decode cX9_bringsMore 40 = .ok (.getfield 70, 3) := by decide +kernel
theorem dX9_bringsMore_43 : decode cX9_bringsMore 43 = .ok (.invokevirtual 273, 3) := by decide +kernel
theorem dX9_bringsMore_46 : decode cX9_bringsMore 46 = .ok (.ifCond .ne 5, 3) := by decide +kernel
theorem dX9_bringsMore_49 : decode cX9_bringsMore 49 = .ok (.iconst 0, 1) := by decide +kernel
theorem dX9_bringsMore_50 : decode cX9_bringsMore 50 = .ok (.ireturn, 1) := by decide +kernel
theorem dX9_bringsMore_51 : decode cX9_bringsMore 51 = .ok (.aload_n 0, 1) := by decide +kernel
theorem dX9_bringsMore_52 : decode cX9_bringsMore 52 = .ok (.getfield 74, 3) := by decide +kernel
theorem dX9_bringsMore_55 : decode cX9_bringsMore 55 = .ok (.aload_n 0, 1) := by decide +kernel
theorem dX9_bringsMore_56 : decode cX9_bringsMore 56 = .ok (.getfield 70, 3) := by decide +kernel
theorem dX9_bringsMore_59 : decode cX9_bringsMore 59 = .ok (.invokevirtual 277, 3) := by decide +kernel
theorem dX9_bringsMore_62 : decode cX9_bringsMore 62 = .ok (.iconst 1, 1) := by decide +kernel
theorem dX9_bringsMore_63 : decode cX9_bringsMore 63 = .ok (.ireturn, 1) := by decide +kernel
theorem dX9_tell_0 : decode cX9_tell 0 = .ok (.aload_n 0, 1) := by decide +kernel
theorem dX9_tell_1 : decode cX9_tell 1 = .ok (.getfield 70, 3) := by decide +kernel
theorem dX9_tell_4 : decode cX9_tell 4 = .ok (.lload_n 1, 1) := by decide +kernel
theorem dX9_tell_5 : decode cX9_tell 5 = .ok (.lload_n 3, 1) := by decide +kernel
theorem dX9_tell_6 : decode cX9_tell 6 = .ok (.invokevirtual 241, 3) := by decide +kernel
theorem dX9_tell_9 : decode cX9_tell 9 = .ok (.aload_n 0, 1) := by decide +kernel
theorem dX9_tell_10 : decode cX9_tell 10 = .ok (.getfield 70, 3) := by decide +kernel
theorem dX9_tell_13 : decode cX9_tell 13 = .ok (.iload 5, 2) := by decide +kernel
theorem dX9_tell_15 : decode cX9_tell 15 = .ok (.invokevirtual 252, 3) := by decide +kernel
theorem dX9_tell_18 : decode cX9_tell 18 = .ok (.lreturn, 1) := by decide +kernel
theorem dX10_init_0 : decode cX10_init 0 = .ok (.aload_n 0, 1) := by decide +kernel
theorem dX10_init_1 : decode cX10_init 1 = .ok (.invokespecial 3, 3) := by decide +kernel
theorem dX10_init_4 : decode cX10_init 4 = .ok (.aload_n 0, 1) := by decide +kernel
theorem dX10_init_5 : decode cX10_init 5 = .ok (.sipush 510, 3) := by decide +kernel
theorem dX10_init_8 : decode cX10_init 8 = .ok (.newarray .long, 2) := by decide +kernel
theorem dX10_init_10 : decode cX10_init 10 = .ok (.putfield 9, 3) := by decide +kernel
theorem dX10_init_13 : decode cX10_init 13 = .ok (.aload_n 0, 1) := by decide +kernel
theorem dX10_init_14 : decode cX10_init 14 = .ok (.sipush 510, 3) := by decide +kernel
theorem dX10_init_17 : decode cX10_init 17 = .ok (.newarray .long, 2) := by decide +kernel
theorem dX10_init_19 : decode cX10_init 19 = .ok (.putfield 15, 3) := by decide +kernel
theorem dX10_init_22 : decode cX10_init 22 = .ok (.aload_n 0, 1) := by decide +kernel
theorem dX10_init_23 : decode cX10_init 23 = .ok (.sipush 510, 3) := by decide +kernel
theorem dX10_init_26 : decode cX10_init 26 = .ok (.newarray .long, 2) := by decide +kernel
theorem dX10_init_28 : decode cX10_init 28 = .ok (.putfield 18, 3) := by decide +kernel
theorem dX10_init_31 : decode cX10_init 31 = .ok (.aload_n 0, 1) := by decide +kernel
theorem dX10_init_32 : decode cX10_init 32 = .ok (.sipush 160, 3) := by decide +kernel
theorem dX10_init_35 : decode cX10_init 35 = .ok (.newarray .int, 2) := by decide +kernel
theorem dX10_init_37 : decode cX10_init 37 = .ok (.putfield 21, 3) := by decide +kernel
theorem dX10_init_40 : decode cX10_init 40 = .ok (.aload_n 0, 1) := by decide +kernel
theorem dX10_init_41 : decode cX10_init 41 = .ok (.iconst 5, 1) := by decide +kernel
theorem dX10_init_42 : decode cX10_init 42 = .ok (.newarray .long, 2) := by decide +kernel
theorem dX10_init_44 : decode cX10_init 44 = .ok (.putfield 25, 3) := by decide +kernel
theorem dX10_init_47 : decode cX10_init 47 = .ok (.aload_n 0, 1) := by decide +kernel
theorem dX10_init_48 : decode cX10_init 48 = .ok (.iconst 5, 1) := by decide +kernel
theorem dX10_init_49 : decode cX10_init 49 = .ok (.newarray .long, 2) := by decide +kernel
theorem dX10_init_51 : decode cX10_init 51 = .ok (.putfield 28, 3) := by decide +kernel
theorem dX10_init_54 : decode cX10_init 54 = .ok (.aload_n 0, 1) := by decide +kernel
theorem dX10_init_55 : decode cX10_init 55 = .ok (.bipush 10, 2) := by decide +kernel
theorem dX10_init_57 : decode cX10_init 57 = .ok (.newarray .int, 2) := by decide +kernel
theorem dX10_init_59 : decode cX10_init 59 = .ok (.putfield 31, 3) := by decide +kernel
theorem dX10_init_62 : decode cX10_init 62 = .ok (.aload_n 0, 1) := by decide +kernel
theorem dX10_init_63 : decode cX10_init 63 = .ok (.bipush 40, 2) := by decide +kernel
theorem dX10_init_65 : decode cX10_init 65 = .ok (.newarray .long, 2) := by decide +kernel
theorem dX10_init_67 : decode cX10_init 67 = .ok (.putfield 34, 3) := by decide +kernel
theorem dX10_init_70 : decode cX10_init 70 = .ok (.aload_n 0, 1) := by decide +kernel
theorem dX10_init_71 : decode cX10_init 71 = .ok (.bipush 12, 2) := by decide +kernel
theorem dX10_init_73 : decode cX10_init 73 = .ok (.newarray .long, 2) := by decide +kernel
theorem dX10_init_75 : decode cX10_init 75 = .ok (.putfield 37, 3) := by decide +kernel
theorem dX10_init_78 : decode cX10_init 78 = .ok (.aload_n 0, 1) := by decide +kernel
theorem dX10_init_79 : decode cX10_init 79 = .ok (.sipush 4000, 3) := by decide +kernel
theorem dX10_init_82 : decode cX10_init 82 = .ok (.newarray .int, 2) := by decide +kernel
theorem dX10_init_84 : decode cX10_init 84 = .ok (.putfield 40, 3) := by decide +kernel
theorem dX10_init_87 : decode cX10_init 87 = .ok (.aload_n 0, 1) := by decide +kernel
theorem dX10_init_88 : decode cX10_init 88 = .ok (.bipush 20, 2) := by decide +kernel
theorem dX10_init_90 : decode cX10_init 90 = .ok (.newarray .int, 2) := by decide +kernel
theorem dX10_init_92 : decode cX10_init 92 = .ok (.putfield 43, 3) := by decide +kernel
theorem dX10_init_95 : decode cX10_init 95 = .ok (.aload_n 0, 1) := by decide +kernel
theorem dX10_init_96 : decode cX10_init 96 = .ok (.bipush 25, 2) := by decide +kernel
theorem dX10_init_98 : decode cX10_init 98 = .ok (.newarray .long, 2) := by decide +kernel
theorem dX10_init_100 : decode cX10_init 100 = .ok (.putfield 46, 3) := by decide +kernel
theorem dX10_init_103 : decode cX10_init 103 = .ok (.aload_n 0, 1) := by decide +kernel
theorem dX10_init_104 : decode cX10_init 104 = .ok (.bipush 20, 2) := by decide +kernel
theorem dX10_init_106 : decode cX10_init 106 = .ok (.newarray .long, 2) := by decide +kernel
theorem dX10_init_108 : decode cX10_init 108 = .ok (.putfield 49, 3) := by decide +kernel
theorem dX10_init_111 : decode cX10_init 111 = .ok (.aload_n 0, 1) := by decide +kernel
theorem dX10_init_112 : decode cX10_init 112 = .ok (.sipush 510, 3) := by decide +kernel
theorem dX10_init_115 : decode cX10_init 115 = .ok (.newarray .long, 2) := by decide +kernel
theorem dX10_init_117 : decode cX10_init 117 = .ok (.putfield 52, 3) := by decide +kernel
theorem dX10_init_120 : decode cX10_init 120 = .ok (.aload_n 0, 1) := by decide +kernel
theorem dX10_init_121 : decode cX10_init 121 = .ok (.iconst 4, 1) := by decide +kernel
theorem dX10_init_122 : decode cX10_init 122 = .ok (.newarray .int, 2) := by decide +kernel
theorem dX10_init_124 : decode cX10_init 124 = .ok (.dup, 1) := by decide +kernel
theorem dX10_init_125 : decode cX10_init 125 = .ok (.iconst 0, 1) := by decide +kernel
theorem dX10_init_126 : decode cX10_init 126 = .ok (.iconst (-1), 1) := by decide +kernel
theorem dX10_init_127 : decode cX10_init 127 = .ok (.iastore, 1) := by decide +kernel
theorem dX10_init_128 : decode cX10_init 128 = .ok (.dup, 1) := by decide +kernel
theorem dX10_init_129 : decode cX10_init 129 = .ok (.iconst 1, 1) := by decide +kernel
theorem dX10_init_130 : decode cX10_init 130 = .ok (.iconst (-1), 1) := by decide +kernel
theorem dX10_init_131 : decode cX10_init 131 = .ok (.iastore, 1) := by decide +kernel
theorem dX10_init_132 : decode cX10_init 132 = .ok (.dup, 1) := by decide +kernel
theorem dX10_init_133 : decode cX10_init 133 = .ok (.iconst 2, 1) := by decide +kernel
theorem dX10_init_134 : decode cX10_init 134 = .ok (.iconst (-1), 1) := by decide +kernel
theorem dX10_init_135 : decode cX10_init 135 = .ok (.iastore, 1) := by decide +kernel
theorem dX10_init_136 : decode cX10_init 136 = .ok (.dup, 1) := by decide +kernel
theorem dX10_init_137 : decode cX10_init 137 = .ok (.iconst 3, 1) := by decide +kernel
theorem dX10_init_138 : decode cX10_init 138 = .ok (.iconst (-1), 1) := by decide +kernel
theorem dX10_init_139 : decode cX10_init 139 = .ok (.iastore, 1) := by decide +kernel
theorem dX10_init_140 : decode cX10_init 140 = .ok (.putfield 55, 3) := by decide +kernel
theorem dX10_init_143 : decode cX10_init 143 = .ok (.aload_n 0, 1) := by decide +kernel
theorem dX10_init_144 : decode cX10_init 144 = .ok (.bipush 80, 2) := by decide +kernel
theorem dX10_init_146 : decode cX10_init 146 = .ok (.newarray .int, 2) := by decide +kernel
theorem dX10_init_148 : decode cX10_init 148 = .ok (.putfield 58, 3) := by decide +kernel
theorem dX10_init_151 : decode cX10_init 151 = .ok (.aload_n 0, 1) := by decide +kernel
theorem dX10_init_152 : decode cX10_init 152 = .ok (.bipush 8, 2) := by decide +kernel
theorem dX10_init_154 : decode cX10_init 154 = .ok (.iconst 3, 1) := by decide +kernel
theorem dX10_init_155 : decode cX10_init 155 = .ok (.invokevirtual 61, 3) := by decide +kernel
theorem dX10_init_158 : decode cX10_init 158 = .ok (.return_, 1) := by decide +kernel
theorem dX10_fresh_0 : decode cX10_fresh 0 = .ok (.iconst 0, 1) := by decide +kernel
theorem dX10_fresh_1 : decode cX10_fresh 1 = .ok (.istore_n 3, 1) := by decide +kernel
theorem dX10_fresh_2 : decode cX10_fresh 2 = .ok (.iload_n 3, 1) := by decide +kernel
theorem dX10_fresh_3 : decode cX10_fresh 3 = .ok (.sipush 510, 3) := by decide +kernel
theorem dX10_fresh_6 : decode cX10_fresh 6 = .ok (.if_icmp .ge 32, 3) := by decide +kernel
theorem dX10_fresh_9 : decode cX10_fresh 9 = .ok (.aload_n 0, 1) := by decide +kernel
theorem dX10_fresh_10 : decode cX10_fresh 10 = .ok (.getfield 9, 3) := by decide +kernel
theorem dX10_fresh_13 : decode cX10_fresh 13 = .ok (.iload_n 3, 1) := by decide +kernel
theorem dX10_fresh_14 : decode cX10_fresh 14 = .ok (.iload_n 3, 1) := by decide +kernel
theorem dX10_fresh_15 : decode cX10_fresh 15 = .ok (.iconst 5, 1) := by decide +kernel
theorem dX10_fresh_16 : decode cX10_fresh 16 = .ok (.if_icmp .lt 14, 3) := by decide +kernel
theorem dX10_fresh_19 : decode cX10_fresh 19 = .ok (.iload_n 3, 1) := by decide +kernel
theorem dX10_fresh_20 : decode cX10_fresh 20 = .ok (.sipush 165, 3) := by decide +kernel
theorem dX10_fresh_23 : decode cX10_fresh 23 = .ok (.if_icmp .ge 7, 3) := by decide +kernel
theorem dX10_fresh_26 : decode cX10_fresh 26 = .ok (.lconst 1, 1) := by decide +kernel
theorem dX10_fresh_27 : decode cX10_fresh 27 = .ok (.goto 4, 3) := by decide +kernel
theorem dX10_fresh_30 : decode cX10_fresh 30 = .ok (.lconst 0, 1) := by decide +kernel
theorem dX10_fresh_31 : decode cX10_fresh 31 = .ok (.lastore, 1) := by decide +kernel
theorem dX10_fresh_32 : decode cX10_fresh 32 = .ok (.iinc 3 1, 3) := by decide +kernel
theorem dX10_fresh_35 : decode cX10_fresh 35 = .ok (.goto (-33), 3) := by decide +kernel
theorem dX10_fresh_38 : decode cX10_fresh 38 = .ok (.aload_n 0, 1) := by decide +kernel
theorem dX10_fresh_39 : decode cX10_fresh 39 = .ok (.getfield 9, 3) := by decide +kernel
theorem dX10_fresh_42 : decode cX10_fresh 42 = .ok (.iconst 0, 1) := by decide +kernel
theorem dX10_fresh_43 : decode cX10_fresh 43 = .ok (.iload_n 1, 1) := by decide +kernel
theorem dX10_fresh_44 : decode cX10_fresh 44 = .ok (.i2l, 1) := by decide +kernel
theorem dX10_fresh_45 : decode cX10_fresh 45 = .ok (.lastore, 1) := by decide +kernel
theorem dX10_fresh_46 : decode cX10_fresh 46 = .ok (.aload_n 0, 1) := by decide +kernel
theorem dX10_fresh_47 : decode cX10_fresh 47 = .ok (.getfield 9, 3) := by decide +kernel
theorem dX10_fresh_50 : decode cX10_fresh 50 = .ok (.iconst 1, 1) := by decide +kernel
theorem dX10_fresh_51 : decode cX10_fresh 51 = .ok (.iload_n 2, 1) := by decide +kernel
theorem dX10_fresh_52 : decode cX10_fresh 52 = .ok (.i2l, 1) := by decide +kernel
theorem dX10_fresh_53 : decode cX10_fresh 53 = .ok (.lastore, 1) := by decide +kernel
theorem dX10_fresh_54 : decode cX10_fresh 54 = .ok (.aload_n 0, 1) := by decide +kernel
theorem dX10_fresh_55 : decode cX10_fresh 55 = .ok (.getfield 9, 3) := by decide +kernel
theorem dX10_fresh_58 : decode cX10_fresh 58 = .ok (.iconst 3, 1) := by decide +kernel
theorem dX10_fresh_59 : decode cX10_fresh 59 = .ok (.lconst 1, 1) := by decide +kernel
theorem dX10_fresh_60 : decode cX10_fresh 60 = .ok (.lastore, 1) := by decide +kernel
theorem dX10_fresh_61 : decode cX10_fresh 61 = .ok (.return_, 1) := by decide +kernel
theorem dX10_copies_0 : decode cX10_copies 0 = .ok (.iconst 0, 1) := by decide +kernel
theorem dX10_copies_1 : decode cX10_copies 1 = .ok (.istore_n 2, 1) := by decide +kernel
theorem dX10_copies_2 : decode cX10_copies 2 = .ok (.iload_n 2, 1) := by decide +kernel
theorem dX10_copies_3 : decode cX10_copies 3 = .ok (.sipush 510, 3) := by decide +kernel
theorem dX10_copies_6 : decode cX10_copies 6 = .ok (.if_icmp .ge 15, 3) := by decide +kernel
theorem dX10_copies_9 : decode cX10_copies 9 = .ok (.aload_n 1, 1) := by decide +kernel
theorem dX10_copies_10 : decode cX10_copies 10 = .ok (.iload_n 2, 1) := by decide +kernel
theorem dX10_copies_11 : decode cX10_copies 11 = .ok (.aload_n 0, 1) := by decide +kernel
theorem dX10_copies_12 : decode cX10_copies 12 = .ok (.iload_n 2, 1) := by decide +kernel
theorem dX10_copies_13 : decode cX10_copies 13 = .ok (.laload, 1) := by decide +kernel
theorem dX10_copies_14 : decode cX10_copies 14 = .ok (.lastore, 1) := by decide +kernel
theorem dX10_copies_15 : decode cX10_copies 15 = .ok (.iinc 2 1, 3) := by decide +kernel
theorem dX10_copies_18 : decode cX10_copies 18 = .ok (.goto (-16), 3) := by decide +kernel
theorem dX10_copies_21 : decode cX10_copies 21 = .ok (.return_, 1) := by decide +kernel
theorem dX10_in_0 : decode cX10_in 0 = .ok (.lload_n 0, 1) := by decide +kernel
theorem dX10_in_1 : decode cX10_in 1 = .ok (.lload_n 2, 1) := by decide +kernel
theorem dX10_in_2 : decode cX10_in 2 = .ok (.lcmp, 1) := by decide +kernel
theorem dX10_in_3 : decode cX10_in 3 = .ok (.ifCond .lt 14, 3) := by decide +kernel
theorem dX10_in_6 : decode cX10_in 6 = .ok (.lload_n 0, 1) := by decide +kernel
theorem dX10_in_7 : decode cX10_in 7 = .ok (.lload 4, 2) := by decide +kernel
theorem dX10_in_9 : decode cX10_in 9 = .ok (.lcmp, 1) := by decide +kernel
theorem dX10_in_10 : decode cX10_in 10 = .ok (.ifCond .gt 7, 3) := by decide +kernel
theorem dX10_in_13 : decode cX10_in 13 = .ok (.iconst 1, 1) := by decide +kernel
theorem dX10_in_14 : decode cX10_in 14 = .ok (.goto 4, 3) := by decide +kernel
theorem dX10_in_17 : decode cX10_in 17 = .ok (.iconst 0, 1) := by decide +kernel
theorem dX10_in_18 : decode cX10_in 18 = .ok (.ireturn, 1) := by decide +kernel
theorem dX10_strips_0 : decode cX10_strips 0 = .ok (.aload_n 0, 1) := by decide +kernel
theorem dX10_strips_1 : decode cX10_strips 1 = .ok (.getfield 9, 3) := by decide +kernel
theorem dX10_strips_4 : decode cX10_strips 4 = .ok (.iconst 0, 1) := by decide +kernel
theorem dX10_strips_5 : decode cX10_strips 5 = .ok (.laload, 1) := by decide +kernel
theorem dX10_strips_6 : decode cX10_strips 6 = .ok (.l2i, 1) := by decide +kernel
theorem dX10_strips_7 : decode cX10_strips 7 = .ok (.ireturn, 1) := by decide +kernel
theorem dX10_agents_0 : decode cX10_agents 0 = .ok (.aload_n 0, 1) := by decide +kernel
theorem dX10_agents_1 : decode cX10_agents 1 = .ok (.getfield 9, 3) := by decide +kernel
theorem dX10_agents_4 : decode cX10_agents 4 = .ok (.iconst 1, 1) := by decide +kernel
theorem dX10_agents_5 : decode cX10_agents 5 = .ok (.laload, 1) := by decide +kernel
theorem dX10_agents_6 : decode cX10_agents 6 = .ok (.l2i, 1) := by decide +kernel
theorem dX10_agents_7 : decode cX10_agents 7 = .ok (.ireturn, 1) := by decide +kernel
theorem dX10_isAgent_0 : decode cX10_isAgent 0 = .ok (.iload_n 1, 1) := by decide +kernel
theorem dX10_isAgent_1 : decode cX10_isAgent 1 = .ok (.i2l, 1) := by decide +kernel
theorem dX10_isAgent_2 : decode cX10_isAgent 2 = .ok (.lconst 0, 1) := by decide +kernel
theorem dX10_isAgent_3 : decode cX10_isAgent 3 = .ok (.aload_n 0, 1) := by decide +kernel
theorem dX10_isAgent_4 : decode cX10_isAgent 4 = .ok (.getfield 9, 3) := by decide +kernel
theorem dX10_isAgent_7 : decode cX10_isAgent 7 = .ok (.iconst 1, 1) := by decide +kernel
theorem dX10_isAgent_8 : decode cX10_isAgent 8 = .ok (.laload, 1) := by decide +kernel
theorem dX10_isAgent_9 : decode cX10_isAgent 9 = .ok (.lconst 1, 1) := by decide +kernel
theorem dX10_isAgent_10 : decode cX10_isAgent 10 = .ok (.lsub, 1) := by decide +kernel
theorem dX10_isAgent_11 : decode cX10_isAgent 11 = .ok (.invokestatic 65, 3) := by decide +kernel
theorem dX10_isAgent_14 : decode cX10_isAgent 14 = .ok (.ireturn, 1) := by decide +kernel
theorem dX10_isStrip_0 : decode cX10_isStrip 0 = .ok (.iload_n 1, 1) := by decide +kernel
theorem dX10_isStrip_1 : decode cX10_isStrip 1 = .ok (.i2l, 1) := by decide +kernel
theorem dX10_isStrip_2 : decode cX10_isStrip 2 = .ok (.lconst 0, 1) := by decide +kernel
theorem dX10_isStrip_3 : decode cX10_isStrip 3 = .ok (.aload_n 0, 1) := by decide +kernel
theorem dX10_isStrip_4 : decode cX10_isStrip 4 = .ok (.getfield 9, 3) := by decide +kernel
theorem dX10_isStrip_7 : decode cX10_isStrip 7 = .ok (.iconst 0, 1) := by decide +kernel
theorem dX10_isStrip_8 : decode cX10_isStrip 8 = .ok (.laload, 1) := by decide +kernel
theorem dX10_isStrip_9 : decode cX10_isStrip 9 = .ok (.lconst 1, 1) := by decide +kernel
theorem dX10_isStrip_10 : decode cX10_isStrip 10 = .ok (.lsub, 1) := by decide +kernel
theorem dX10_isStrip_11 : decode cX10_isStrip 11 = .ok (.invokestatic 65, 3) := by decide +kernel
theorem dX10_isStrip_14 : decode cX10_isStrip 14 = .ok (.ireturn, 1) := by decide +kernel
theorem dX10_worthOf_0 : decode cX10_worthOf 0 = .ok (.aload_n 0, 1) := by decide +kernel
theorem dX10_worthOf_1 : decode cX10_worthOf 1 = .ok (.getfield 9, 3) := by decide +kernel
theorem dX10_worthOf_4 : decode cX10_worthOf 4 = .ok (.iload_n 3, 1) := by decide +kernel
theorem dX10_worthOf_5 : decode cX10_worthOf 5 = .ok (.ifCond .ne 7, 3) := by decide +kernel
theorem dX10_worthOf_8 : decode cX10_worthOf 8 = .ok (.iconst 5, 1) := by decide +kernel
theorem dX10_worthOf_9 : decode cX10_worthOf 9 = .ok (.goto 5, 3) := by decide +kernel
theorem dX10_worthOf_12 : decode cX10_worthOf 12 = .ok (.bipush 85, 2) := by decide +kernel
theorem dX10_worthOf_14 : decode cX10_worthOf 14 = .ok (.bipush 16, 2) := by decide +kernel
theorem dX10_worthOf_16 : decode cX10_worthOf 16 = .ok (.iload_n 1, 1) := by decide +kernel
theorem dX10_worthOf_17 : decode cX10_worthOf 17 = .ok (.imul, 1) := by decide +kernel
theorem dX10_worthOf_18 : decode cX10_worthOf 18 = .ok (.iadd, 1) := by decide +kernel
theorem dX10_worthOf_19 : decode cX10_worthOf 19 = .ok (.iload_n 2, 1) := by decide +kernel
theorem dX10_worthOf_20 : decode cX10_worthOf 20 = .ok (.iadd, 1) := by decide +kernel
theorem dX10_worthOf_21 : decode cX10_worthOf 21 = .ok (.laload, 1) := by decide +kernel
theorem dX10_worthOf_22 : decode cX10_worthOf 22 = .ok (.lreturn, 1) := by decide +kernel
theorem dX10_begin_0 : decode cX10_begin 0 = .ok (.iload_n 1, 1) := by decide +kernel
theorem dX10_begin_1 : decode cX10_begin 1 = .ok (.i2l, 1) := by decide +kernel
theorem dX10_begin_2 : decode cX10_begin 2 = .ok (.ldc2_w 69, 3) := by decide +kernel
theorem dX10_begin_5 : decode cX10_begin 5 = .ok (.ldc2_w 71, 3) := by decide +kernel
theorem dX10_begin_8 : decode cX10_begin 8 = .ok (.invokestatic 65, 3) := by decide +kernel
theorem dX10_begin_11 : decode cX10_begin 11 = .ok (.ifCond .eq 17, 3) := by decide +kernel
theorem dX10_begin_14 : decode cX10_begin 14 = .ok (.iload_n 2, 1) := by decide +kernel
theorem dX10_begin_15 : decode cX10_begin 15 = .ok (.i2l, 1) := by decide +kernel
theorem dX10_begin_16 : decode cX10_begin 16 = .ok (.ldc2_w 69, 3) := by decide +kernel
theorem dX10_begin_19 : decode cX10_begin 19 = .ok (.ldc2_w 73, 3) := by decide +kernel
theorem dX10_begin_22 : decode cX10_begin 22 = .ok (.invokestatic 65, 3) := by decide +kernel
theorem dX10_begin_25 : decode cX10_begin 25 = .ok (.ifCond .ne 5, 3) := by decide +kernel
theorem dX10_begin_28 : decode cX10_begin 28 = .ok (.iconst (-1), 1) := by decide +kernel
theorem dX10_begin_29 : decode cX10_begin 29 = .ok (.ireturn, 1) := by decide +kernel
theorem dX10_begin_30 : decode cX10_begin 30 = .ok (.aload_n 0, 1) := by decide +kernel
theorem dX10_begin_31 : decode cX10_begin 31 = .ok (.invokevirtual 75, 3) := by decide +kernel
theorem dX10_begin_34 : decode cX10_begin 34 = .ok (.istore_n 3, 1) := by decide +kernel
theorem dX10_begin_35 : decode cX10_begin 35 = .ok (.aload_n 0, 1) := by decide +kernel
theorem dX10_begin_36 : decode cX10_begin 36 = .ok (.iload_n 1, 1) := by decide +kernel
theorem dX10_begin_37 : decode cX10_begin 37 = .ok (.iload_n 2, 1) := by decide +kernel
theorem dX10_begin_38 : decode cX10_begin 38 = .ok (.invokevirtual 61, 3) := by decide +kernel
theorem dX10_begin_41 : decode cX10_begin 41 = .ok (.iload_n 3, 1) := by decide +kernel
theorem dX10_begin_42 : decode cX10_begin 42 = .ok (.ireturn, 1) := by decide +kernel
theorem dX10_worth_0 : decode cX10_worth 0 = .ok (.aload_n 0, 1) := by decide +kernel
theorem dX10_worth_1 : decode cX10_worth 1 = .ok (.iload_n 1, 1) := by decide +kernel
theorem dX10_worth_2 : decode cX10_worth 2 = .ok (.invokevirtual 79, 3) := by decide +kernel
theorem dX10_worth_5 : decode cX10_worth 5 = .ok (.ifCond .eq 23, 3) := by decide +kernel
theorem dX10_worth_8 : decode cX10_worth 8 = .ok (.aload_n 0, 1) := by decide +kernel
theorem dX10_worth_9 : decode cX10_worth 9 = .ok (.iload_n 2, 1) := by decide +kernel
theorem dX10_worth_10 : decode cX10_worth 10 = .ok (.invokevirtual 83, 3) := by decide +kernel
theorem dX10_worth_13 : decode cX10_worth 13 = .ok (.ifCond .eq 15, 3) := by decide +kernel
theorem dX10_worth_16 : decode cX10_worth 16 = .ok (.iload_n 3, 1) := by decide +kernel
theorem dX10_worth_17 : decode cX10_worth 17 = .ok (.i2l, 1) := by decide +kernel
theorem dX10_worth_18 : decode cX10_worth 18 = .ok (.lconst 0, 1) := by decide +kernel
theorem dX10_worth_19 : decode cX10_worth 19 = .ok (.ldc2_w 86, 3) := by decide +kernel
theorem dX10_worth_22 : decode cX10_worth 22 = .ok (.invokestatic 65, 3) := by decide +kernel
theorem dX10_worth_25 : decode cX10_worth 25 = .ok (.ifCond .ne 5, 3) := by decide +kernel
theorem dX10_worth_28 : decode cX10_worth 28 = .ok (.iconst (-1), 1) := by decide +kernel
theorem dX10_worth_29 : decode cX10_worth 29 = .ok (.ireturn, 1) := by decide +kernel
theorem dX10_worth_30 : decode cX10_worth 30 = .ok (.aload_n 0, 1) := by decide +kernel
theorem dX10_worth_31 : decode cX10_worth 31 = .ok (.iload_n 1, 1) := by decide +kernel
theorem dX10_worth_32 : decode cX10_worth 32 = .ok (.iload_n 2, 1) := by decide +kernel
theorem dX10_worth_33 : decode cX10_worth 33 = .ok (.iconst 0, 1) := by decide +kernel
theorem dX10_worth_34 : decode cX10_worth 34 = .ok (.invokevirtual 88, 3) := by decide +kernel
theorem dX10_worth_37 : decode cX10_worth 37 = .ok (.l2i, 1) := by decide +kernel
theorem dX10_worth_38 : decode cX10_worth 38 = .ok (.istore 4, 2) := by decide +kernel
theorem dX10_worth_40 : decode cX10_worth 40 = .ok (.aload_n 0, 1) := by decide +kernel
theorem dX10_worth_41 : decode cX10_worth 41 = .ok (.getfield 9, 3) := by decide +kernel
theorem dX10_worth_44 : decode cX10_worth 44 = .ok (.iconst 5, 1) := by decide +kernel
theorem dX10_worth_45 : decode cX10_worth 45 = .ok (.bipush 16, 2) := by decide +kernel
theorem dX10_worth_47 : decode cX10_worth 47 = .ok (.iload_n 1, 1) := by decide +kernel
theorem dX10_worth_48 : decode cX10_worth 48 = .ok (.imul, 1) := by decide +kernel
theorem dX10_worth_49 : decode cX10_worth 49 = .ok (.iadd, 1) := by decide +kernel
theorem dX10_worth_50 : decode cX10_worth 50 = .ok (.iload_n 2, 1) := by decide +kernel
theorem dX10_worth_51 : decode cX10_worth 51 = .ok (.iadd, 1) := by decide +kernel
theorem dX10_worth_52 : decode cX10_worth 52 = .ok (.iload_n 3, 1) := by decide +kernel
theorem dX10_worth_53 : decode cX10_worth 53 = .ok (.i2l, 1) := by decide +kernel
theorem dX10_worth_54 : decode cX10_worth 54 = .ok (.lastore, 1) := by decide +kernel
theorem dX10_worth_55 : decode cX10_worth 55 = .ok (.aload_n 0, 1) := by decide +kernel
theorem dX10_worth_56 : decode cX10_worth 56 = .ok (.getfield 9, 3) := by decide +kernel
theorem dX10_worth_59 : decode cX10_worth 59 = .ok (.bipush 85, 2) := by decide +kernel
theorem dX10_worth_61 : decode cX10_worth 61 = .ok (.bipush 16, 2) := by decide +kernel
theorem dX10_worth_63 : decode cX10_worth 63 = .ok (.iload_n 1, 1) := by decide +kernel
theorem dX10_worth_64 : decode cX10_worth 64 = .ok (.imul, 1) := by decide +kernel
theorem dX10_worth_65 : decode cX10_worth 65 = .ok (.iadd, 1) := by decide +kernel
theorem dX10_worth_66 : decode cX10_worth 66 = .ok (.iload_n 2, 1) := by decide +kernel
theorem dX10_worth_67 : decode cX10_worth 67 = .ok (.iadd, 1) := by decide +kernel
theorem dX10_worth_68 : decode cX10_worth 68 = .ok (.iload_n 3, 1) := by decide +kernel
theorem dX10_worth_69 : decode cX10_worth 69 = .ok (.i2l, 1) := by decide +kernel
theorem dX10_worth_70 : decode cX10_worth 70 = .ok (.lastore, 1) := by decide +kernel
theorem dX10_worth_71 : decode cX10_worth 71 = .ok (.iload 4, 2) := by decide +kernel
theorem dX10_worth_73 : decode cX10_worth 73 = .ok (.ireturn, 1) := by decide +kernel
theorem dX10_tells_0 : decode cX10_tells 0 = .ok (.aload_n 0, 1) := by decide +kernel
theorem dX10_tells_1 : decode cX10_tells 1 = .ok (.iload_n 1, 1) := by decide +kernel
theorem dX10_tells_2 : decode cX10_tells 2 = .ok (.invokevirtual 79, 3) := by decide +kernel
theorem dX10_tells_5 : decode cX10_tells 5 = .ok (.ifCond .eq 23, 3) := by decide +kernel
theorem dX10_tells_8 : decode cX10_tells 8 = .ok (.aload_n 0, 1) := by decide +kernel
theorem dX10_tells_9 : decode cX10_tells 9 = .ok (.iload_n 2, 1) := by decide +kernel
theorem dX10_tells_10 : decode cX10_tells 10 = .ok (.invokevirtual 83, 3) := by decide +kernel
theorem dX10_tells_13 : decode cX10_tells 13 = .ok (.ifCond .eq 15, 3) := by decide +kernel
theorem dX10_tells_16 : decode cX10_tells 16 = .ok (.iload_n 3, 1) := by decide +kernel
theorem dX10_tells_17 : decode cX10_tells 17 = .ok (.i2l, 1) := by decide +kernel
theorem dX10_tells_18 : decode cX10_tells 18 = .ok (.lconst 0, 1) := by decide +kernel
theorem dX10_tells_19 : decode cX10_tells 19 = .ok (.ldc2_w 86, 3) := by decide +kernel
theorem dX10_tells_22 : decode cX10_tells 22 = .ok (.invokestatic 65, 3) := by decide +kernel
theorem dX10_tells_25 : decode cX10_tells 25 = .ok (.ifCond .ne 5, 3) := by decide +kernel
theorem dX10_tells_28 : decode cX10_tells 28 = .ok (.iconst (-1), 1) := by decide +kernel
theorem dX10_tells_29 : decode cX10_tells 29 = .ok (.ireturn, 1) := by decide +kernel
theorem dX10_tells_30 : decode cX10_tells 30 = .ok (.aload_n 0, 1) := by decide +kernel
theorem dX10_tells_31 : decode cX10_tells 31 = .ok (.iload_n 1, 1) := by decide +kernel
theorem dX10_tells_32 : decode cX10_tells 32 = .ok (.iload_n 2, 1) := by decide +kernel
theorem dX10_tells_33 : decode cX10_tells 33 = .ok (.iconst 1, 1) := by decide +kernel
theorem dX10_tells_34 : decode cX10_tells 34 = .ok (.invokevirtual 88, 3) := by decide +kernel
theorem dX10_tells_37 : decode cX10_tells 37 = .ok (.l2i, 1) := by decide +kernel
theorem dX10_tells_38 : decode cX10_tells 38 = .ok (.istore 4, 2) := by decide +kernel
theorem dX10_tells_40 : decode cX10_tells 40 = .ok (.aload_n 0, 1) := by decide +kernel
theorem dX10_tells_41 : decode cX10_tells 41 = .ok (.getfield 9, 3) := by decide +kernel
theorem dX10_tells_44 : decode cX10_tells 44 = .ok (.bipush 85, 2) := by decide +kernel
theorem dX10_tells_46 : decode cX10_tells 46 = .ok (.bipush 16, 2) := by decide +kernel
theorem dX10_tells_48 : decode cX10_tells 48 = .ok (.iload_n 1, 1) := by decide +kernel
theorem dX10_tells_49 : decode cX10_tells 49 = .ok (.imul, 1) := by decide +kernel
theorem dX10_tells_50 : decode cX10_tells 50 = .ok (.iadd, 1) := by decide +kernel
theorem dX10_tells_51 : decode cX10_tells 51 = .ok (.iload_n 2, 1) := by decide +kernel
theorem dX10_tells_52 : decode cX10_tells 52 = .ok (.iadd, 1) := by decide +kernel
theorem dX10_tells_53 : decode cX10_tells 53 = .ok (.iload_n 3, 1) := by decide +kernel
theorem dX10_tells_54 : decode cX10_tells 54 = .ok (.i2l, 1) := by decide +kernel
theorem dX10_tells_55 : decode cX10_tells 55 = .ok (.lastore, 1) := by decide +kernel
theorem dX10_tells_56 : decode cX10_tells 56 = .ok (.iload 4, 2) := by decide +kernel
theorem dX10_tells_58 : decode cX10_tells 58 = .ok (.ireturn, 1) := by decide +kernel
theorem dX10_honest_0 : decode cX10_honest 0 = .ok (.aload_n 0, 1) := by decide +kernel
theorem dX10_honest_1 : decode cX10_honest 1 = .ok (.iload_n 1, 1) := by decide +kernel
theorem dX10_honest_2 : decode cX10_honest 2 = .ok (.invokevirtual 79, 3) := by decide +kernel
theorem dX10_honest_5 : decode cX10_honest 5 = .ok (.ifCond .ne 5, 3) := by decide +kernel
theorem dX10_honest_8 : decode cX10_honest 8 = .ok (.iconst (-1), 1) := by decide +kernel
theorem dX10_honest_9 : decode cX10_honest 9 = .ok (.ireturn, 1) := by decide +kernel
theorem dX10_honest_10 : decode cX10_honest 10 = .ok (.iconst 0, 1) := by decide +kernel
theorem dX10_honest_11 : decode cX10_honest 11 = .ok (.istore_n 2, 1) := by decide +kernel
theorem dX10_honest_12 : decode cX10_honest 12 = .ok (.iconst 0, 1) := by decide +kernel
theorem dX10_honest_13 : decode cX10_honest 13 = .ok (.istore_n 3, 1) := by decide +kernel
theorem dX10_honest_14 : decode cX10_honest 14 = .ok (.iload_n 3, 1) := by decide +kernel
theorem dX10_honest_15 : decode cX10_honest 15 = .ok (.aload_n 0, 1) := by decide +kernel
theorem dX10_honest_16 : decode cX10_honest 16 = .ok (.invokevirtual 92, 3) := by decide +kernel
theorem dX10_honest_19 : decode cX10_honest 19 = .ok (.if_icmp .ge 56, 3) := by decide +kernel
theorem dX10_honest_22 : decode cX10_honest 22 = .ok (.iload_n 2, 1) := by decide +kernel
theorem dX10_honest_23 : decode cX10_honest 23 = .ok (.aload_n 0, 1) := by decide +kernel
theorem dX10_honest_24 : decode cX10_honest 24 = .ok (.iload_n 1, 1) := by decide +kernel
theorem dX10_honest_25 : decode cX10_honest 25 = .ok (.iload_n 3, 1) := by decide +kernel
theorem dX10_honest_26 : decode cX10_honest 26 = .ok (.iconst 0, 1) := by decide +kernel
theorem dX10_honest_27 : decode cX10_honest 27 = .ok (.invokevirtual 88, 3) := by decide +kernel
theorem dX10_honest_30 : decode cX10_honest 30 = .ok (.aload_n 0, 1) := by decide +kernel
theorem dX10_honest_31 : decode cX10_honest 31 = .ok (.iload_n 1, 1) := by decide +kernel
theorem dX10_honest_32 : decode cX10_honest 32 = .ok (.iload_n 3, 1) := by decide +kernel
theorem dX10_honest_33 : decode cX10_honest 33 = .ok (.iconst 1, 1) := by decide +kernel
theorem dX10_honest_34 : decode cX10_honest 34 = .ok (.invokevirtual 88, 3) := by decide +kernel
theorem dX10_honest_37 : decode cX10_honest 37 = .ok (.lcmp, 1) := by decide +kernel
theorem dX10_honest_38 : decode cX10_honest 38 = .ok (.ifCond .ne 7, 3) := by decide +kernel
theorem dX10_honest_41 : decode cX10_honest 41 = .ok (.iconst 0, 1) := by decide +kernel
theorem dX10_honest_42 : decode cX10_honest 42 = .ok (.goto 4, 3) := by decide +kernel
theorem dX10_honest_45 : decode cX10_honest 45 = .ok (.iconst 1, 1) := by decide +kernel
theorem dX10_honest_46 : decode cX10_honest 46 = .ok (.iadd, 1) := by decide +kernel
theorem dX10_honest_47 : decode cX10_honest 47 = .ok (.istore_n 2, 1) := by decide +kernel
theorem dX10_honest_48 : decode cX10_honest 48 = .ok (.aload_n 0, 1) := by decide +kernel
theorem dX10_honest_49 : decode cX10_honest 49 = .ok (.getfield 9, 3) := by decide +kernel
theorem dX10_honest_52 : decode cX10_honest 52 = .ok (.bipush 85, 2) := by decide +kernel
theorem dX10_honest_54 : decode cX10_honest 54 = .ok (.bipush 16, 2) := by decide +kernel
theorem dX10_honest_56 : decode cX10_honest 56 = .ok (.iload_n 1, 1) := by decide +kernel
theorem dX10_honest_57 : decode cX10_honest 57 = .ok (.imul, 1) := by decide +kernel
theorem dX10_honest_58 : decode cX10_honest 58 = .ok (.iadd, 1) := by decide +kernel
theorem dX10_honest_59 : decode cX10_honest 59 = .ok (.iload_n 3, 1) := by decide +kernel
theorem dX10_honest_60 : decode cX10_honest 60 = .ok (.iadd, 1) := by decide +kernel
theorem dX10_honest_61 : decode cX10_honest 61 = .ok (.aload_n 0, 1) := by decide +kernel
theorem dX10_honest_62 : decode cX10_honest 62 = .ok (.iload_n 1, 1) := by decide +kernel
theorem dX10_honest_63 : decode cX10_honest 63 = .ok (.iload_n 3, 1) := by decide +kernel
theorem dX10_honest_64 : decode cX10_honest 64 = .ok (.iconst 0, 1) := by decide +kernel
theorem dX10_honest_65 : decode cX10_honest 65 = .ok (.invokevirtual 88, 3) := by decide +kernel
theorem dX10_honest_68 : decode cX10_honest 68 = .ok (.lastore, 1) := by decide +kernel
theorem dX10_honest_69 : decode cX10_honest 69 = .ok (.iinc 3 1, 3) := by decide +kernel
theorem dX10_honest_72 : decode cX10_honest 72 = .ok (.goto (-58), 3) := by decide +kernel
theorem dX10_honest_75 : decode cX10_honest 75 = .ok (.iload_n 2, 1) := by decide +kernel
theorem dX10_honest_76 : decode cX10_honest 76 = .ok (.ireturn, 1) := by decide +kernel
theorem dX10_strip_0 : decode cX10_strip 0 = .ok (.aload_n 0, 1) := by decide +kernel
theorem dX10_strip_1 : decode cX10_strip 1 = .ok (.iload_n 1, 1) := by decide +kernel
theorem dX10_strip_2 : decode cX10_strip 2 = .ok (.invokevirtual 79, 3) := by decide +kernel
theorem dX10_strip_5 : decode cX10_strip 5 = .ok (.ifCond .eq 32, 3) := by decide +kernel
theorem dX10_strip_8 : decode cX10_strip 8 = .ok (.aload_n 0, 1) := by decide +kernel
theorem dX10_strip_9 : decode cX10_strip 9 = .ok (.iload_n 2, 1) := by decide +kernel
theorem dX10_strip_10 : decode cX10_strip 10 = .ok (.invokevirtual 83, 3) := by decide +kernel
theorem dX10_strip_13 : decode cX10_strip 13 = .ok (.ifCond .eq 24, 3) := by decide +kernel
theorem dX10_strip_16 : decode cX10_strip 16 = .ok (.iload_n 3, 1) := by decide +kernel
theorem dX10_strip_17 : decode cX10_strip 17 = .ok (.i2l, 1) := by decide +kernel
theorem dX10_strip_18 : decode cX10_strip 18 = .ok (.lconst 0, 1) := by decide +kernel
theorem dX10_strip_19 : decode cX10_strip 19 = .ok (.lconst 1, 1) := by decide +kernel
theorem dX10_strip_20 : decode cX10_strip 20 = .ok (.invokestatic 65, 3) := by decide +kernel
theorem dX10_strip_23 : decode cX10_strip 23 = .ok (.ifCond .eq 14, 3) := by decide +kernel
theorem dX10_strip_26 : decode cX10_strip 26 = .ok (.aload_n 0, 1) := by decide +kernel
theorem dX10_strip_27 : decode cX10_strip 27 = .ok (.iload_n 1, 1) := by decide +kernel
theorem dX10_strip_28 : decode cX10_strip 28 = .ok (.iload_n 2, 1) := by decide +kernel
theorem dX10_strip_29 : decode cX10_strip 29 = .ok (.iload_n 3, 1) := by decide +kernel
theorem dX10_strip_30 : decode cX10_strip 30 = .ok (.invokevirtual 88, 3) := by decide +kernel
theorem dX10_strip_33 : decode cX10_strip 33 = .ok (.l2i, 1) := by decide +kernel
theorem dX10_strip_34 : decode cX10_strip 34 = .ok (.goto 4, 3) := by decide +kernel
theorem dX10_strip_37 : decode cX10_strip 37 = .ok (.iconst (-1), 1) := by decide +kernel
theorem dX10_strip_38 : decode cX10_strip 38 = .ok (.ireturn, 1) := by decide +kernel
theorem dX10_divisor_0 : decode cX10_divisor 0 = .ok (.lload_n 0, 1) := by decide +kernel
theorem dX10_divisor_1 : decode cX10_divisor 1 = .ok (.lconst 0, 1) := by decide +kernel
theorem dX10_divisor_2 : decode cX10_divisor 2 = .ok (.lcmp, 1) := by decide +kernel
theorem dX10_divisor_3 : decode cX10_divisor 3 = .ok (.ifCond .ge 8, 3) := by decide +kernel
theorem dX10_divisor_6 : decode cX10_divisor 6 = .ok (.lload_n 0, 1) := by decide +kernel
theorem dX10_divisor_7 : decode cX10_divisor 7 = .ok (.lneg, 1) := by decide +kernel
theorem dX10_divisor_8 : decode cX10_divisor 8 = .ok (.goto 4, 3) := by decide +kernel
theorem dX10_divisor_11 : decode cX10_divisor 11 = .ok (.lload_n 0, 1) := by decide +kernel
theorem dX10_divisor_12 : decode cX10_divisor 12 = .ok (.lstore 4, 2) := by decide +kernel
theorem dX10_divisor_14 : decode cX10_divisor 14 = .ok (.lload_n 2, 1) := by decide +kernel
theorem dX10_divisor_15 : decode cX10_divisor 15 = .ok (.lstore 6, 2) := by decide +kernel
theorem dX10_divisor_17 : decode cX10_divisor 17 = .ok (.lload 6, 2) := by decide +kernel
theorem dX10_divisor_19 : decode cX10_divisor 19 = .ok (.lconst 0, 1) := by decide +kernel
theorem dX10_divisor_20 : decode cX10_divisor 20 = .ok (.lcmp, 1) := by decide +kernel
theorem dX10_divisor_21 : decode cX10_divisor 21 = .ok (.ifCond .eq 21, 3) := by decide +kernel
theorem dX10_divisor_24 : decode cX10_divisor 24 = .ok (.lload 4, 2) := by decide +kernel
theorem dX10_divisor_26 : decode cX10_divisor 26 = .ok (.lload 6, 2) := by decide +kernel
theorem dX10_divisor_28 : decode cX10_divisor 28 = .ok (.lrem, 1) := by decide +kernel
theorem dX10_divisor_29 : decode cX10_divisor 29 = .ok (.lstore 8, 2) := by decide +kernel
theorem dX10_divisor_31 : decode cX10_divisor 31 = .ok (.lload 6, 2) := by decide +kernel
theorem dX10_divisor_33 : decode cX10_divisor 33 = .ok (.lstore 4, 2) := by decide +kernel
theorem dX10_divisor_35 : decode cX10_divisor 35 = .ok (.lload 8, 2) := by decide +kernel
theorem dX10_divisor_37 : decode cX10_divisor 37 = .ok (.lstore 6, 2) := by decide +kernel
theorem dX10_divisor_39 : decode cX10_divisor 39 = .ok (.goto (-22), 3) := by decide +kernel
theorem dX10_divisor_42 : decode cX10_divisor 42 = .ok (.lload 4, 2) := by decide +kernel
theorem dX10_divisor_44 : decode cX10_divisor 44 = .ok (.lreturn, 1) := by decide +kernel
theorem dX10_becomes_0 : decode cX10_becomes 0 = .ok (.lload_n 1, 1) := by decide +kernel
theorem dX10_becomes_1 : decode cX10_becomes 1 = .ok (.lload_n 3, 1) := by decide +kernel
theorem dX10_becomes_2 : decode cX10_becomes 2 = .ok (.invokestatic 95, 3) := by decide +kernel
theorem dX10_becomes_5 : decode cX10_becomes 5 = .ok (.lstore 5, 2) := by decide +kernel
theorem dX10_becomes_7 : decode cX10_becomes 7 = .ok (.aload_n 0, 1) := by decide +kernel
theorem dX10_becomes_8 : decode cX10_becomes 8 = .ok (.lload_n 1, 1) := by decide +kernel
theorem dX10_becomes_9 : decode cX10_becomes 9 = .ok (.lload 5, 2) := by decide +kernel
theorem dX10_becomes_11 : decode cX10_becomes 11 = .ok (.ldiv, 1) := by decide +kernel
theorem dX10_becomes_12 : decode cX10_becomes 12 = .ok (.putfield 99, 3) := by decide +kernel
theorem dX10_becomes_15 : decode cX10_becomes 15 = .ok (.aload_n 0, 1) := by decide +kernel
theorem dX10_becomes_16 : decode cX10_becomes 16 = .ok (.lload_n 3, 1) := by decide +kernel
theorem dX10_becomes_17 : decode cX10_becomes 17 = .ok (.lload 5, 2) := by decide +kernel
theorem dX10_becomes_19 : decode cX10_becomes 19 = .ok (.ldiv, 1) := by decide +kernel
theorem dX10_becomes_20 : decode cX10_becomes 20 = .ok (.putfield 103, 3) := by decide +kernel
theorem dX10_becomes_23 : decode cX10_becomes 23 = .ok (.return_, 1) := by decide +kernel
theorem dX10_partOf_0 : decode cX10_partOf 0 = .ok (.iload_n 1, 1) := by decide +kernel
theorem dX10_partOf_1 : decode cX10_partOf 1 = .ok (.ifCond .ne 10, 3) := by decide +kernel
theorem dX10_partOf_4 : decode cX10_partOf 4 = .ok (.aload_n 0, 1) := by decide +kernel
theorem dX10_partOf_5 : decode cX10_partOf 5 = .ok (.getfield 99, 3) := by decide +kernel
theorem dX10_partOf_8 : decode cX10_partOf 8 = .ok (.goto 7, 3) := by decide +kernel
theorem dX10_partOf_11 : decode cX10_partOf 11 = .ok (.aload_n 0, 1) := by decide +kernel
theorem dX10_partOf_12 : decode cX10_partOf 12 = .ok (.getfield 103, 3) := by decide +kernel
theorem dX10_partOf_15 : decode cX10_partOf 15 = .ok (.lreturn, 1) := by decide +kernel
theorem dX10_isLess_0 : decode cX10_isLess 0 = .ok (.lload_n 0, 1) := by decide +kernel
theorem dX10_isLess_1 : decode cX10_isLess 1 = .ok (.lload_n 2, 1) := by decide +kernel
theorem dX10_isLess_2 : decode cX10_isLess 2 = .ok (.ldiv, 1) := by decide +kernel
theorem dX10_isLess_3 : decode cX10_isLess 3 = .ok (.lload 4, 2) := by decide +kernel
theorem dX10_isLess_5 : decode cX10_isLess 5 = .ok (.lload 6, 2) := by decide +kernel
theorem dX10_isLess_7 : decode cX10_isLess 7 = .ok (.ldiv, 1) := by decide +kernel
theorem dX10_isLess_8 : decode cX10_isLess 8 = .ok (.lcmp, 1) := by decide +kernel
theorem dX10_isLess_9 : decode cX10_isLess 9 = .ok (.ifCond .eq 23, 3) := by decide +kernel
theorem dX10_isLess_12 : decode cX10_isLess 12 = .ok (.lload_n 0, 1) := by decide +kernel
theorem dX10_isLess_13 : decode cX10_isLess 13 = .ok (.lload_n 2, 1) := by decide +kernel
theorem dX10_isLess_14 : decode cX10_isLess 14 = .ok (.ldiv, 1) := by decide +kernel
theorem dX10_isLess_15 : decode cX10_isLess 15 = .ok (.lload 4, 2) := by decide +kernel
theorem dX10_isLess_17 : decode cX10_isLess 17 = .ok (.lload 6, 2) := by decide +kernel
theorem dX10_isLess_19 : decode cX10_isLess 19 = .ok (.ldiv, 1) := by decide +kernel
theorem dX10_isLess_20 : decode cX10_isLess 20 = .ok (.lcmp, 1) := by decide +kernel
theorem dX10_isLess_21 : decode cX10_isLess 21 = .ok (.ifCond .ge 7, 3) := by decide +kernel
theorem dX10_isLess_24 : decode cX10_isLess 24 = .ok (.iconst 1, 1) := by decide +kernel
theorem dX10_isLess_25 : decode cX10_isLess 25 = .ok (.goto 29, 3) := by decide +kernel
theorem dX10_isLess_28 : decode cX10_isLess 28 = .ok (.iconst 0, 1) := by decide +kernel
theorem dX10_isLess_29 : decode cX10_isLess 29 = .ok (.goto 25, 3) := by decide +kernel
theorem dX10_isLess_32 : decode cX10_isLess 32 = .ok (.lload_n 0, 1) := by decide +kernel
theorem dX10_isLess_33 : decode cX10_isLess 33 = .ok (.lload_n 2, 1) := by decide +kernel
theorem dX10_isLess_34 : decode cX10_isLess 34 = .ok (.lrem, 1) := by decide +kernel
theorem dX10_isLess_35 : decode cX10_isLess 35 = .ok (.lload 6, 2) := by decide +kernel
theorem dX10_isLess_37 : decode cX10_isLess 37 = .ok (.lmul, 1) := by decide +kernel
theorem dX10_isLess_38 : decode cX10_isLess 38 = .ok (.lload 4, 2) := by decide +kernel
theorem dX10_isLess_40 : decode cX10_isLess 40 = .ok (.lload 6, 2) := by decide +kernel
theorem dX10_isLess_42 : decode cX10_isLess 42 = .ok (.lrem, 1) := by decide +kernel
theorem dX10_isLess_43 : decode cX10_isLess 43 = .ok (.lload_n 2, 1) := by decide +kernel
theorem dX10_isLess_44 : decode cX10_isLess 44 = .ok (.lmul, 1) := by decide +kernel
theorem dX10_isLess_45 : decode cX10_isLess 45 = .ok (.lcmp, 1) := by decide +kernel
theorem dX10_isLess_46 : decode cX10_isLess 46 = .ok (.ifCond .ge 7, 3) := by decide +kernel
theorem dX10_isLess_49 : decode cX10_isLess 49 = .ok (.iconst 1, 1) := by decide +kernel
theorem dX10_isLess_50 : decode cX10_isLess 50 = .ok (.goto 4, 3) := by decide +kernel
theorem dX10_isLess_53 : decode cX10_isLess 53 = .ok (.iconst 0, 1) := by decide +kernel
theorem dX10_isLess_54 : decode cX10_isLess 54 = .ok (.ireturn, 1) := by decide +kernel
theorem dX10_aheadOf_0 : decode cX10_aheadOf 0 = .ok (.lload_n 3, 1) := by decide +kernel
theorem dX10_aheadOf_1 : decode cX10_aheadOf 1 = .ok (.lload 5, 2) := by decide +kernel
theorem dX10_aheadOf_3 : decode cX10_aheadOf 3 = .ok (.ldiv, 1) := by decide +kernel
theorem dX10_aheadOf_4 : decode cX10_aheadOf 4 = .ok (.l2i, 1) := by decide +kernel
theorem dX10_aheadOf_5 : decode cX10_aheadOf 5 = .ok (.istore 7, 2) := by decide +kernel
theorem dX10_aheadOf_7 : decode cX10_aheadOf 7 = .ok (.lconst 0, 1) := by decide +kernel
theorem dX10_aheadOf_8 : decode cX10_aheadOf 8 = .ok (.lstore 8, 2) := by decide +kernel
theorem dX10_aheadOf_10 : decode cX10_aheadOf 10 = .ok (.iconst 0, 1) := by decide +kernel
theorem dX10_aheadOf_11 : decode cX10_aheadOf 11 = .ok (.istore 10, 2) := by decide +kernel
theorem dX10_aheadOf_13 : decode cX10_aheadOf 13 = .ok (.iload 10, 2) := by decide +kernel
theorem dX10_aheadOf_15 : decode cX10_aheadOf 15 = .ok (.iload 7, 2) := by decide +kernel
theorem dX10_aheadOf_17 : decode cX10_aheadOf 17 = .ok (.if_icmp .ge 25, 3) := by decide +kernel
theorem dX10_aheadOf_20 : decode cX10_aheadOf 20 = .ok (.lload 8, 2) := by decide +kernel
theorem dX10_aheadOf_22 : decode cX10_aheadOf 22 = .ok (.aload_n 0, 1) := by decide +kernel
theorem dX10_aheadOf_23 : decode cX10_aheadOf 23 = .ok (.iload_n 1, 1) := by decide +kernel
theorem dX10_aheadOf_24 : decode cX10_aheadOf 24 = .ok (.iload 10, 2) := by decide +kernel
theorem dX10_aheadOf_26 : decode cX10_aheadOf 26 = .ok (.iload_n 2, 1) := by decide +kernel
theorem dX10_aheadOf_27 : decode cX10_aheadOf 27 = .ok (.invokevirtual 88, 3) := by decide +kernel
theorem dX10_aheadOf_30 : decode cX10_aheadOf 30 = .ok (.lload 5, 2) := by decide +kernel
theorem dX10_aheadOf_32 : decode cX10_aheadOf 32 = .ok (.lmul, 1) := by decide +kernel
theorem dX10_aheadOf_33 : decode cX10_aheadOf 33 = .ok (.ladd, 1) := by decide +kernel
theorem dX10_aheadOf_34 : decode cX10_aheadOf 34 = .ok (.lstore 8, 2) := by decide +kernel
theorem dX10_aheadOf_36 : decode cX10_aheadOf 36 = .ok (.iinc 10 1, 3) := by decide +kernel
theorem dX10_aheadOf_39 : decode cX10_aheadOf 39 = .ok (.goto (-26), 3) := by decide +kernel
theorem dX10_aheadOf_42 : decode cX10_aheadOf 42 = .ok (.lload 8, 2) := by decide +kernel
theorem dX10_aheadOf_44 : decode cX10_aheadOf 44 = .ok (.iload 7, 2) := by decide +kernel
theorem dX10_aheadOf_46 : decode cX10_aheadOf 46 = .ok (.aload_n 0, 1) := by decide +kernel
theorem dX10_aheadOf_47 : decode cX10_aheadOf 47 = .ok (.invokevirtual 92, 3) := by decide +kernel
theorem dX10_aheadOf_50 : decode cX10_aheadOf 50 = .ok (.if_icmp .ge 19, 3) := by decide +kernel
theorem dX10_aheadOf_53 : decode cX10_aheadOf 53 = .ok (.aload_n 0, 1) := by decide +kernel
theorem dX10_aheadOf_54 : decode cX10_aheadOf 54 = .ok (.iload_n 1, 1) := by decide +kernel
theorem dX10_aheadOf_55 : decode cX10_aheadOf 55 = .ok (.iload 7, 2) := by decide +kernel
theorem dX10_aheadOf_57 : decode cX10_aheadOf 57 = .ok (.iload_n 2, 1) := by decide +kernel
theorem dX10_aheadOf_58 : decode cX10_aheadOf 58 = .ok (.invokevirtual 88, 3) := by decide +kernel
theorem dX10_aheadOf_61 : decode cX10_aheadOf 61 = .ok (.lload_n 3, 1) := by decide +kernel
theorem dX10_aheadOf_62 : decode cX10_aheadOf 62 = .ok (.lload 5, 2) := by decide +kernel
theorem dX10_aheadOf_64 : decode cX10_aheadOf 64 = .ok (.lrem, 1) := by decide +kernel
theorem dX10_aheadOf_65 : decode cX10_aheadOf 65 = .ok (.lmul, 1) := by decide +kernel
theorem dX10_aheadOf_66 : decode cX10_aheadOf 66 = .ok (.goto 4, 3) := by decide +kernel
theorem dX10_aheadOf_69 : decode cX10_aheadOf 69 = .ok (.lconst 0, 1) := by decide +kernel
theorem dX10_aheadOf_70 : decode cX10_aheadOf 70 = .ok (.ladd, 1) := by decide +kernel
theorem dX10_aheadOf_71 : decode cX10_aheadOf 71 = .ok (.lreturn, 1) := by decide +kernel
theorem dX10_allOf_0 : decode cX10_allOf 0 = .ok (.aload_n 0, 1) := by decide +kernel
theorem dX10_allOf_1 : decode cX10_allOf 1 = .ok (.iload_n 1, 1) := by decide +kernel
theorem dX10_allOf_2 : decode cX10_allOf 2 = .ok (.iload_n 2, 1) := by decide +kernel
theorem dX10_allOf_3 : decode cX10_allOf 3 = .ok (.aload_n 0, 1) := by decide +kernel
theorem dX10_allOf_4 : decode cX10_allOf 4 = .ok (.invokevirtual 92, 3) := by decide +kernel
theorem dX10_allOf_7 : decode cX10_allOf 7 = .ok (.i2l, 1) := by decide +kernel
theorem dX10_allOf_8 : decode cX10_allOf 8 = .ok (.lconst 1, 1) := by decide +kernel
theorem dX10_allOf_9 : decode cX10_allOf 9 = .ok (.invokevirtual 106, 3) := by decide +kernel
theorem dX10_allOf_12 : decode cX10_allOf 12 = .ok (.lreturn, 1) := by decide +kernel
theorem dX10_worthBetween_0 : decode cX10_worthBetween 0 = .ok (.lload 5, 2) := by decide +kernel
theorem dX10_worthBetween_2 : decode cX10_worthBetween 2 = .ok (.lload 5, 2) := by decide +kernel
theorem dX10_worthBetween_4 : decode cX10_worthBetween 4 = .ok (.lload 9, 2) := by decide +kernel
theorem dX10_worthBetween_6 : decode cX10_worthBetween 6 = .ok (.invokestatic 95, 3) := by decide +kernel
theorem dX10_worthBetween_9 : decode cX10_worthBetween 9 = .ok (.ldiv, 1) := by decide +kernel
theorem dX10_worthBetween_10 : decode cX10_worthBetween 10 = .ok (.lload 9, 2) := by decide +kernel
theorem dX10_worthBetween_12 : decode cX10_worthBetween 12 = .ok (.lmul, 1) := by decide +kernel
theorem dX10_worthBetween_13 : decode cX10_worthBetween 13 = .ok (.lstore 11, 2) := by decide +kernel
theorem dX10_worthBetween_15 : decode cX10_worthBetween 15 = .ok (.aload_n 0, 1) := by decide +kernel
theorem dX10_worthBetween_16 : decode cX10_worthBetween 16 = .ok (.aload_n 0, 1) := by decide +kernel
theorem dX10_worthBetween_17 : decode cX10_worthBetween 17 = .ok (.iload_n 1, 1) := by decide +kernel
theorem dX10_worthBetween_18 : decode cX10_worthBetween 18 = .ok (.iload_n 2, 1) := by decide +kernel
theorem dX10_worthBetween_19 : decode cX10_worthBetween 19 = .ok (.lload 7, 2) := by decide +kernel
theorem dX10_worthBetween_21 : decode cX10_worthBetween 21 = .ok (.lload 9, 2) := by decide +kernel
theorem dX10_worthBetween_23 : decode cX10_worthBetween 23 = .ok (.invokevirtual 106, 3) := by decide +kernel
theorem dX10_worthBetween_26 : decode cX10_worthBetween 26 = .ok (.lload 11, 2) := by decide +kernel
theorem dX10_worthBetween_28 : decode cX10_worthBetween 28 = .ok (.lload 9, 2) := by decide +kernel
theorem dX10_worthBetween_30 : decode cX10_worthBetween 30 = .ok (.ldiv, 1) := by decide +kernel
theorem dX10_worthBetween_31 : decode cX10_worthBetween 31 = .ok (.lmul, 1) := by decide +kernel
theorem dX10_worthBetween_32 : decode cX10_worthBetween 32 = .ok (.aload_n 0, 1) := by decide +kernel
theorem dX10_worthBetween_33 : decode cX10_worthBetween 33 = .ok (.iload_n 1, 1) := by decide +kernel
theorem dX10_worthBetween_34 : decode cX10_worthBetween 34 = .ok (.iload_n 2, 1) := by decide +kernel
theorem dX10_worthBetween_35 : decode cX10_worthBetween 35 = .ok (.lload_n 3, 1) := by decide +kernel
theorem dX10_worthBetween_36 : decode cX10_worthBetween 36 = .ok (.lload 5, 2) := by decide +kernel
theorem dX10_worthBetween_38 : decode cX10_worthBetween 38 = .ok (.invokevirtual 106, 3) := by decide +kernel
theorem dX10_worthBetween_41 : decode cX10_worthBetween 41 = .ok (.lload 11, 2) := by decide +kernel
theorem dX10_worthBetween_43 : decode cX10_worthBetween 43 = .ok (.lload 5, 2) := by decide +kernel
theorem dX10_worthBetween_45 : decode cX10_worthBetween 45 = .ok (.ldiv, 1) := by decide +kernel
theorem dX10_worthBetween_46 : decode cX10_worthBetween 46 = .ok (.lmul, 1) := by decide +kernel
theorem dX10_worthBetween_47 : decode cX10_worthBetween 47 = .ok (.lsub, 1) := by decide +kernel
theorem dX10_worthBetween_48 : decode cX10_worthBetween 48 = .ok (.lload 11, 2) := by decide +kernel
theorem dX10_worthBetween_50 : decode cX10_worthBetween 50 = .ok (.invokevirtual 110, 3) := by decide +kernel
theorem dX10_worthBetween_53 : decode cX10_worthBetween 53 = .ok (.return_, 1) := by decide +kernel
theorem dX10_span_0 : decode cX10_span 0 = .ok (.aload_n 0, 1) := by decide +kernel
theorem dX10_span_1 : decode cX10_span 1 = .ok (.iload_n 1, 1) := by decide +kernel
theorem dX10_span_2 : decode cX10_span 2 = .ok (.invokevirtual 79, 3) := by decide +kernel
theorem dX10_span_5 : decode cX10_span 5 = .ok (.ifCond .eq 59, 3) := by decide +kernel
theorem dX10_span_8 : decode cX10_span 8 = .ok (.iload_n 2, 1) := by decide +kernel
theorem dX10_span_9 : decode cX10_span 9 = .ok (.i2l, 1) := by decide +kernel
theorem dX10_span_10 : decode cX10_span 10 = .ok (.lconst 0, 1) := by decide +kernel
theorem dX10_span_11 : decode cX10_span 11 = .ok (.lconst 1, 1) := by decide +kernel
theorem dX10_span_12 : decode cX10_span 12 = .ok (.invokestatic 65, 3) := by decide +kernel
theorem dX10_span_15 : decode cX10_span 15 = .ok (.ifCond .eq 49, 3) := by decide +kernel
theorem dX10_span_18 : decode cX10_span 18 = .ok (.iload 7, 2) := by decide +kernel
theorem dX10_span_20 : decode cX10_span 20 = .ok (.i2l, 1) := by decide +kernel
theorem dX10_span_21 : decode cX10_span 21 = .ok (.lconst 0, 1) := by decide +kernel
theorem dX10_span_22 : decode cX10_span 22 = .ok (.lconst 1, 1) := by decide +kernel
theorem dX10_span_23 : decode cX10_span 23 = .ok (.invokestatic 65, 3) := by decide +kernel
theorem dX10_span_26 : decode cX10_span 26 = .ok (.ifCond .eq 38, 3) := by decide +kernel
theorem dX10_span_29 : decode cX10_span 29 = .ok (.iload 4, 2) := by decide +kernel
theorem dX10_span_31 : decode cX10_span 31 = .ok (.i2l, 1) := by decide +kernel
theorem dX10_span_32 : decode cX10_span 32 = .ok (.lconst 1, 1) := by decide +kernel
theorem dX10_span_33 : decode cX10_span 33 = .ok (.ldc2_w 114, 3) := by decide +kernel
theorem dX10_span_36 : decode cX10_span 36 = .ok (.invokestatic 65, 3) := by decide +kernel
theorem dX10_span_39 : decode cX10_span 39 = .ok (.ifCond .eq 25, 3) := by decide +kernel
theorem dX10_span_42 : decode cX10_span 42 = .ok (.iload 6, 2) := by decide +kernel
theorem dX10_span_44 : decode cX10_span 44 = .ok (.i2l, 1) := by decide +kernel
theorem dX10_span_45 : decode cX10_span 45 = .ok (.lconst 1, 1) := by decide +kernel
theorem dX10_span_46 : decode cX10_span 46 = .ok (.ldc2_w 114, 3) := by decide +kernel
theorem dX10_span_49 : decode cX10_span 49 = .ok (.invokestatic 65, 3) := by decide +kernel
theorem dX10_span_52 : decode cX10_span 52 = .ok (.ifCond .eq 12, 3) := by decide +kernel
theorem dX10_span_55 : decode cX10_span 55 = .ok (.iload_n 3, 1) := by decide +kernel
theorem dX10_span_56 : decode cX10_span 56 = .ok (.ifCond .lt 8, 3) := by decide +kernel
theorem dX10_span_59 : decode cX10_span 59 = .ok (.iload 5, 2) := by decide +kernel
theorem dX10_span_61 : decode cX10_span 61 = .ok (.ifCond .ge 7, 3) := by decide +kernel
theorem dX10_span_64 : decode cX10_span 64 = .ok (.ldc2_w 116, 3) := by decide +kernel
theorem dX10_span_67 : decode cX10_span 67 = .ok (.lreturn, 1) := by decide +kernel
theorem dX10_span_68 : decode cX10_span 68 = .ok (.iload_n 3, 1) := by decide +kernel
theorem dX10_span_69 : decode cX10_span 69 = .ok (.i2l, 1) := by decide +kernel
theorem dX10_span_70 : decode cX10_span 70 = .ok (.aload_n 0, 1) := by decide +kernel
theorem dX10_span_71 : decode cX10_span 71 = .ok (.getfield 9, 3) := by decide +kernel
theorem dX10_span_74 : decode cX10_span 74 = .ok (.iconst 0, 1) := by decide +kernel
theorem dX10_span_75 : decode cX10_span 75 = .ok (.laload, 1) := by decide +kernel
theorem dX10_span_76 : decode cX10_span 76 = .ok (.iload 4, 2) := by decide +kernel
theorem dX10_span_78 : decode cX10_span 78 = .ok (.i2l, 1) := by decide +kernel
theorem dX10_span_79 : decode cX10_span 79 = .ok (.lmul, 1) := by decide +kernel
theorem dX10_span_80 : decode cX10_span 80 = .ok (.lcmp, 1) := by decide +kernel
theorem dX10_span_81 : decode cX10_span 81 = .ok (.ifCond .gt 37, 3) := by decide +kernel
theorem dX10_span_84 : decode cX10_span 84 = .ok (.iload 5, 2) := by decide +kernel
theorem dX10_span_86 : decode cX10_span 86 = .ok (.i2l, 1) := by decide +kernel
theorem dX10_span_87 : decode cX10_span 87 = .ok (.aload_n 0, 1) := by decide +kernel
theorem dX10_span_88 : decode cX10_span 88 = .ok (.getfield 9, 3) := by decide +kernel
theorem dX10_span_91 : decode cX10_span 91 = .ok (.iconst 0, 1) := by decide +kernel
theorem dX10_span_92 : decode cX10_span 92 = .ok (.laload, 1) := by decide +kernel
theorem dX10_span_93 : decode cX10_span 93 = .ok (.iload 6, 2) := by decide +kernel
theorem dX10_span_95 : decode cX10_span 95 = .ok (.i2l, 1) := by decide +kernel
theorem dX10_span_96 : decode cX10_span 96 = .ok (.lmul, 1) := by decide +kernel
theorem dX10_span_97 : decode cX10_span 97 = .ok (.lcmp, 1) := by decide +kernel
theorem dX10_span_98 : decode cX10_span 98 = .ok (.ifCond .gt 20, 3) := by decide +kernel
theorem dX10_span_101 : decode cX10_span 101 = .ok (.iload 5, 2) := by decide +kernel
theorem dX10_span_103 : decode cX10_span 103 = .ok (.i2l, 1) := by decide +kernel
theorem dX10_span_104 : decode cX10_span 104 = .ok (.iload 4, 2) := by decide +kernel
theorem dX10_span_106 : decode cX10_span 106 = .ok (.i2l, 1) := by decide +kernel
theorem dX10_span_107 : decode cX10_span 107 = .ok (.lmul, 1) := by decide +kernel
theorem dX10_span_108 : decode cX10_span 108 = .ok (.iload_n 3, 1) := by decide +kernel
theorem dX10_span_109 : decode cX10_span 109 = .ok (.i2l, 1) := by decide +kernel
theorem dX10_span_110 : decode cX10_span 110 = .ok (.iload 6, 2) := by decide +kernel
theorem dX10_span_112 : decode cX10_span 112 = .ok (.i2l, 1) := by decide +kernel
theorem dX10_span_113 : decode cX10_span 113 = .ok (.lmul, 1) := by decide +kernel
theorem dX10_span_114 : decode cX10_span 114 = .ok (.lcmp, 1) := by decide +kernel
theorem dX10_span_115 : decode cX10_span 115 = .ok (.ifCond .ge 7, 3) := by decide +kernel
theorem dX10_span_118 : decode cX10_span 118 = .ok (.ldc2_w 116, 3) := by decide +kernel
theorem dX10_span_121 : decode cX10_span 121 = .ok (.lreturn, 1) := by decide +kernel
theorem dX10_span_122 : decode cX10_span 122 = .ok (.aload_n 0, 1) := by decide +kernel
theorem dX10_span_123 : decode cX10_span 123 = .ok (.iload_n 1, 1) := by decide +kernel
theorem dX10_span_124 : decode cX10_span 124 = .ok (.iload_n 2, 1) := by decide +kernel
theorem dX10_span_125 : decode cX10_span 125 = .ok (.iload_n 3, 1) := by decide +kernel
theorem dX10_span_126 : decode cX10_span 126 = .ok (.i2l, 1) := by decide +kernel
theorem dX10_span_127 : decode cX10_span 127 = .ok (.iload 4, 2) := by decide +kernel
theorem dX10_span_129 : decode cX10_span 129 = .ok (.i2l, 1) := by decide +kernel
theorem dX10_span_130 : decode cX10_span 130 = .ok (.iload 5, 2) := by decide +kernel
theorem dX10_span_132 : decode cX10_span 132 = .ok (.i2l, 1) := by decide +kernel
theorem dX10_span_133 : decode cX10_span 133 = .ok (.iload 6, 2) := by decide +kernel
theorem dX10_span_135 : decode cX10_span 135 = .ok (.i2l, 1) := by decide +kernel
theorem dX10_span_136 : decode cX10_span 136 = .ok (.invokevirtual 118, 3) := by decide +kernel
theorem dX10_span_139 : decode cX10_span 139 = .ok (.aload_n 0, 1) := by decide +kernel
theorem dX10_span_140 : decode cX10_span 140 = .ok (.iload 7, 2) := by decide +kernel
theorem dX10_span_142 : decode cX10_span 142 = .ok (.invokevirtual 122, 3) := by decide +kernel
theorem dX10_span_145 : decode cX10_span 145 = .ok (.lreturn, 1) := by decide +kernel
theorem dX10_marks_0 : decode cX10_marks 0 = .ok (.lload 6, 2) := by decide +kernel
theorem dX10_marks_2 : decode cX10_marks 2 = .ok (.lconst 0, 1) := by decide +kernel
theorem dX10_marks_3 : decode cX10_marks 3 = .ok (.lcmp, 1) := by decide +kernel
theorem dX10_marks_4 : decode cX10_marks 4 = .ok (.ifCond .ne 12, 3) := by decide +kernel
theorem dX10_marks_7 : decode cX10_marks 7 = .ok (.aload_n 0, 1) := by decide +kernel
theorem dX10_marks_8 : decode cX10_marks 8 = .ok (.lload_n 2, 1) := by decide +kernel
theorem dX10_marks_9 : decode cX10_marks 9 = .ok (.lload 4, 2) := by decide +kernel
theorem dX10_marks_11 : decode cX10_marks 11 = .ok (.invokevirtual 110, 3) := by decide +kernel
theorem dX10_marks_14 : decode cX10_marks 14 = .ok (.iconst 1, 1) := by decide +kernel
theorem dX10_marks_15 : decode cX10_marks 15 = .ok (.ireturn, 1) := by decide +kernel
theorem dX10_marks_16 : decode cX10_marks 16 = .ok (.lload 4, 2) := by decide +kernel
theorem dX10_marks_18 : decode cX10_marks 18 = .ok (.lload 4, 2) := by decide +kernel
theorem dX10_marks_20 : decode cX10_marks 20 = .ok (.lload 8, 2) := by decide +kernel
theorem dX10_marks_22 : decode cX10_marks 22 = .ok (.invokestatic 95, 3) := by decide +kernel
theorem dX10_marks_25 : decode cX10_marks 25 = .ok (.ldiv, 1) := by decide +kernel
theorem dX10_marks_26 : decode cX10_marks 26 = .ok (.lload 8, 2) := by decide +kernel
theorem dX10_marks_28 : decode cX10_marks 28 = .ok (.lmul, 1) := by decide +kernel
theorem dX10_marks_29 : decode cX10_marks 29 = .ok (.lstore 10, 2) := by decide +kernel
theorem dX10_marks_31 : decode cX10_marks 31 = .ok (.aload_n 0, 1) := by decide +kernel
theorem dX10_marks_32 : decode cX10_marks 32 = .ok (.iload_n 1, 1) := by decide +kernel
theorem dX10_marks_33 : decode cX10_marks 33 = .ok (.iconst 1, 1) := by decide +kernel
theorem dX10_marks_34 : decode cX10_marks 34 = .ok (.lload_n 2, 1) := by decide +kernel
theorem dX10_marks_35 : decode cX10_marks 35 = .ok (.lload 4, 2) := by decide +kernel
theorem dX10_marks_37 : decode cX10_marks 37 = .ok (.invokevirtual 106, 3) := by decide +kernel
theorem dX10_marks_40 : decode cX10_marks 40 = .ok (.lload 10, 2) := by decide +kernel
theorem dX10_marks_42 : decode cX10_marks 42 = .ok (.lload 4, 2) := by decide +kernel
theorem dX10_marks_44 : decode cX10_marks 44 = .ok (.ldiv, 1) := by decide +kernel
theorem dX10_marks_45 : decode cX10_marks 45 = .ok (.lmul, 1) := by decide +kernel
theorem dX10_marks_46 : decode cX10_marks 46 = .ok (.lload 6, 2) := by decide +kernel
theorem dX10_marks_48 : decode cX10_marks 48 = .ok (.lload 10, 2) := by decide +kernel
theorem dX10_marks_50 : decode cX10_marks 50 = .ok (.lload 8, 2) := by decide +kernel
theorem dX10_marks_52 : decode cX10_marks 52 = .ok (.ldiv, 1) := by decide +kernel
theorem dX10_marks_53 : decode cX10_marks 53 = .ok (.lmul, 1) := by decide +kernel
theorem dX10_marks_54 : decode cX10_marks 54 = .ok (.ladd, 1) := by decide +kernel
theorem dX10_marks_55 : decode cX10_marks 55 = .ok (.lstore 12, 2) := by decide +kernel
theorem dX10_marks_57 : decode cX10_marks 57 = .ok (.lconst 0, 1) := by decide +kernel
theorem dX10_marks_58 : decode cX10_marks 58 = .ok (.lstore 14, 2) := by decide +kernel
theorem dX10_marks_60 : decode cX10_marks 60 = .ok (.iconst 0, 1) := by decide +kernel
theorem dX10_marks_61 : decode cX10_marks 61 = .ok (.istore 16, 2) := by decide +kernel
theorem dX10_marks_63 : decode cX10_marks 63 = .ok (.iload 16, 2) := by decide +kernel
theorem dX10_marks_65 : decode cX10_marks 65 = .ok (.aload_n 0, 1) := by decide +kernel
theorem dX10_marks_66 : decode cX10_marks 66 = .ok (.invokevirtual 92, 3) := by decide +kernel
theorem dX10_marks_69 : decode cX10_marks 69 = .ok (.if_icmp .ge 80, 3) := by decide +kernel
theorem dX10_marks_72 : decode cX10_marks 72 = .ok (.aload_n 0, 1) := by decide +kernel
theorem dX10_marks_73 : decode cX10_marks 73 = .ok (.iload_n 1, 1) := by decide +kernel
theorem dX10_marks_74 : decode cX10_marks 74 = .ok (.iload 16, 2) := by decide +kernel
theorem dX10_marks_76 : decode cX10_marks 76 = .ok (.iconst 1, 1) := by decide +kernel
theorem dX10_marks_77 : decode cX10_marks 77 = .ok (.invokevirtual 88, 3) := by decide +kernel
theorem dX10_marks_80 : decode cX10_marks 80 = .ok (.lstore 17, 2) := by decide +kernel
theorem dX10_marks_82 : decode cX10_marks 82 = .ok (.lload 14, 2) := by decide +kernel
theorem dX10_marks_84 : decode cX10_marks 84 = .ok (.lload 10, 2) := by decide +kernel
theorem dX10_marks_86 : decode cX10_marks 86 = .ok (.lmul, 1) := by decide +kernel
theorem dX10_marks_87 : decode cX10_marks 87 = .ok (.lload 12, 2) := by decide +kernel
theorem dX10_marks_89 : decode cX10_marks 89 = .ok (.lcmp, 1) := by decide +kernel
theorem dX10_marks_90 : decode cX10_marks 90 = .ok (.ifCond .ge 46, 3) := by decide +kernel
theorem dX10_marks_93 : decode cX10_marks 93 = .ok (.lload 12, 2) := by decide +kernel
theorem dX10_marks_95 : decode cX10_marks 95 = .ok (.lload 14, 2) := by decide +kernel
theorem dX10_marks_97 : decode cX10_marks 97 = .ok (.lload 17, 2) := by decide +kernel
theorem dX10_marks_99 : decode cX10_marks 99 = .ok (.ladd, 1) := by decide +kernel
theorem dX10_marks_100 : decode cX10_marks 100 = .ok (.lload 10, 2) := by decide +kernel
theorem dX10_marks_102 : decode cX10_marks 102 = .ok (.lmul, 1) := by decide +kernel
theorem dX10_marks_103 : decode cX10_marks 103 = .ok (.lcmp, 1) := by decide +kernel
theorem dX10_marks_104 : decode cX10_marks 104 = .ok (.ifCond .gt 32, 3) := by decide +kernel
theorem dX10_marks_107 : decode cX10_marks 107 = .ok (.aload_n 0, 1) := by decide +kernel
theorem dX10_marks_108 : decode cX10_marks 108 = .ok (.iload 16, 2) := by decide +kernel
theorem dX10_marks_110 : decode cX10_marks 110 = .ok (.i2l, 1) := by decide +kernel
theorem dX10_marks_111 : decode cX10_marks 111 = .ok (.lload 17, 2) := by decide +kernel
theorem dX10_marks_113 : decode cX10_marks 113 = .ok (.lmul, 1) := by decide +kernel
theorem dX10_marks_114 : decode cX10_marks 114 = .ok (.lload 10, 2) := by decide +kernel
theorem dX10_marks_116 : decode cX10_marks 116 = .ok (.lmul, 1) := by decide +kernel
theorem dX10_marks_117 : decode cX10_marks 117 = .ok (.lload 12, 2) := by decide +kernel
theorem dX10_marks_119 : decode cX10_marks 119 = .ok (.ladd, 1) := by decide +kernel
theorem dX10_marks_120 : decode cX10_marks 120 = .ok (.lload 14, 2) := by decide +kernel
theorem dX10_marks_122 : decode cX10_marks 122 = .ok (.lload 10, 2) := by decide +kernel
theorem dX10_marks_124 : decode cX10_marks 124 = .ok (.lmul, 1) := by decide +kernel
theorem dX10_marks_125 : decode cX10_marks 125 = .ok (.lsub, 1) := by decide +kernel
theorem dX10_marks_126 : decode cX10_marks 126 = .ok (.lload 17, 2) := by decide +kernel
theorem dX10_marks_128 : decode cX10_marks 128 = .ok (.lload 10, 2) := by decide +kernel
theorem dX10_marks_130 : decode cX10_marks 130 = .ok (.lmul, 1) := by decide +kernel
theorem dX10_marks_131 : decode cX10_marks 131 = .ok (.invokevirtual 110, 3) := by decide +kernel
theorem dX10_marks_134 : decode cX10_marks 134 = .ok (.iconst 1, 1) := by decide +kernel
theorem dX10_marks_135 : decode cX10_marks 135 = .ok (.ireturn, 1) := by decide +kernel
theorem dX10_marks_136 : decode cX10_marks 136 = .ok (.lload 14, 2) := by decide +kernel
theorem dX10_marks_138 : decode cX10_marks 138 = .ok (.lload 17, 2) := by decide +kernel
theorem dX10_marks_140 : decode cX10_marks 140 = .ok (.ladd, 1) := by decide +kernel
theorem dX10_marks_141 : decode cX10_marks 141 = .ok (.lstore 14, 2) := by decide +kernel
theorem dX10_marks_143 : decode cX10_marks 143 = .ok (.iinc 16 1, 3) := by decide +kernel
theorem dX10_marks_146 : decode cX10_marks 146 = .ok (.goto (-83), 3) := by decide +kernel
theorem dX10_marks_149 : decode cX10_marks 149 = .ok (.iconst 0, 1) := by decide +kernel
theorem dX10_marks_150 : decode cX10_marks 150 = .ok (.ireturn, 1) := by decide +kernel
theorem dX10_mark_0 : decode cX10_mark 0 = .ok (.aload_n 0, 1) := by decide +kernel
theorem dX10_mark_1 : decode cX10_mark 1 = .ok (.iload_n 1, 1) := by decide +kernel
theorem dX10_mark_2 : decode cX10_mark 2 = .ok (.invokevirtual 79, 3) := by decide +kernel
theorem dX10_mark_5 : decode cX10_mark 5 = .ok (.ifCond .eq 63, 3) := by decide +kernel
theorem dX10_mark_8 : decode cX10_mark 8 = .ok (.iload_n 3, 1) := by decide +kernel
theorem dX10_mark_9 : decode cX10_mark 9 = .ok (.i2l, 1) := by decide +kernel
theorem dX10_mark_10 : decode cX10_mark 10 = .ok (.lconst 1, 1) := by decide +kernel
theorem dX10_mark_11 : decode cX10_mark 11 = .ok (.ldc2_w 114, 3) := by decide +kernel
theorem dX10_mark_14 : decode cX10_mark 14 = .ok (.invokestatic 65, 3) := by decide +kernel
theorem dX10_mark_17 : decode cX10_mark 17 = .ok (.ifCond .eq 51, 3) := by decide +kernel
theorem dX10_mark_20 : decode cX10_mark 20 = .ok (.iload 5, 2) := by decide +kernel
theorem dX10_mark_22 : decode cX10_mark 22 = .ok (.i2l, 1) := by decide +kernel
theorem dX10_mark_23 : decode cX10_mark 23 = .ok (.lconst 1, 1) := by decide +kernel
theorem dX10_mark_24 : decode cX10_mark 24 = .ok (.ldc2_w 126, 3) := by decide +kernel
theorem dX10_mark_27 : decode cX10_mark 27 = .ok (.invokestatic 65, 3) := by decide +kernel
theorem dX10_mark_30 : decode cX10_mark 30 = .ok (.ifCond .eq 38, 3) := by decide +kernel
theorem dX10_mark_33 : decode cX10_mark 33 = .ok (.iload 4, 2) := by decide +kernel
theorem dX10_mark_35 : decode cX10_mark 35 = .ok (.ifCond .lt 33, 3) := by decide +kernel
theorem dX10_mark_38 : decode cX10_mark 38 = .ok (.iload 6, 2) := by decide +kernel
theorem dX10_mark_40 : decode cX10_mark 40 = .ok (.i2l, 1) := by decide +kernel
theorem dX10_mark_41 : decode cX10_mark 41 = .ok (.lconst 0, 1) := by decide +kernel
theorem dX10_mark_42 : decode cX10_mark 42 = .ok (.lconst 1, 1) := by decide +kernel
theorem dX10_mark_43 : decode cX10_mark 43 = .ok (.invokestatic 65, 3) := by decide +kernel
theorem dX10_mark_46 : decode cX10_mark 46 = .ok (.ifCond .eq 22, 3) := by decide +kernel
theorem dX10_mark_49 : decode cX10_mark 49 = .ok (.iload_n 2, 1) := by decide +kernel
theorem dX10_mark_50 : decode cX10_mark 50 = .ok (.ifCond .lt 18, 3) := by decide +kernel
theorem dX10_mark_53 : decode cX10_mark 53 = .ok (.iload_n 2, 1) := by decide +kernel
theorem dX10_mark_54 : decode cX10_mark 54 = .ok (.i2l, 1) := by decide +kernel
theorem dX10_mark_55 : decode cX10_mark 55 = .ok (.aload_n 0, 1) := by decide +kernel
theorem dX10_mark_56 : decode cX10_mark 56 = .ok (.getfield 9, 3) := by decide +kernel
theorem dX10_mark_59 : decode cX10_mark 59 = .ok (.iconst 0, 1) := by decide +kernel
theorem dX10_mark_60 : decode cX10_mark 60 = .ok (.laload, 1) := by decide +kernel
theorem dX10_mark_61 : decode cX10_mark 61 = .ok (.iload_n 3, 1) := by decide +kernel
theorem dX10_mark_62 : decode cX10_mark 62 = .ok (.i2l, 1) := by decide +kernel
theorem dX10_mark_63 : decode cX10_mark 63 = .ok (.lmul, 1) := by decide +kernel
theorem dX10_mark_64 : decode cX10_mark 64 = .ok (.lcmp, 1) := by decide +kernel
theorem dX10_mark_65 : decode cX10_mark 65 = .ok (.ifCond .le 7, 3) := by decide +kernel
theorem dX10_mark_68 : decode cX10_mark 68 = .ok (.ldc2_w 116, 3) := by decide +kernel
theorem dX10_mark_71 : decode cX10_mark 71 = .ok (.lreturn, 1) := by decide +kernel
theorem dX10_mark_72 : decode cX10_mark 72 = .ok (.aload_n 0, 1) := by decide +kernel
theorem dX10_mark_73 : decode cX10_mark 73 = .ok (.aload_n 0, 1) := by decide +kernel
theorem dX10_mark_74 : decode cX10_mark 74 = .ok (.iload_n 1, 1) := by decide +kernel
theorem dX10_mark_75 : decode cX10_mark 75 = .ok (.iconst 1, 1) := by decide +kernel
theorem dX10_mark_76 : decode cX10_mark 76 = .ok (.invokevirtual 128, 3) := by decide +kernel
theorem dX10_mark_79 : decode cX10_mark 79 = .ok (.iload 4, 2) := by decide +kernel
theorem dX10_mark_81 : decode cX10_mark 81 = .ok (.i2l, 1) := by decide +kernel
theorem dX10_mark_82 : decode cX10_mark 82 = .ok (.lmul, 1) := by decide +kernel
theorem dX10_mark_83 : decode cX10_mark 83 = .ok (.iload 5, 2) := by decide +kernel
theorem dX10_mark_85 : decode cX10_mark 85 = .ok (.i2l, 1) := by decide +kernel
theorem dX10_mark_86 : decode cX10_mark 86 = .ok (.invokevirtual 110, 3) := by decide +kernel
theorem dX10_mark_89 : decode cX10_mark 89 = .ok (.aload_n 0, 1) := by decide +kernel
theorem dX10_mark_90 : decode cX10_mark 90 = .ok (.iload_n 1, 1) := by decide +kernel
theorem dX10_mark_91 : decode cX10_mark 91 = .ok (.iload_n 2, 1) := by decide +kernel
theorem dX10_mark_92 : decode cX10_mark 92 = .ok (.i2l, 1) := by decide +kernel
theorem dX10_mark_93 : decode cX10_mark 93 = .ok (.iload_n 3, 1) := by decide +kernel
theorem dX10_mark_94 : decode cX10_mark 94 = .ok (.i2l, 1) := by decide +kernel
theorem dX10_mark_95 : decode cX10_mark 95 = .ok (.aload_n 0, 1) := by decide +kernel
theorem dX10_mark_96 : decode cX10_mark 96 = .ok (.getfield 99, 3) := by decide +kernel
theorem dX10_mark_99 : decode cX10_mark 99 = .ok (.aload_n 0, 1) := by decide +kernel
theorem dX10_mark_100 : decode cX10_mark 100 = .ok (.getfield 103, 3) := by decide +kernel
theorem dX10_mark_103 : decode cX10_mark 103 = .ok (.invokevirtual 132, 3) := by decide +kernel
theorem dX10_mark_106 : decode cX10_mark 106 = .ok (.ifCond .eq 12, 3) := by decide +kernel
theorem dX10_mark_109 : decode cX10_mark 109 = .ok (.aload_n 0, 1) := by decide +kernel
theorem dX10_mark_110 : decode cX10_mark 110 = .ok (.iload 6, 2) := by decide +kernel
theorem dX10_mark_112 : decode cX10_mark 112 = .ok (.invokevirtual 122, 3) := by decide +kernel
theorem dX10_mark_115 : decode cX10_mark 115 = .ok (.goto 6, 3) := by decide +kernel
theorem dX10_mark_118 : decode cX10_mark 118 = .ok (.ldc2_w 116, 3) := by decide +kernel
theorem dX10_mark_121 : decode cX10_mark 121 = .ok (.lreturn, 1) := by decide +kernel
theorem dX10_exact_0 : decode cX10_exact 0 = .ok (.aload_n 0, 1) := by decide +kernel
theorem dX10_exact_1 : decode cX10_exact 1 = .ok (.iload_n 1, 1) := by decide +kernel
theorem dX10_exact_2 : decode cX10_exact 2 = .ok (.invokevirtual 79, 3) := by decide +kernel
theorem dX10_exact_5 : decode cX10_exact 5 = .ok (.ifCond .eq 28, 3) := by decide +kernel
theorem dX10_exact_8 : decode cX10_exact 8 = .ok (.aload_n 0, 1) := by decide +kernel
theorem dX10_exact_9 : decode cX10_exact 9 = .ok (.iload_n 2, 1) := by decide +kernel
theorem dX10_exact_10 : decode cX10_exact 10 = .ok (.invokevirtual 79, 3) := by decide +kernel
theorem dX10_exact_13 : decode cX10_exact 13 = .ok (.ifCond .eq 20, 3) := by decide +kernel
theorem dX10_exact_16 : decode cX10_exact 16 = .ok (.iload_n 1, 1) := by decide +kernel
theorem dX10_exact_17 : decode cX10_exact 17 = .ok (.iload_n 2, 1) := by decide +kernel
theorem dX10_exact_18 : decode cX10_exact 18 = .ok (.if_icmp .eq 15, 3) := by decide +kernel
theorem dX10_exact_21 : decode cX10_exact 21 = .ok (.iload_n 3, 1) := by decide +kernel
theorem dX10_exact_22 : decode cX10_exact 22 = .ok (.i2l, 1) := by decide +kernel
theorem dX10_exact_23 : decode cX10_exact 23 = .ok (.lconst 0, 1) := by decide +kernel
theorem dX10_exact_24 : decode cX10_exact 24 = .ok (.ldc2_w 136, 3) := by decide +kernel
theorem dX10_exact_27 : decode cX10_exact 27 = .ok (.invokestatic 65, 3) := by decide +kernel
theorem dX10_exact_30 : decode cX10_exact 30 = .ok (.ifCond .ne 7, 3) := by decide +kernel
theorem dX10_exact_33 : decode cX10_exact 33 = .ok (.ldc2_w 116, 3) := by decide +kernel
theorem dX10_exact_36 : decode cX10_exact 36 = .ok (.lreturn, 1) := by decide +kernel
theorem dX10_exact_37 : decode cX10_exact 37 = .ok (.iconst 0, 1) := by decide +kernel
theorem dX10_exact_38 : decode cX10_exact 38 = .ok (.istore 4, 2) := by decide +kernel
theorem dX10_exact_40 : decode cX10_exact 40 = .ok (.iload 4, 2) := by decide +kernel
theorem dX10_exact_42 : decode cX10_exact 42 = .ok (.aload_n 0, 1) := by decide +kernel
theorem dX10_exact_43 : decode cX10_exact 43 = .ok (.invokevirtual 92, 3) := by decide +kernel
theorem dX10_exact_46 : decode cX10_exact 46 = .ok (.if_icmp .ge 39, 3) := by decide +kernel
theorem dX10_exact_49 : decode cX10_exact 49 = .ok (.aload_n 0, 1) := by decide +kernel
theorem dX10_exact_50 : decode cX10_exact 50 = .ok (.iload_n 1, 1) := by decide +kernel
theorem dX10_exact_51 : decode cX10_exact 51 = .ok (.iload 4, 2) := by decide +kernel
theorem dX10_exact_53 : decode cX10_exact 53 = .ok (.iconst 1, 1) := by decide +kernel
theorem dX10_exact_54 : decode cX10_exact 54 = .ok (.invokevirtual 88, 3) := by decide +kernel
theorem dX10_exact_57 : decode cX10_exact 57 = .ok (.lconst 0, 1) := by decide +kernel
theorem dX10_exact_58 : decode cX10_exact 58 = .ok (.lcmp, 1) := by decide +kernel
theorem dX10_exact_59 : decode cX10_exact 59 = .ok (.ifCond .eq 16, 3) := by decide +kernel
theorem dX10_exact_62 : decode cX10_exact 62 = .ok (.aload_n 0, 1) := by decide +kernel
theorem dX10_exact_63 : decode cX10_exact 63 = .ok (.iload_n 2, 1) := by decide +kernel
theorem dX10_exact_64 : decode cX10_exact 64 = .ok (.iload 4, 2) := by decide +kernel
theorem dX10_exact_66 : decode cX10_exact 66 = .ok (.iconst 1, 1) := by decide +kernel
theorem dX10_exact_67 : decode cX10_exact 67 = .ok (.invokevirtual 88, 3) := by decide +kernel
theorem dX10_exact_70 : decode cX10_exact 70 = .ok (.lconst 0, 1) := by decide +kernel
theorem dX10_exact_71 : decode cX10_exact 71 = .ok (.lcmp, 1) := by decide +kernel
theorem dX10_exact_72 : decode cX10_exact 72 = .ok (.ifCond .ne 7, 3) := by decide +kernel
theorem dX10_exact_75 : decode cX10_exact 75 = .ok (.ldc2_w 116, 3) := by decide +kernel
theorem dX10_exact_78 : decode cX10_exact 78 = .ok (.lreturn, 1) := by decide +kernel
theorem dX10_exact_79 : decode cX10_exact 79 = .ok (.iinc 4 1, 3) := by decide +kernel
theorem dX10_exact_82 : decode cX10_exact 82 = .ok (.goto (-42), 3) := by decide +kernel
theorem dX10_exact_85 : decode cX10_exact 85 = .ok (.aload_n 0, 1) := by decide +kernel
theorem dX10_exact_86 : decode cX10_exact 86 = .ok (.iload_n 1, 1) := by decide +kernel
theorem dX10_exact_87 : decode cX10_exact 87 = .ok (.lconst 0, 1) := by decide +kernel
theorem dX10_exact_88 : decode cX10_exact 88 = .ok (.lconst 1, 1) := by decide +kernel
theorem dX10_exact_89 : decode cX10_exact 89 = .ok (.aload_n 0, 1) := by decide +kernel
theorem dX10_exact_90 : decode cX10_exact 90 = .ok (.iload_n 1, 1) := by decide +kernel
theorem dX10_exact_91 : decode cX10_exact 91 = .ok (.iconst 1, 1) := by decide +kernel
theorem dX10_exact_92 : decode cX10_exact 92 = .ok (.invokevirtual 128, 3) := by decide +kernel
theorem dX10_exact_95 : decode cX10_exact 95 = .ok (.ldc2_w 69, 3) := by decide +kernel
theorem dX10_exact_98 : decode cX10_exact 98 = .ok (.invokevirtual 132, 3) := by decide +kernel
theorem dX10_exact_101 : decode cX10_exact 101 = .ok (.pop, 1) := by decide +kernel
theorem dX10_exact_102 : decode cX10_exact 102 = .ok (.lconst 0, 1) := by decide +kernel
theorem dX10_exact_103 : decode cX10_exact 103 = .ok (.lstore 4, 2) := by decide +kernel
theorem dX10_exact_105 : decode cX10_exact 105 = .ok (.aload_n 0, 1) := by decide +kernel
theorem dX10_exact_106 : decode cX10_exact 106 = .ok (.getfield 99, 3) := by decide +kernel
theorem dX10_exact_109 : decode cX10_exact 109 = .ok (.ldc2_w 138, 3) := by decide +kernel
theorem dX10_exact_112 : decode cX10_exact 112 = .ok (.aload_n 0, 1) := by decide +kernel
theorem dX10_exact_113 : decode cX10_exact 113 = .ok (.getfield 103, 3) := by decide +kernel
theorem dX10_exact_116 : decode cX10_exact 116 = .ok (.ldiv, 1) := by decide +kernel
theorem dX10_exact_117 : decode cX10_exact 117 = .ok (.lmul, 1) := by decide +kernel
theorem dX10_exact_118 : decode cX10_exact 118 = .ok (.lstore 6, 2) := by decide +kernel
theorem dX10_exact_120 : decode cX10_exact 120 = .ok (.aload_n 0, 1) := by decide +kernel
theorem dX10_exact_121 : decode cX10_exact 121 = .ok (.iload_n 2, 1) := by decide +kernel
theorem dX10_exact_122 : decode cX10_exact 122 = .ok (.iconst 1, 1) := by decide +kernel
theorem dX10_exact_123 : decode cX10_exact 123 = .ok (.lload 6, 2) := by decide +kernel
theorem dX10_exact_125 : decode cX10_exact 125 = .ok (.ldc2_w 138, 3) := by decide +kernel
theorem dX10_exact_128 : decode cX10_exact 128 = .ok (.invokevirtual 106, 3) := by decide +kernel
theorem dX10_exact_131 : decode cX10_exact 131 = .ok (.aload_n 0, 1) := by decide +kernel
theorem dX10_exact_132 : decode cX10_exact 132 = .ok (.iload_n 2, 1) := by decide +kernel
theorem dX10_exact_133 : decode cX10_exact 133 = .ok (.iconst 1, 1) := by decide +kernel
theorem dX10_exact_134 : decode cX10_exact 134 = .ok (.lload 4, 2) := by decide +kernel
theorem dX10_exact_136 : decode cX10_exact 136 = .ok (.ldc2_w 138, 3) := by decide +kernel
theorem dX10_exact_139 : decode cX10_exact 139 = .ok (.invokevirtual 106, 3) := by decide +kernel
theorem dX10_exact_142 : decode cX10_exact 142 = .ok (.lsub, 1) := by decide +kernel
theorem dX10_exact_143 : decode cX10_exact 143 = .ok (.aload_n 0, 1) := by decide +kernel
theorem dX10_exact_144 : decode cX10_exact 144 = .ok (.iload_n 2, 1) := by decide +kernel
theorem dX10_exact_145 : decode cX10_exact 145 = .ok (.iconst 1, 1) := by decide +kernel
theorem dX10_exact_146 : decode cX10_exact 146 = .ok (.invokevirtual 128, 3) := by decide +kernel
theorem dX10_exact_149 : decode cX10_exact 149 = .ok (.ldc2_w 140, 3) := by decide +kernel
theorem dX10_exact_152 : decode cX10_exact 152 = .ok (.lmul, 1) := by decide +kernel
theorem dX10_exact_153 : decode cX10_exact 153 = .ok (.lsub, 1) := by decide +kernel
theorem dX10_exact_154 : decode cX10_exact 154 = .ok (.lstore 8, 2) := by decide +kernel
theorem dX10_exact_156 : decode cX10_exact 156 = .ok (.lload 8, 2) := by decide +kernel
theorem dX10_exact_158 : decode cX10_exact 158 = .ok (.lconst 0, 1) := by decide +kernel
theorem dX10_exact_159 : decode cX10_exact 159 = .ok (.lcmp, 1) := by decide +kernel
theorem dX10_exact_160 : decode cX10_exact 160 = .ok (.ifCond .eq 269, 3) := by decide +kernel
theorem dX10_exact_163 : decode cX10_exact 163 = .ok (.lload 4, 2) := by decide +kernel
theorem dX10_exact_165 : decode cX10_exact 165 = .ok (.ldc2_w 138, 3) := by decide +kernel
theorem dX10_exact_168 : decode cX10_exact 168 = .ok (.ldiv, 1) := by decide +kernel
theorem dX10_exact_169 : decode cX10_exact 169 = .ok (.l2i, 1) := by decide +kernel
theorem dX10_exact_170 : decode cX10_exact 170 = .ok (.istore 10, 2) := by decide +kernel
theorem dX10_exact_172 : decode cX10_exact 172 = .ok (.lload 6, 2) := by decide +kernel
theorem dX10_exact_174 : decode cX10_exact 174 = .ok (.ldc2_w 138, 3) := by decide +kernel
theorem dX10_exact_177 : decode cX10_exact 177 = .ok (.ldiv, 1) := by decide +kernel
theorem dX10_exact_178 : decode cX10_exact 178 = .ok (.l2i, 1) := by decide +kernel
theorem dX10_exact_179 : decode cX10_exact 179 = .ok (.istore 11, 2) := by decide +kernel
theorem dX10_exact_181 : decode cX10_exact 181 = .ok (.aload_n 0, 1) := by decide +kernel
theorem dX10_exact_182 : decode cX10_exact 182 = .ok (.iload_n 1, 1) := by decide +kernel
theorem dX10_exact_183 : decode cX10_exact 183 = .ok (.iload 10, 2) := by decide +kernel
theorem dX10_exact_185 : decode cX10_exact 185 = .ok (.iconst 1, 1) := by decide +kernel
theorem dX10_exact_186 : decode cX10_exact 186 = .ok (.invokevirtual 88, 3) := by decide +kernel
theorem dX10_exact_189 : decode cX10_exact 189 = .ok (.lstore 12, 2) := by decide +kernel
theorem dX10_exact_191 : decode cX10_exact 191 = .ok (.aload_n 0, 1) := by decide +kernel
theorem dX10_exact_192 : decode cX10_exact 192 = .ok (.iload_n 1, 1) := by decide +kernel
theorem dX10_exact_193 : decode cX10_exact 193 = .ok (.iload 11, 2) := by decide +kernel
theorem dX10_exact_195 : decode cX10_exact 195 = .ok (.iconst 1, 1) := by decide +kernel
theorem dX10_exact_196 : decode cX10_exact 196 = .ok (.invokevirtual 88, 3) := by decide +kernel
theorem dX10_exact_199 : decode cX10_exact 199 = .ok (.lstore 14, 2) := by decide +kernel
theorem dX10_exact_201 : decode cX10_exact 201 = .ok (.aload_n 0, 1) := by decide +kernel
theorem dX10_exact_202 : decode cX10_exact 202 = .ok (.iload_n 2, 1) := by decide +kernel
theorem dX10_exact_203 : decode cX10_exact 203 = .ok (.iload 11, 2) := by decide +kernel
theorem dX10_exact_205 : decode cX10_exact 205 = .ok (.iconst 1, 1) := by decide +kernel
theorem dX10_exact_206 : decode cX10_exact 206 = .ok (.invokevirtual 88, 3) := by decide +kernel
theorem dX10_exact_209 : decode cX10_exact 209 = .ok (.lload 12, 2) := by decide +kernel
theorem dX10_exact_211 : decode cX10_exact 211 = .ok (.lmul, 1) := by decide +kernel
theorem dX10_exact_212 : decode cX10_exact 212 = .ok (.aload_n 0, 1) := by decide +kernel
theorem dX10_exact_213 : decode cX10_exact 213 = .ok (.iload_n 2, 1) := by decide +kernel
theorem dX10_exact_214 : decode cX10_exact 214 = .ok (.iload 10, 2) := by decide +kernel
theorem dX10_exact_216 : decode cX10_exact 216 = .ok (.iconst 1, 1) := by decide +kernel
theorem dX10_exact_217 : decode cX10_exact 217 = .ok (.invokevirtual 88, 3) := by decide +kernel
theorem dX10_exact_220 : decode cX10_exact 220 = .ok (.lload 14, 2) := by decide +kernel
theorem dX10_exact_222 : decode cX10_exact 222 = .ok (.lmul, 1) := by decide +kernel
theorem dX10_exact_223 : decode cX10_exact 223 = .ok (.lsub, 1) := by decide +kernel
theorem dX10_exact_224 : decode cX10_exact 224 = .ok (.lstore 16, 2) := by decide +kernel
theorem dX10_exact_226 : decode cX10_exact 226 = .ok (.iload 10, 2) := by decide +kernel
theorem dX10_exact_228 : decode cX10_exact 228 = .ok (.iconst 1, 1) := by decide +kernel
theorem dX10_exact_229 : decode cX10_exact 229 = .ok (.iadd, 1) := by decide +kernel
theorem dX10_exact_230 : decode cX10_exact 230 = .ok (.i2l, 1) := by decide +kernel
theorem dX10_exact_231 : decode cX10_exact 231 = .ok (.ldc2_w 138, 3) := by decide +kernel
theorem dX10_exact_234 : decode cX10_exact 234 = .ok (.lmul, 1) := by decide +kernel
theorem dX10_exact_235 : decode cX10_exact 235 = .ok (.lload 4, 2) := by decide +kernel
theorem dX10_exact_237 : decode cX10_exact 237 = .ok (.lsub, 1) := by decide +kernel
theorem dX10_exact_238 : decode cX10_exact 238 = .ok (.lstore 18, 2) := by decide +kernel
theorem dX10_exact_240 : decode cX10_exact 240 = .ok (.iload 11, 2) := by decide +kernel
theorem dX10_exact_242 : decode cX10_exact 242 = .ok (.iconst 1, 1) := by decide +kernel
theorem dX10_exact_243 : decode cX10_exact 243 = .ok (.iadd, 1) := by decide +kernel
theorem dX10_exact_244 : decode cX10_exact 244 = .ok (.i2l, 1) := by decide +kernel
theorem dX10_exact_245 : decode cX10_exact 245 = .ok (.ldc2_w 138, 3) := by decide +kernel
theorem dX10_exact_248 : decode cX10_exact 248 = .ok (.lmul, 1) := by decide +kernel
theorem dX10_exact_249 : decode cX10_exact 249 = .ok (.lload 6, 2) := by decide +kernel
theorem dX10_exact_251 : decode cX10_exact 251 = .ok (.lsub, 1) := by decide +kernel
theorem dX10_exact_252 : decode cX10_exact 252 = .ok (.lload 14, 2) := by decide +kernel
theorem dX10_exact_254 : decode cX10_exact 254 = .ok (.lmul, 1) := by decide +kernel
theorem dX10_exact_255 : decode cX10_exact 255 = .ok (.lload 12, 2) := by decide +kernel
theorem dX10_exact_257 : decode cX10_exact 257 = .ok (.ldiv, 1) := by decide +kernel
theorem dX10_exact_258 : decode cX10_exact 258 = .ok (.lstore 20, 2) := by decide +kernel
theorem dX10_exact_260 : decode cX10_exact 260 = .ok (.lload 18, 2) := by decide +kernel
theorem dX10_exact_262 : decode cX10_exact 262 = .ok (.lload 20, 2) := by decide +kernel
theorem dX10_exact_264 : decode cX10_exact 264 = .ok (.lcmp, 1) := by decide +kernel
theorem dX10_exact_265 : decode cX10_exact 265 = .ok (.ifCond .ge 8, 3) := by decide +kernel
theorem dX10_exact_268 : decode cX10_exact 268 = .ok (.lload 18, 2) := by decide +kernel
theorem dX10_exact_270 : decode cX10_exact 270 = .ok (.goto 5, 3) := by decide +kernel
theorem dX10_exact_273 : decode cX10_exact 273 = .ok (.lload 20, 2) := by decide +kernel
theorem dX10_exact_275 : decode cX10_exact 275 = .ok (.lstore 22, 2) := by decide +kernel
theorem dX10_exact_277 : decode cX10_exact 277 = .ok (.lload 16, 2) := by decide +kernel
theorem dX10_exact_279 : decode cX10_exact 279 = .ok (.lconst 0, 1) := by decide +kernel
theorem dX10_exact_280 : decode cX10_exact 280 = .ok (.lcmp, 1) := by decide +kernel
theorem dX10_exact_281 : decode cX10_exact 281 = .ok (.ifCond .ge 9, 3) := by decide +kernel
theorem dX10_exact_284 : decode cX10_exact 284 = .ok (.ldc2_w 142, 3) := by decide +kernel
theorem dX10_exact_287 : decode cX10_exact 287 = .ok (.goto 4, 3) := by decide +kernel
theorem dX10_exact_290 : decode cX10_exact 290 = .ok (.lconst 1, 1) := by decide +kernel
theorem dX10_exact_291 : decode cX10_exact 291 = .ok (.lstore 24, 2) := by decide +kernel
theorem dX10_exact_293 : decode cX10_exact 293 = .ok (.lload 8, 2) := by decide +kernel
theorem dX10_exact_295 : decode cX10_exact 295 = .ok (.lneg, 1) := by decide +kernel
theorem dX10_exact_296 : decode cX10_exact 296 = .ok (.lload 14, 2) := by decide +kernel
theorem dX10_exact_298 : decode cX10_exact 298 = .ok (.lmul, 1) := by decide +kernel
theorem dX10_exact_299 : decode cX10_exact 299 = .ok (.lload 24, 2) := by decide +kernel
theorem dX10_exact_301 : decode cX10_exact 301 = .ok (.lmul, 1) := by decide +kernel
theorem dX10_exact_302 : decode cX10_exact 302 = .ok (.lstore 26, 2) := by decide +kernel
theorem dX10_exact_304 : decode cX10_exact 304 = .ok (.lload 26, 2) := by decide +kernel
theorem dX10_exact_306 : decode cX10_exact 306 = .ok (.lconst 0, 1) := by decide +kernel
theorem dX10_exact_307 : decode cX10_exact 307 = .ok (.lcmp, 1) := by decide +kernel
theorem dX10_exact_308 : decode cX10_exact 308 = .ok (.ifCond .le 62, 3) := by decide +kernel
theorem dX10_exact_311 : decode cX10_exact 311 = .ok (.lload 26, 2) := by decide +kernel
theorem dX10_exact_313 : decode cX10_exact 313 = .ok (.lload 22, 2) := by decide +kernel
theorem dX10_exact_315 : decode cX10_exact 315 = .ok (.lload 16, 2) := by decide +kernel
theorem dX10_exact_317 : decode cX10_exact 317 = .ok (.lmul, 1) := by decide +kernel
theorem dX10_exact_318 : decode cX10_exact 318 = .ok (.lload 24, 2) := by decide +kernel
theorem dX10_exact_320 : decode cX10_exact 320 = .ok (.lmul, 1) := by decide +kernel
theorem dX10_exact_321 : decode cX10_exact 321 = .ok (.lcmp, 1) := by decide +kernel
theorem dX10_exact_322 : decode cX10_exact 322 = .ok (.ifCond .gt 48, 3) := by decide +kernel
theorem dX10_exact_325 : decode cX10_exact 325 = .ok (.aload_n 0, 1) := by decide +kernel
theorem dX10_exact_326 : decode cX10_exact 326 = .ok (.lload 4, 2) := by decide +kernel
theorem dX10_exact_328 : decode cX10_exact 328 = .ok (.lload 16, 2) := by decide +kernel
theorem dX10_exact_330 : decode cX10_exact 330 = .ok (.lmul, 1) := by decide +kernel
theorem dX10_exact_331 : decode cX10_exact 331 = .ok (.lload 24, 2) := by decide +kernel
theorem dX10_exact_333 : decode cX10_exact 333 = .ok (.lmul, 1) := by decide +kernel
theorem dX10_exact_334 : decode cX10_exact 334 = .ok (.lload 26, 2) := by decide +kernel
theorem dX10_exact_336 : decode cX10_exact 336 = .ok (.ladd, 1) := by decide +kernel
theorem dX10_exact_337 : decode cX10_exact 337 = .ok (.lload 6, 2) := by decide +kernel
theorem dX10_exact_339 : decode cX10_exact 339 = .ok (.lload 16, 2) := by decide +kernel
theorem dX10_exact_341 : decode cX10_exact 341 = .ok (.lmul, 1) := by decide +kernel
theorem dX10_exact_342 : decode cX10_exact 342 = .ok (.lload 24, 2) := by decide +kernel
theorem dX10_exact_344 : decode cX10_exact 344 = .ok (.lmul, 1) := by decide +kernel
theorem dX10_exact_345 : decode cX10_exact 345 = .ok (.lload 14, 2) := by decide +kernel
theorem dX10_exact_347 : decode cX10_exact 347 = .ok (.lmul, 1) := by decide +kernel
theorem dX10_exact_348 : decode cX10_exact 348 = .ok (.lload 26, 2) := by decide +kernel
theorem dX10_exact_350 : decode cX10_exact 350 = .ok (.lload 12, 2) := by decide +kernel
theorem dX10_exact_352 : decode cX10_exact 352 = .ok (.lmul, 1) := by decide +kernel
theorem dX10_exact_353 : decode cX10_exact 353 = .ok (.ladd, 1) := by decide +kernel
theorem dX10_exact_354 : decode cX10_exact 354 = .ok (.ldc2_w 138, 3) := by decide +kernel
theorem dX10_exact_357 : decode cX10_exact 357 = .ok (.lload 16, 2) := by decide +kernel
theorem dX10_exact_359 : decode cX10_exact 359 = .ok (.lmul, 1) := by decide +kernel
theorem dX10_exact_360 : decode cX10_exact 360 = .ok (.lload 24, 2) := by decide +kernel
theorem dX10_exact_362 : decode cX10_exact 362 = .ok (.lmul, 1) := by decide +kernel
theorem dX10_exact_363 : decode cX10_exact 363 = .ok (.lload 14, 2) := by decide +kernel
theorem dX10_exact_365 : decode cX10_exact 365 = .ok (.iload_n 3, 1) := by decide +kernel
theorem dX10_exact_366 : decode cX10_exact 366 = .ok (.invokevirtual 144, 3) := by decide +kernel
theorem dX10_exact_369 : decode cX10_exact 369 = .ok (.lreturn, 1) := by decide +kernel
theorem dX10_exact_370 : decode cX10_exact 370 = .ok (.lload 4, 2) := by decide +kernel
theorem dX10_exact_372 : decode cX10_exact 372 = .ok (.lload 22, 2) := by decide +kernel
theorem dX10_exact_374 : decode cX10_exact 374 = .ok (.ladd, 1) := by decide +kernel
theorem dX10_exact_375 : decode cX10_exact 375 = .ok (.lstore 4, 2) := by decide +kernel
theorem dX10_exact_377 : decode cX10_exact 377 = .ok (.lload 6, 2) := by decide +kernel
theorem dX10_exact_379 : decode cX10_exact 379 = .ok (.lload 22, 2) := by decide +kernel
theorem dX10_exact_381 : decode cX10_exact 381 = .ok (.lload 12, 2) := by decide +kernel
theorem dX10_exact_383 : decode cX10_exact 383 = .ok (.lmul, 1) := by decide +kernel
theorem dX10_exact_384 : decode cX10_exact 384 = .ok (.lload 14, 2) := by decide +kernel
theorem dX10_exact_386 : decode cX10_exact 386 = .ok (.ldiv, 1) := by decide +kernel
theorem dX10_exact_387 : decode cX10_exact 387 = .ok (.ladd, 1) := by decide +kernel
theorem dX10_exact_388 : decode cX10_exact 388 = .ok (.lstore 6, 2) := by decide +kernel
theorem dX10_exact_390 : decode cX10_exact 390 = .ok (.aload_n 0, 1) := by decide +kernel
theorem dX10_exact_391 : decode cX10_exact 391 = .ok (.iload_n 2, 1) := by decide +kernel
theorem dX10_exact_392 : decode cX10_exact 392 = .ok (.iconst 1, 1) := by decide +kernel
theorem dX10_exact_393 : decode cX10_exact 393 = .ok (.lload 6, 2) := by decide +kernel
theorem dX10_exact_395 : decode cX10_exact 395 = .ok (.ldc2_w 138, 3) := by decide +kernel
theorem dX10_exact_398 : decode cX10_exact 398 = .ok (.invokevirtual 106, 3) := by decide +kernel
theorem dX10_exact_401 : decode cX10_exact 401 = .ok (.aload_n 0, 1) := by decide +kernel
theorem dX10_exact_402 : decode cX10_exact 402 = .ok (.iload_n 2, 1) := by decide +kernel
theorem dX10_exact_403 : decode cX10_exact 403 = .ok (.iconst 1, 1) := by decide +kernel
theorem dX10_exact_404 : decode cX10_exact 404 = .ok (.lload 4, 2) := by decide +kernel
theorem dX10_exact_406 : decode cX10_exact 406 = .ok (.ldc2_w 138, 3) := by decide +kernel
theorem dX10_exact_409 : decode cX10_exact 409 = .ok (.invokevirtual 106, 3) := by decide +kernel
theorem dX10_exact_412 : decode cX10_exact 412 = .ok (.lsub, 1) := by decide +kernel
theorem dX10_exact_413 : decode cX10_exact 413 = .ok (.aload_n 0, 1) := by decide +kernel
theorem dX10_exact_414 : decode cX10_exact 414 = .ok (.iload_n 2, 1) := by decide +kernel
theorem dX10_exact_415 : decode cX10_exact 415 = .ok (.iconst 1, 1) := by decide +kernel
theorem dX10_exact_416 : decode cX10_exact 416 = .ok (.invokevirtual 128, 3) := by decide +kernel
theorem dX10_exact_419 : decode cX10_exact 419 = .ok (.ldc2_w 140, 3) := by decide +kernel
theorem dX10_exact_422 : decode cX10_exact 422 = .ok (.lmul, 1) := by decide +kernel
theorem dX10_exact_423 : decode cX10_exact 423 = .ok (.lsub, 1) := by decide +kernel
theorem dX10_exact_424 : decode cX10_exact 424 = .ok (.lstore 8, 2) := by decide +kernel
theorem dX10_exact_426 : decode cX10_exact 426 = .ok (.goto (-270), 3) := by decide +kernel
theorem dX10_exact_429 : decode cX10_exact 429 = .ok (.aload_n 0, 1) := by decide +kernel
theorem dX10_exact_430 : decode cX10_exact 430 = .ok (.lload 4, 2) := by decide +kernel
theorem dX10_exact_432 : decode cX10_exact 432 = .ok (.lload 6, 2) := by decide +kernel
theorem dX10_exact_434 : decode cX10_exact 434 = .ok (.ldc2_w 138, 3) := by decide +kernel
theorem dX10_exact_437 : decode cX10_exact 437 = .ok (.lconst 1, 1) := by decide +kernel
theorem dX10_exact_438 : decode cX10_exact 438 = .ok (.iload_n 3, 1) := by decide +kernel
theorem dX10_exact_439 : decode cX10_exact 439 = .ok (.invokevirtual 144, 3) := by decide +kernel
theorem dX10_exact_442 : decode cX10_exact 442 = .ok (.lreturn, 1) := by decide +kernel
theorem dX10_pairOf_0 : decode cX10_pairOf 0 = .ok (.iload 9, 2) := by decide +kernel
theorem dX10_pairOf_2 : decode cX10_pairOf 2 = .ok (.iconst 2, 1) := by decide +kernel
theorem dX10_pairOf_3 : decode cX10_pairOf 3 = .ok (.if_icmp .ge 13, 3) := by decide +kernel
theorem dX10_pairOf_6 : decode cX10_pairOf 6 = .ok (.aload_n 0, 1) := by decide +kernel
theorem dX10_pairOf_7 : decode cX10_pairOf 7 = .ok (.lload_n 1, 1) := by decide +kernel
theorem dX10_pairOf_8 : decode cX10_pairOf 8 = .ok (.lload 5, 2) := by decide +kernel
theorem dX10_pairOf_10 : decode cX10_pairOf 10 = .ok (.invokevirtual 110, 3) := by decide +kernel
theorem dX10_pairOf_13 : decode cX10_pairOf 13 = .ok (.goto 13, 3) := by decide +kernel
theorem dX10_pairOf_16 : decode cX10_pairOf 16 = .ok (.aload_n 0, 1) := by decide +kernel
theorem dX10_pairOf_17 : decode cX10_pairOf 17 = .ok (.lload_n 3, 1) := by decide +kernel
theorem dX10_pairOf_18 : decode cX10_pairOf 18 = .ok (.lload 5, 2) := by decide +kernel
theorem dX10_pairOf_20 : decode cX10_pairOf 20 = .ok (.lload 7, 2) := by decide +kernel
theorem dX10_pairOf_22 : decode cX10_pairOf 22 = .ok (.lmul, 1) := by decide +kernel
theorem dX10_pairOf_23 : decode cX10_pairOf 23 = .ok (.invokevirtual 110, 3) := by decide +kernel
theorem dX10_pairOf_26 : decode cX10_pairOf 26 = .ok (.aload_n 0, 1) := by decide +kernel
theorem dX10_pairOf_27 : decode cX10_pairOf 27 = .ok (.iload 9, 2) := by decide +kernel
theorem dX10_pairOf_29 : decode cX10_pairOf 29 = .ok (.iconst 2, 1) := by decide +kernel
theorem dX10_pairOf_30 : decode cX10_pairOf 30 = .ok (.irem, 1) := by decide +kernel
theorem dX10_pairOf_31 : decode cX10_pairOf 31 = .ok (.invokevirtual 122, 3) := by decide +kernel
theorem dX10_pairOf_34 : decode cX10_pairOf 34 = .ok (.lreturn, 1) := by decide +kernel
theorem dX10_feed_0 : decode cX10_feed 0 = .ok (.iload_n 1, 1) := by decide +kernel
theorem dX10_feed_1 : decode cX10_feed 1 = .ok (.i2l, 1) := by decide +kernel
theorem dX10_feed_2 : decode cX10_feed 2 = .ok (.lconst 1, 1) := by decide +kernel
theorem dX10_feed_3 : decode cX10_feed 3 = .ok (.ldc2_w 148, 3) := by decide +kernel
theorem dX10_feed_6 : decode cX10_feed 6 = .ok (.invokestatic 65, 3) := by decide +kernel
theorem dX10_feed_9 : decode cX10_feed 9 = .ok (.ifCond .ne 5, 3) := by decide +kernel
theorem dX10_feed_12 : decode cX10_feed 12 = .ok (.iconst (-1), 1) := by decide +kernel
theorem dX10_feed_13 : decode cX10_feed 13 = .ok (.ireturn, 1) := by decide +kernel
theorem dX10_feed_14 : decode cX10_feed 14 = .ok (.aload_n 0, 1) := by decide +kernel
theorem dX10_feed_15 : decode cX10_feed 15 = .ok (.getfield 150, 3) := by decide +kernel
theorem dX10_feed_18 : decode cX10_feed 18 = .ok (.sipush 160, 3) := by decide +kernel
theorem dX10_feed_21 : decode cX10_feed 21 = .ok (.if_icmp .ne 6, 3) := by decide +kernel
theorem dX10_feed_24 : decode cX10_feed 24 = .ok (.bipush (-3), 2) := by decide +kernel
theorem dX10_feed_26 : decode cX10_feed 26 = .ok (.ireturn, 1) := by decide +kernel
theorem dX10_feed_27 : decode cX10_feed 27 = .ok (.aload_n 0, 1) := by decide +kernel
theorem dX10_feed_28 : decode cX10_feed 28 = .ok (.getfield 21, 3) := by decide +kernel
theorem dX10_feed_31 : decode cX10_feed 31 = .ok (.aload_n 0, 1) := by decide +kernel
theorem dX10_feed_32 : decode cX10_feed 32 = .ok (.getfield 150, 3) := by decide +kernel
theorem dX10_feed_35 : decode cX10_feed 35 = .ok (.iload_n 1, 1) := by decide +kernel
theorem dX10_feed_36 : decode cX10_feed 36 = .ok (.iastore, 1) := by decide +kernel
theorem dX10_feed_37 : decode cX10_feed 37 = .ok (.aload_n 0, 1) := by decide +kernel
theorem dX10_feed_38 : decode cX10_feed 38 = .ok (.dup, 1) := by decide +kernel
theorem dX10_feed_39 : decode cX10_feed 39 = .ok (.getfield 150, 3) := by decide +kernel
theorem dX10_feed_42 : decode cX10_feed 42 = .ok (.iconst 1, 1) := by decide +kernel
theorem dX10_feed_43 : decode cX10_feed 43 = .ok (.iadd, 1) := by decide +kernel
theorem dX10_feed_44 : decode cX10_feed 44 = .ok (.putfield 150, 3) := by decide +kernel
theorem dX10_feed_47 : decode cX10_feed 47 = .ok (.aload_n 0, 1) := by decide +kernel
theorem dX10_feed_48 : decode cX10_feed 48 = .ok (.getfield 150, 3) := by decide +kernel
theorem dX10_feed_51 : decode cX10_feed 51 = .ok (.ireturn, 1) := by decide +kernel
theorem dX10_here_0 : decode cX10_here 0 = .ok (.aload_n 0, 1) := by decide +kernel
theorem dX10_here_1 : decode cX10_here 1 = .ok (.getfield 154, 3) := by decide +kernel
theorem dX10_here_4 : decode cX10_here 4 = .ok (.aload_n 0, 1) := by decide +kernel
theorem dX10_here_5 : decode cX10_here 5 = .ok (.getfield 150, 3) := by decide +kernel
theorem dX10_here_8 : decode cX10_here 8 = .ok (.if_icmp .ge 15, 3) := by decide +kernel
theorem dX10_here_11 : decode cX10_here 11 = .ok (.aload_n 0, 1) := by decide +kernel
theorem dX10_here_12 : decode cX10_here 12 = .ok (.getfield 21, 3) := by decide +kernel
theorem dX10_here_15 : decode cX10_here 15 = .ok (.aload_n 0, 1) := by decide +kernel
theorem dX10_here_16 : decode cX10_here 16 = .ok (.getfield 154, 3) := by decide +kernel
theorem dX10_here_19 : decode cX10_here 19 = .ok (.iaload, 1) := by decide +kernel
theorem dX10_here_20 : decode cX10_here 20 = .ok (.goto 4, 3) := by decide +kernel
theorem dX10_here_23 : decode cX10_here 23 = .ok (.iconst (-1), 1) := by decide +kernel
theorem dX10_here_24 : decode cX10_here 24 = .ok (.ireturn, 1) := by decide +kernel
theorem dX10_goesOn_0 : decode cX10_goesOn 0 = .ok (.aload_n 0, 1) := by decide +kernel
theorem dX10_goesOn_1 : decode cX10_goesOn 1 = .ok (.getfield 157, 3) := by decide +kernel
theorem dX10_goesOn_4 : decode cX10_goesOn 4 = .ok (.ifCond .ne 15, 3) := by decide +kernel
theorem dX10_goesOn_7 : decode cX10_goesOn 7 = .ok (.aload_n 0, 1) := by decide +kernel
theorem dX10_goesOn_8 : decode cX10_goesOn 8 = .ok (.invokevirtual 161, 3) := by decide +kernel
theorem dX10_goesOn_11 : decode cX10_goesOn 11 = .ok (.iload_n 1, 1) := by decide +kernel
theorem dX10_goesOn_12 : decode cX10_goesOn 12 = .ok (.if_icmp .ne 7, 3) := by decide +kernel
theorem dX10_goesOn_15 : decode cX10_goesOn 15 = .ok (.iconst 1, 1) := by decide +kernel
theorem dX10_goesOn_16 : decode cX10_goesOn 16 = .ok (.goto 4, 3) := by decide +kernel
theorem dX10_goesOn_19 : decode cX10_goesOn 19 = .ok (.iconst 0, 1) := by decide +kernel
theorem dX10_goesOn_20 : decode cX10_goesOn 20 = .ok (.istore_n 2, 1) := by decide +kernel
theorem dX10_goesOn_21 : decode cX10_goesOn 21 = .ok (.aload_n 0, 1) := by decide +kernel
theorem dX10_goesOn_22 : decode cX10_goesOn 22 = .ok (.dup, 1) := by decide +kernel
theorem dX10_goesOn_23 : decode cX10_goesOn 23 = .ok (.getfield 154, 3) := by decide +kernel
theorem dX10_goesOn_26 : decode cX10_goesOn 26 = .ok (.iload_n 2, 1) := by decide +kernel
theorem dX10_goesOn_27 : decode cX10_goesOn 27 = .ok (.ifCond .eq 7, 3) := by decide +kernel
theorem dX10_goesOn_30 : decode cX10_goesOn 30 = .ok (.iconst 1, 1) := by decide +kernel
theorem dX10_goesOn_31 : decode cX10_goesOn 31 = .ok (.goto 4, 3) := by decide +kernel
theorem dX10_goesOn_34 : decode cX10_goesOn 34 = .ok (.iconst 0, 1) := by decide +kernel
theorem dX10_goesOn_35 : decode cX10_goesOn 35 = .ok (.iadd, 1) := by decide +kernel
theorem dX10_goesOn_36 : decode cX10_goesOn 36 = .ok (.putfield 154, 3) := by decide +kernel
theorem dX10_goesOn_39 : decode cX10_goesOn 39 = .ok (.iload_n 2, 1) := by decide +kernel
theorem dX10_goesOn_40 : decode cX10_goesOn 40 = .ok (.ireturn, 1) := by decide +kernel
theorem dX10_wants_0 : decode cX10_wants 0 = .ok (.aload_n 0, 1) := by decide +kernel
theorem dX10_wants_1 : decode cX10_wants 1 = .ok (.aload_n 0, 1) := by decide +kernel
theorem dX10_wants_2 : decode cX10_wants 2 = .ok (.getfield 157, 3) := by decide +kernel
theorem dX10_wants_5 : decode cX10_wants 5 = .ok (.ifCond .ne 11, 3) := by decide +kernel
theorem dX10_wants_8 : decode cX10_wants 8 = .ok (.aload_n 0, 1) := by decide +kernel
theorem dX10_wants_9 : decode cX10_wants 9 = .ok (.invokevirtual 161, 3) := by decide +kernel
theorem dX10_wants_12 : decode cX10_wants 12 = .ok (.iload_n 1, 1) := by decide +kernel
theorem dX10_wants_13 : decode cX10_wants 13 = .ok (.if_icmp .eq 7, 3) := by decide +kernel
theorem dX10_wants_16 : decode cX10_wants 16 = .ok (.iconst 1, 1) := by decide +kernel
theorem dX10_wants_17 : decode cX10_wants 17 = .ok (.goto 4, 3) := by decide +kernel
theorem dX10_wants_20 : decode cX10_wants 20 = .ok (.iconst 0, 1) := by decide +kernel
theorem dX10_wants_21 : decode cX10_wants 21 = .ok (.putfield 157, 3) := by decide +kernel
theorem dX10_wants_24 : decode cX10_wants 24 = .ok (.aload_n 0, 1) := by decide +kernel
theorem dX10_wants_25 : decode cX10_wants 25 = .ok (.dup, 1) := by decide +kernel
theorem dX10_wants_26 : decode cX10_wants 26 = .ok (.getfield 154, 3) := by decide +kernel
theorem dX10_wants_29 : decode cX10_wants 29 = .ok (.aload_n 0, 1) := by decide +kernel
theorem dX10_wants_30 : decode cX10_wants 30 = .ok (.getfield 157, 3) := by decide +kernel
theorem dX10_wants_33 : decode cX10_wants 33 = .ok (.ifCond .eq 7, 3) := by decide +kernel
theorem dX10_wants_36 : decode cX10_wants 36 = .ok (.iconst 0, 1) := by decide +kernel
theorem dX10_wants_37 : decode cX10_wants 37 = .ok (.goto 4, 3) := by decide +kernel
theorem dX10_wants_40 : decode cX10_wants 40 = .ok (.iconst 1, 1) := by decide +kernel
theorem dX10_wants_41 : decode cX10_wants 41 = .ok (.iadd, 1) := by decide +kernel
theorem dX10_wants_42 : decode cX10_wants 42 = .ok (.putfield 154, 3) := by decide +kernel
theorem dX10_wants_45 : decode cX10_wants 45 = .ok (.return_, 1) := by decide +kernel
theorem dX10_isFigure_0 : decode cX10_isFigure 0 = .ok (.aload_n 0, 1) := by decide +kernel
theorem dX10_isFigure_1 : decode cX10_isFigure 1 = .ok (.getfield 157, 3) := by decide +kernel
theorem dX10_isFigure_4 : decode cX10_isFigure 4 = .ok (.ifCond .ne 24, 3) := by decide +kernel
theorem dX10_isFigure_7 : decode cX10_isFigure 7 = .ok (.aload_n 0, 1) := by decide +kernel
theorem dX10_isFigure_8 : decode cX10_isFigure 8 = .ok (.invokevirtual 161, 3) := by decide +kernel
theorem dX10_isFigure_11 : decode cX10_isFigure 11 = .ok (.i2l, 1) := by decide +kernel
theorem dX10_isFigure_12 : decode cX10_isFigure 12 = .ok (.ldc2_w 164, 3) := by decide +kernel
theorem dX10_isFigure_15 : decode cX10_isFigure 15 = .ok (.ldc2_w 166, 3) := by decide +kernel
theorem dX10_isFigure_18 : decode cX10_isFigure 18 = .ok (.invokestatic 65, 3) := by decide +kernel
theorem dX10_isFigure_21 : decode cX10_isFigure 21 = .ok (.ifCond .eq 7, 3) := by decide +kernel
theorem dX10_isFigure_24 : decode cX10_isFigure 24 = .ok (.iconst 1, 1) := by decide +kernel
theorem dX10_isFigure_25 : decode cX10_isFigure 25 = .ok (.goto 4, 3) := by decide +kernel
theorem dX10_isFigure_28 : decode cX10_isFigure 28 = .ok (.iconst 0, 1) := by decide +kernel
theorem dX10_isFigure_29 : decode cX10_isFigure 29 = .ok (.ireturn, 1) := by decide +kernel
theorem dX10_number_0 : decode cX10_number 0 = .ok (.iconst 0, 1) := by decide +kernel
theorem dX10_number_1 : decode cX10_number 1 = .ok (.istore_n 2, 1) := by decide +kernel
theorem dX10_number_2 : decode cX10_number 2 = .ok (.aload_n 0, 1) := by decide +kernel
theorem dX10_number_3 : decode cX10_number 3 = .ok (.aload_n 0, 1) := by decide +kernel
theorem dX10_number_4 : decode cX10_number 4 = .ok (.getfield 157, 3) := by decide +kernel
theorem dX10_number_7 : decode cX10_number 7 = .ok (.ifCond .ne 10, 3) := by decide +kernel
theorem dX10_number_10 : decode cX10_number 10 = .ok (.aload_n 0, 1) := by decide +kernel
theorem dX10_number_11 : decode cX10_number 11 = .ok (.invokevirtual 168, 3) := by decide +kernel
theorem dX10_number_14 : decode cX10_number 14 = .ok (.ifCond .ne 7, 3) := by decide +kernel
theorem dX10_number_17 : decode cX10_number 17 = .ok (.iconst 1, 1) := by decide +kernel
theorem dX10_number_18 : decode cX10_number 18 = .ok (.goto 4, 3) := by decide +kernel
theorem dX10_number_21 : decode cX10_number 21 = .ok (.iconst 0, 1) := by decide +kernel
theorem dX10_number_22 : decode cX10_number 22 = .ok (.putfield 157, 3) := by decide +kernel
theorem dX10_number_25 : decode cX10_number 25 = .ok (.iconst 0, 1) := by decide +kernel
theorem dX10_number_26 : decode cX10_number 26 = .ok (.istore_n 3, 1) := by decide +kernel
theorem dX10_number_27 : decode cX10_number 27 = .ok (.iload_n 3, 1) := by decide +kernel
theorem dX10_number_28 : decode cX10_number 28 = .ok (.iload_n 1, 1) := by decide +kernel
theorem dX10_number_29 : decode cX10_number 29 = .ok (.if_icmp .ge 39, 3) := by decide +kernel
theorem dX10_number_32 : decode cX10_number 32 = .ok (.aload_n 0, 1) := by decide +kernel
theorem dX10_number_33 : decode cX10_number 33 = .ok (.invokevirtual 168, 3) := by decide +kernel
theorem dX10_number_36 : decode cX10_number 36 = .ok (.ifCond .eq 32, 3) := by decide +kernel
theorem dX10_number_39 : decode cX10_number 39 = .ok (.bipush 10, 2) := by decide +kernel
theorem dX10_number_41 : decode cX10_number 41 = .ok (.iload_n 2, 1) := by decide +kernel
theorem dX10_number_42 : decode cX10_number 42 = .ok (.imul, 1) := by decide +kernel
theorem dX10_number_43 : decode cX10_number 43 = .ok (.aload_n 0, 1) := by decide +kernel
theorem dX10_number_44 : decode cX10_number 44 = .ok (.invokevirtual 161, 3) := by decide +kernel
theorem dX10_number_47 : decode cX10_number 47 = .ok (.iadd, 1) := by decide +kernel
theorem dX10_number_48 : decode cX10_number 48 = .ok (.bipush 48, 2) := by decide +kernel
theorem dX10_number_50 : decode cX10_number 50 = .ok (.isub, 1) := by decide +kernel
theorem dX10_number_51 : decode cX10_number 51 = .ok (.istore_n 2, 1) := by decide +kernel
theorem dX10_number_52 : decode cX10_number 52 = .ok (.aload_n 0, 1) := by decide +kernel
theorem dX10_number_53 : decode cX10_number 53 = .ok (.dup, 1) := by decide +kernel
theorem dX10_number_54 : decode cX10_number 54 = .ok (.getfield 154, 3) := by decide +kernel
theorem dX10_number_57 : decode cX10_number 57 = .ok (.iconst 1, 1) := by decide +kernel
theorem dX10_number_58 : decode cX10_number 58 = .ok (.iadd, 1) := by decide +kernel
theorem dX10_number_59 : decode cX10_number 59 = .ok (.putfield 154, 3) := by decide +kernel
theorem dX10_number_62 : decode cX10_number 62 = .ok (.iinc 3 1, 3) := by decide +kernel
theorem dX10_number_65 : decode cX10_number 65 = .ok (.goto (-38), 3) := by decide +kernel
theorem dX10_number_68 : decode cX10_number 68 = .ok (.iload_n 2, 1) := by decide +kernel
theorem dX10_number_69 : decode cX10_number 69 = .ok (.ireturn, 1) := by decide +kernel
theorem dX10_badAt_0 : decode cX10_badAt 0 = .ok (.aload_n 0, 1) := by decide +kernel
theorem dX10_badAt_1 : decode cX10_badAt 1 = .ok (.getfield 157, 3) := by decide +kernel
theorem dX10_badAt_4 : decode cX10_badAt 4 = .ok (.ifCond .ne 13, 3) := by decide +kernel
theorem dX10_badAt_7 : decode cX10_badAt 7 = .ok (.aload_n 0, 1) := by decide +kernel
theorem dX10_badAt_8 : decode cX10_badAt 8 = .ok (.iconst 1, 1) := by decide +kernel
theorem dX10_badAt_9 : decode cX10_badAt 9 = .ok (.putfield 157, 3) := by decide +kernel
theorem dX10_badAt_12 : decode cX10_badAt 12 = .ok (.aload_n 0, 1) := by decide +kernel
theorem dX10_badAt_13 : decode cX10_badAt 13 = .ok (.iload_n 1, 1) := by decide +kernel
theorem dX10_badAt_14 : decode cX10_badAt 14 = .ok (.putfield 154, 3) := by decide +kernel
theorem dX10_badAt_17 : decode cX10_badAt 17 = .ok (.return_, 1) := by decide +kernel
theorem dX10_agentHere_0 : decode cX10_agentHere 0 = .ok (.aload_n 0, 1) := by decide +kernel
theorem dX10_agentHere_1 : decode cX10_agentHere 1 = .ok (.getfield 154, 3) := by decide +kernel
theorem dX10_agentHere_4 : decode cX10_agentHere 4 = .ok (.istore_n 1, 1) := by decide +kernel
theorem dX10_agentHere_5 : decode cX10_agentHere 5 = .ok (.aload_n 0, 1) := by decide +kernel
theorem dX10_agentHere_6 : decode cX10_agentHere 6 = .ok (.iconst 1, 1) := by decide +kernel
theorem dX10_agentHere_7 : decode cX10_agentHere 7 = .ok (.invokevirtual 172, 3) := by decide +kernel
theorem dX10_agentHere_10 : decode cX10_agentHere 10 = .ok (.istore_n 2, 1) := by decide +kernel
theorem dX10_agentHere_11 : decode cX10_agentHere 11 = .ok (.aload_n 0, 1) := by decide +kernel
theorem dX10_agentHere_12 : decode cX10_agentHere 12 = .ok (.getfield 157, 3) := by decide +kernel
theorem dX10_agentHere_15 : decode cX10_agentHere 15 = .ok (.ifCond .ne 16, 3) := by decide +kernel
theorem dX10_agentHere_18 : decode cX10_agentHere 18 = .ok (.aload_n 0, 1) := by decide +kernel
theorem dX10_agentHere_19 : decode cX10_agentHere 19 = .ok (.iload_n 2, 1) := by decide +kernel
theorem dX10_agentHere_20 : decode cX10_agentHere 20 = .ok (.invokevirtual 79, 3) := by decide +kernel
theorem dX10_agentHere_23 : decode cX10_agentHere 23 = .ok (.ifCond .ne 8, 3) := by decide +kernel
theorem dX10_agentHere_26 : decode cX10_agentHere 26 = .ok (.aload_n 0, 1) := by decide +kernel
theorem dX10_agentHere_27 : decode cX10_agentHere 27 = .ok (.iload_n 1, 1) := by decide +kernel
theorem dX10_agentHere_28 : decode cX10_agentHere 28 = .ok (.invokevirtual 176, 3) := by decide +kernel
theorem dX10_agentHere_31 : decode cX10_agentHere 31 = .ok (.aload_n 0, 1) := by decide +kernel
theorem dX10_agentHere_32 : decode cX10_agentHere 32 = .ok (.getfield 157, 3) := by decide +kernel
theorem dX10_agentHere_35 : decode cX10_agentHere 35 = .ok (.ifCond .eq 7, 3) := by decide +kernel
theorem dX10_agentHere_38 : decode cX10_agentHere 38 = .ok (.iconst 0, 1) := by decide +kernel
theorem dX10_agentHere_39 : decode cX10_agentHere 39 = .ok (.goto 4, 3) := by decide +kernel
theorem dX10_agentHere_42 : decode cX10_agentHere 42 = .ok (.iload_n 2, 1) := by decide +kernel
theorem dX10_agentHere_43 : decode cX10_agentHere 43 = .ok (.ireturn, 1) := by decide +kernel
theorem dX10_readWorths_0 : decode cX10_readWorths 0 = .ok (.aload_n 0, 1) := by decide +kernel
theorem dX10_readWorths_1 : decode cX10_readWorths 1 = .ok (.invokevirtual 161, 3) := by decide +kernel
theorem dX10_readWorths_4 : decode cX10_readWorths 4 = .ok (.bipush 119, 2) := by decide +kernel
theorem dX10_readWorths_6 : decode cX10_readWorths 6 = .ok (.if_icmp .ne 7, 3) := by decide +kernel
theorem dX10_readWorths_9 : decode cX10_readWorths 9 = .ok (.iconst 1, 1) := by decide +kernel
theorem dX10_readWorths_10 : decode cX10_readWorths 10 = .ok (.goto 4, 3) := by decide +kernel
theorem dX10_readWorths_13 : decode cX10_readWorths 13 = .ok (.iconst 0, 1) := by decide +kernel
theorem dX10_readWorths_14 : decode cX10_readWorths 14 = .ok (.istore_n 1, 1) := by decide +kernel
theorem dX10_readWorths_15 : decode cX10_readWorths 15 = .ok (.aload_n 0, 1) := by decide +kernel
theorem dX10_readWorths_16 : decode cX10_readWorths 16 = .ok (.invokevirtual 161, 3) := by decide +kernel
theorem dX10_readWorths_19 : decode cX10_readWorths 19 = .ok (.bipush 119, 2) := by decide +kernel
theorem dX10_readWorths_21 : decode cX10_readWorths 21 = .ok (.if_icmp .eq 21, 3) := by decide +kernel
theorem dX10_readWorths_24 : decode cX10_readWorths 24 = .ok (.aload_n 0, 1) := by decide +kernel
theorem dX10_readWorths_25 : decode cX10_readWorths 25 = .ok (.invokevirtual 161, 3) := by decide +kernel
theorem dX10_readWorths_28 : decode cX10_readWorths 28 = .ok (.bipush 116, 2) := by decide +kernel
theorem dX10_readWorths_30 : decode cX10_readWorths 30 = .ok (.if_icmp .eq 12, 3) := by decide +kernel
theorem dX10_readWorths_33 : decode cX10_readWorths 33 = .ok (.aload_n 0, 1) := by decide +kernel
theorem dX10_readWorths_34 : decode cX10_readWorths 34 = .ok (.aload_n 0, 1) := by decide +kernel
theorem dX10_readWorths_35 : decode cX10_readWorths 35 = .ok (.getfield 154, 3) := by decide +kernel
theorem dX10_readWorths_38 : decode cX10_readWorths 38 = .ok (.invokevirtual 176, 3) := by decide +kernel
theorem dX10_readWorths_41 : decode cX10_readWorths 41 = .ok (.return_, 1) := by decide +kernel
theorem dX10_readWorths_42 : decode cX10_readWorths 42 = .ok (.aload_n 0, 1) := by decide +kernel
theorem dX10_readWorths_43 : decode cX10_readWorths 43 = .ok (.dup, 1) := by decide +kernel
theorem dX10_readWorths_44 : decode cX10_readWorths 44 = .ok (.getfield 154, 3) := by decide +kernel
theorem dX10_readWorths_47 : decode cX10_readWorths 47 = .ok (.iconst 1, 1) := by decide +kernel
theorem dX10_readWorths_48 : decode cX10_readWorths 48 = .ok (.iadd, 1) := by decide +kernel
theorem dX10_readWorths_49 : decode cX10_readWorths 49 = .ok (.putfield 154, 3) := by decide +kernel
theorem dX10_readWorths_52 : decode cX10_readWorths 52 = .ok (.aload_n 0, 1) := by decide +kernel
theorem dX10_readWorths_53 : decode cX10_readWorths 53 = .ok (.invokevirtual 180, 3) := by decide +kernel
theorem dX10_readWorths_56 : decode cX10_readWorths 56 = .ok (.istore_n 2, 1) := by decide +kernel
theorem dX10_readWorths_57 : decode cX10_readWorths 57 = .ok (.aload_n 0, 1) := by decide +kernel
theorem dX10_readWorths_58 : decode cX10_readWorths 58 = .ok (.bipush 58, 2) := by decide +kernel
theorem dX10_readWorths_60 : decode cX10_readWorths 60 = .ok (.invokevirtual 183, 3) := by decide +kernel
theorem dX10_readWorths_63 : decode cX10_readWorths 63 = .ok (.iconst 0, 1) := by decide +kernel
theorem dX10_readWorths_64 : decode cX10_readWorths 64 = .ok (.istore_n 3, 1) := by decide +kernel
theorem dX10_readWorths_65 : decode cX10_readWorths 65 = .ok (.iconst 1, 1) := by decide +kernel
theorem dX10_readWorths_66 : decode cX10_readWorths 66 = .ok (.istore 4, 2) := by decide +kernel
theorem dX10_readWorths_68 : decode cX10_readWorths 68 = .ok (.iload 4, 2) := by decide +kernel
theorem dX10_readWorths_70 : decode cX10_readWorths 70 = .ok (.ifCond .eq 96, 3) := by decide +kernel
theorem dX10_readWorths_73 : decode cX10_readWorths 73 = .ok (.aload_n 0, 1) := by decide +kernel
theorem dX10_readWorths_74 : decode cX10_readWorths 74 = .ok (.invokevirtual 168, 3) := by decide +kernel
theorem dX10_readWorths_77 : decode cX10_readWorths 77 = .ok (.ifCond .eq 19, 3) := by decide +kernel
theorem dX10_readWorths_80 : decode cX10_readWorths 80 = .ok (.iload_n 3, 1) := by decide +kernel
theorem dX10_readWorths_81 : decode cX10_readWorths 81 = .ok (.aload_n 0, 1) := by decide +kernel
theorem dX10_readWorths_82 : decode cX10_readWorths 82 = .ok (.invokevirtual 92, 3) := by decide +kernel
theorem dX10_readWorths_85 : decode cX10_readWorths 85 = .ok (.if_icmp .lt 11, 3) := by decide +kernel
theorem dX10_readWorths_88 : decode cX10_readWorths 88 = .ok (.aload_n 0, 1) := by decide +kernel
theorem dX10_readWorths_89 : decode cX10_readWorths 89 = .ok (.aload_n 0, 1) := by decide +kernel
theorem dX10_readWorths_90 : decode cX10_readWorths 90 = .ok (.getfield 154, 3) := by decide +kernel
theorem dX10_readWorths_93 : decode cX10_readWorths 93 = .ok (.invokevirtual 176, 3) := by decide +kernel
theorem dX10_readWorths_96 : decode cX10_readWorths 96 = .ok (.aload_n 0, 1) := by decide +kernel
theorem dX10_readWorths_97 : decode cX10_readWorths 97 = .ok (.iconst 1, 1) := by decide +kernel
theorem dX10_readWorths_98 : decode cX10_readWorths 98 = .ok (.invokevirtual 172, 3) := by decide +kernel
theorem dX10_readWorths_101 : decode cX10_readWorths 101 = .ok (.istore 5, 2) := by decide +kernel
theorem dX10_readWorths_103 : decode cX10_readWorths 103 = .ok (.aload_n 0, 1) := by decide +kernel
theorem dX10_readWorths_104 : decode cX10_readWorths 104 = .ok (.getfield 157, 3) := by decide +kernel
theorem dX10_readWorths_107 : decode cX10_readWorths 107 = .ok (.ifCond .ne 45, 3) := by decide +kernel
theorem dX10_readWorths_110 : decode cX10_readWorths 110 = .ok (.aload_n 0, 1) := by decide +kernel
theorem dX10_readWorths_111 : decode cX10_readWorths 111 = .ok (.getfield 9, 3) := by decide +kernel
theorem dX10_readWorths_114 : decode cX10_readWorths 114 = .ok (.bipush 85, 2) := by decide +kernel
theorem dX10_readWorths_116 : decode cX10_readWorths 116 = .ok (.bipush 16, 2) := by decide +kernel
theorem dX10_readWorths_118 : decode cX10_readWorths 118 = .ok (.iload_n 2, 1) := by decide +kernel
theorem dX10_readWorths_119 : decode cX10_readWorths 119 = .ok (.imul, 1) := by decide +kernel
theorem dX10_readWorths_120 : decode cX10_readWorths 120 = .ok (.iadd, 1) := by decide +kernel
theorem dX10_readWorths_121 : decode cX10_readWorths 121 = .ok (.iload_n 3, 1) := by decide +kernel
theorem dX10_readWorths_122 : decode cX10_readWorths 122 = .ok (.iadd, 1) := by decide +kernel
theorem dX10_readWorths_123 : decode cX10_readWorths 123 = .ok (.iload 5, 2) := by decide +kernel
theorem dX10_readWorths_125 : decode cX10_readWorths 125 = .ok (.i2l, 1) := by decide +kernel
theorem dX10_readWorths_126 : decode cX10_readWorths 126 = .ok (.lastore, 1) := by decide +kernel
theorem dX10_readWorths_127 : decode cX10_readWorths 127 = .ok (.aload_n 0, 1) := by decide +kernel
theorem dX10_readWorths_128 : decode cX10_readWorths 128 = .ok (.getfield 9, 3) := by decide +kernel
theorem dX10_readWorths_131 : decode cX10_readWorths 131 = .ok (.iload_n 1, 1) := by decide +kernel
theorem dX10_readWorths_132 : decode cX10_readWorths 132 = .ok (.ifCond .eq 7, 3) := by decide +kernel
theorem dX10_readWorths_135 : decode cX10_readWorths 135 = .ok (.iconst 5, 1) := by decide +kernel
theorem dX10_readWorths_136 : decode cX10_readWorths 136 = .ok (.goto 5, 3) := by decide +kernel
theorem dX10_readWorths_139 : decode cX10_readWorths 139 = .ok (.bipush 85, 2) := by decide +kernel
theorem dX10_readWorths_141 : decode cX10_readWorths 141 = .ok (.bipush 16, 2) := by decide +kernel
theorem dX10_readWorths_143 : decode cX10_readWorths 143 = .ok (.iload_n 2, 1) := by decide +kernel
theorem dX10_readWorths_144 : decode cX10_readWorths 144 = .ok (.imul, 1) := by decide +kernel
theorem dX10_readWorths_145 : decode cX10_readWorths 145 = .ok (.iadd, 1) := by decide +kernel
theorem dX10_readWorths_146 : decode cX10_readWorths 146 = .ok (.iload_n 3, 1) := by decide +kernel
theorem dX10_readWorths_147 : decode cX10_readWorths 147 = .ok (.iadd, 1) := by decide +kernel
theorem dX10_readWorths_148 : decode cX10_readWorths 148 = .ok (.iload 5, 2) := by decide +kernel
theorem dX10_readWorths_150 : decode cX10_readWorths 150 = .ok (.i2l, 1) := by decide +kernel
theorem dX10_readWorths_151 : decode cX10_readWorths 151 = .ok (.lastore, 1) := by decide +kernel
theorem dX10_readWorths_152 : decode cX10_readWorths 152 = .ok (.iinc 3 1, 3) := by decide +kernel
theorem dX10_readWorths_155 : decode cX10_readWorths 155 = .ok (.aload_n 0, 1) := by decide +kernel
theorem dX10_readWorths_156 : decode cX10_readWorths 156 = .ok (.bipush 44, 2) := by decide +kernel
theorem dX10_readWorths_158 : decode cX10_readWorths 158 = .ok (.invokevirtual 186, 3) := by decide +kernel
theorem dX10_readWorths_161 : decode cX10_readWorths 161 = .ok (.istore 4, 2) := by decide +kernel
theorem dX10_readWorths_163 : decode cX10_readWorths 163 = .ok (.goto (-95), 3) := by decide +kernel
theorem dX10_readWorths_166 : decode cX10_readWorths 166 = .ok (.return_, 1) := by decide +kernel
theorem dX10_endsText_0 : decode cX10_endsText 0 = .ok (.aload_n 0, 1) := by decide +kernel
theorem dX10_endsText_1 : decode cX10_endsText 1 = .ok (.aload_n 0, 1) := by decide +kernel
theorem dX10_endsText_2 : decode cX10_endsText 2 = .ok (.getfield 157, 3) := by decide +kernel
theorem dX10_endsText_5 : decode cX10_endsText 5 = .ok (.ifCond .ne 14, 3) := by decide +kernel
theorem dX10_endsText_8 : decode cX10_endsText 8 = .ok (.aload_n 0, 1) := by decide +kernel
theorem dX10_endsText_9 : decode cX10_endsText 9 = .ok (.getfield 154, 3) := by decide +kernel
theorem dX10_endsText_12 : decode cX10_endsText 12 = .ok (.aload_n 0, 1) := by decide +kernel
theorem dX10_endsText_13 : decode cX10_endsText 13 = .ok (.getfield 150, 3) := by decide +kernel
theorem dX10_endsText_16 : decode cX10_endsText 16 = .ok (.if_icmp .ge 7, 3) := by decide +kernel
theorem dX10_endsText_19 : decode cX10_endsText 19 = .ok (.iconst 1, 1) := by decide +kernel
theorem dX10_endsText_20 : decode cX10_endsText 20 = .ok (.goto 4, 3) := by decide +kernel
theorem dX10_endsText_23 : decode cX10_endsText 23 = .ok (.iconst 0, 1) := by decide +kernel
theorem dX10_endsText_24 : decode cX10_endsText 24 = .ok (.putfield 157, 3) := by decide +kernel
theorem dX10_endsText_27 : decode cX10_endsText 27 = .ok (.aload_n 0, 1) := by decide +kernel
theorem dX10_endsText_28 : decode cX10_endsText 28 = .ok (.iconst 0, 1) := by decide +kernel
theorem dX10_endsText_29 : decode cX10_endsText 29 = .ok (.putfield 150, 3) := by decide +kernel
theorem dX10_endsText_32 : decode cX10_endsText 32 = .ok (.aload_n 0, 1) := by decide +kernel
theorem dX10_endsText_33 : decode cX10_endsText 33 = .ok (.getfield 157, 3) := by decide +kernel
theorem dX10_endsText_36 : decode cX10_endsText 36 = .ok (.ifCond .eq 22, 3) := by decide +kernel
theorem dX10_endsText_39 : decode cX10_endsText 39 = .ok (.aload_n 0, 1) := by decide +kernel
theorem dX10_endsText_40 : decode cX10_endsText 40 = .ok (.getfield 15, 3) := by decide +kernel
theorem dX10_endsText_43 : decode cX10_endsText 43 = .ok (.aload_n 0, 1) := by decide +kernel
theorem dX10_endsText_44 : decode cX10_endsText 44 = .ok (.getfield 9, 3) := by decide +kernel
theorem dX10_endsText_47 : decode cX10_endsText 47 = .ok (.invokestatic 189, 3) := by decide +kernel
theorem dX10_endsText_50 : decode cX10_endsText 50 = .ok (.bipush (-100), 2) := by decide +kernel
theorem dX10_endsText_52 : decode cX10_endsText 52 = .ok (.aload_n 0, 1) := by decide +kernel
theorem dX10_endsText_53 : decode cX10_endsText 53 = .ok (.getfield 154, 3) := by decide +kernel
theorem dX10_endsText_56 : decode cX10_endsText 56 = .ok (.isub, 1) := by decide +kernel
theorem dX10_endsText_57 : decode cX10_endsText 57 = .ok (.ireturn, 1) := by decide +kernel
theorem dX10_endsText_58 : decode cX10_endsText 58 = .ok (.iload_n 1, 1) := by decide +kernel
theorem dX10_endsText_59 : decode cX10_endsText 59 = .ok (.ireturn, 1) := by decide +kernel
theorem dX10_worths_0 : decode cX10_worths 0 = .ok (.aload_n 0, 1) := by decide +kernel
theorem dX10_worths_1 : decode cX10_worths 1 = .ok (.getfield 9, 3) := by decide +kernel
theorem dX10_worths_4 : decode cX10_worths 4 = .ok (.aload_n 0, 1) := by decide +kernel
theorem dX10_worths_5 : decode cX10_worths 5 = .ok (.getfield 15, 3) := by decide +kernel
theorem dX10_worths_8 : decode cX10_worths 8 = .ok (.invokestatic 189, 3) := by decide +kernel
theorem dX10_worths_11 : decode cX10_worths 11 = .ok (.aload_n 0, 1) := by decide +kernel
theorem dX10_worths_12 : decode cX10_worths 12 = .ok (.iconst 0, 1) := by decide +kernel
theorem dX10_worths_13 : decode cX10_worths 13 = .ok (.putfield 154, 3) := by decide +kernel
theorem dX10_worths_16 : decode cX10_worths 16 = .ok (.aload_n 0, 1) := by decide +kernel
theorem dX10_worths_17 : decode cX10_worths 17 = .ok (.iconst 0, 1) := by decide +kernel
theorem dX10_worths_18 : decode cX10_worths 18 = .ok (.putfield 157, 3) := by decide +kernel
theorem dX10_worths_21 : decode cX10_worths 21 = .ok (.iconst 1, 1) := by decide +kernel
theorem dX10_worths_22 : decode cX10_worths 22 = .ok (.istore_n 1, 1) := by decide +kernel
theorem dX10_worths_23 : decode cX10_worths 23 = .ok (.aload_n 0, 1) := by decide +kernel
theorem dX10_worths_24 : decode cX10_worths 24 = .ok (.invokevirtual 193, 3) := by decide +kernel
theorem dX10_worths_27 : decode cX10_worths 27 = .ok (.aload_n 0, 1) := by decide +kernel
theorem dX10_worths_28 : decode cX10_worths 28 = .ok (.bipush 59, 2) := by decide +kernel
theorem dX10_worths_30 : decode cX10_worths 30 = .ok (.invokevirtual 186, 3) := by decide +kernel
theorem dX10_worths_33 : decode cX10_worths 33 = .ok (.ifCond .eq 13, 3) := by decide +kernel
theorem dX10_worths_36 : decode cX10_worths 36 = .ok (.aload_n 0, 1) := by decide +kernel
theorem dX10_worths_37 : decode cX10_worths 37 = .ok (.invokevirtual 193, 3) := by decide +kernel
theorem dX10_worths_40 : decode cX10_worths 40 = .ok (.iinc 1 1, 3) := by decide +kernel
theorem dX10_worths_43 : decode cX10_worths 43 = .ok (.goto (-16), 3) := by decide +kernel
theorem dX10_worths_46 : decode cX10_worths 46 = .ok (.aload_n 0, 1) := by decide +kernel
theorem dX10_worths_47 : decode cX10_worths 47 = .ok (.iload_n 1, 1) := by decide +kernel
theorem dX10_worths_48 : decode cX10_worths 48 = .ok (.invokevirtual 196, 3) := by decide +kernel
theorem dX10_worths_51 : decode cX10_worths 51 = .ok (.ireturn, 1) := by decide +kernel
theorem dX10_readPoint_0 : decode cX10_readPoint 0 = .ok (.aload_n 0, 1) := by decide +kernel
theorem dX10_readPoint_1 : decode cX10_readPoint 1 = .ok (.getfield 154, 3) := by decide +kernel
theorem dX10_readPoint_4 : decode cX10_readPoint 4 = .ok (.istore_n 1, 1) := by decide +kernel
theorem dX10_readPoint_5 : decode cX10_readPoint 5 = .ok (.aload_n 0, 1) := by decide +kernel
theorem dX10_readPoint_6 : decode cX10_readPoint 6 = .ok (.iconst 2, 1) := by decide +kernel
theorem dX10_readPoint_7 : decode cX10_readPoint 7 = .ok (.invokevirtual 172, 3) := by decide +kernel
theorem dX10_readPoint_10 : decode cX10_readPoint 10 = .ok (.i2l, 1) := by decide +kernel
theorem dX10_readPoint_11 : decode cX10_readPoint 11 = .ok (.lstore_n 2, 1) := by decide +kernel
theorem dX10_readPoint_12 : decode cX10_readPoint 12 = .ok (.lconst 1, 1) := by decide +kernel
theorem dX10_readPoint_13 : decode cX10_readPoint 13 = .ok (.lstore 4, 2) := by decide +kernel
theorem dX10_readPoint_15 : decode cX10_readPoint 15 = .ok (.aload_n 0, 1) := by decide +kernel
theorem dX10_readPoint_16 : decode cX10_readPoint 16 = .ok (.bipush 47, 2) := by decide +kernel
theorem dX10_readPoint_18 : decode cX10_readPoint 18 = .ok (.invokevirtual 186, 3) := by decide +kernel
theorem dX10_readPoint_21 : decode cX10_readPoint 21 = .ok (.ifCond .eq 37, 3) := by decide +kernel
theorem dX10_readPoint_24 : decode cX10_readPoint 24 = .ok (.aload_n 0, 1) := by decide +kernel
theorem dX10_readPoint_25 : decode cX10_readPoint 25 = .ok (.getfield 154, 3) := by decide +kernel
theorem dX10_readPoint_28 : decode cX10_readPoint 28 = .ok (.istore 6, 2) := by decide +kernel
theorem dX10_readPoint_30 : decode cX10_readPoint 30 = .ok (.aload_n 0, 1) := by decide +kernel
theorem dX10_readPoint_31 : decode cX10_readPoint 31 = .ok (.iconst 3, 1) := by decide +kernel
theorem dX10_readPoint_32 : decode cX10_readPoint 32 = .ok (.invokevirtual 172, 3) := by decide +kernel
theorem dX10_readPoint_35 : decode cX10_readPoint 35 = .ok (.i2l, 1) := by decide +kernel
theorem dX10_readPoint_36 : decode cX10_readPoint 36 = .ok (.lstore 4, 2) := by decide +kernel
theorem dX10_readPoint_38 : decode cX10_readPoint 38 = .ok (.aload_n 0, 1) := by decide +kernel
theorem dX10_readPoint_39 : decode cX10_readPoint 39 = .ok (.getfield 157, 3) := by decide +kernel
theorem dX10_readPoint_42 : decode cX10_readPoint 42 = .ok (.ifCond .ne 16, 3) := by decide +kernel
theorem dX10_readPoint_45 : decode cX10_readPoint 45 = .ok (.lload 4, 2) := by decide +kernel
theorem dX10_readPoint_47 : decode cX10_readPoint 47 = .ok (.lconst 0, 1) := by decide +kernel
theorem dX10_readPoint_48 : decode cX10_readPoint 48 = .ok (.lcmp, 1) := by decide +kernel
theorem dX10_readPoint_49 : decode cX10_readPoint 49 = .ok (.ifCond .ne 9, 3) := by decide +kernel
theorem dX10_readPoint_52 : decode cX10_readPoint 52 = .ok (.aload_n 0, 1) := by decide +kernel
theorem dX10_readPoint_53 : decode cX10_readPoint 53 = .ok (.iload 6, 2) := by decide +kernel
theorem dX10_readPoint_55 : decode cX10_readPoint 55 = .ok (.invokevirtual 176, 3) := by decide +kernel
theorem dX10_readPoint_58 : decode cX10_readPoint 58 = .ok (.aload_n 0, 1) := by decide +kernel
theorem dX10_readPoint_59 : decode cX10_readPoint 59 = .ok (.getfield 157, 3) := by decide +kernel
theorem dX10_readPoint_62 : decode cX10_readPoint 62 = .ok (.ifCond .ne 22, 3) := by decide +kernel
theorem dX10_readPoint_65 : decode cX10_readPoint 65 = .ok (.lload_n 2, 1) := by decide +kernel
theorem dX10_readPoint_66 : decode cX10_readPoint 66 = .ok (.aload_n 0, 1) := by decide +kernel
theorem dX10_readPoint_67 : decode cX10_readPoint 67 = .ok (.getfield 9, 3) := by decide +kernel
theorem dX10_readPoint_70 : decode cX10_readPoint 70 = .ok (.iconst 0, 1) := by decide +kernel
theorem dX10_readPoint_71 : decode cX10_readPoint 71 = .ok (.laload, 1) := by decide +kernel
theorem dX10_readPoint_72 : decode cX10_readPoint 72 = .ok (.lload 4, 2) := by decide +kernel
theorem dX10_readPoint_74 : decode cX10_readPoint 74 = .ok (.lmul, 1) := by decide +kernel
theorem dX10_readPoint_75 : decode cX10_readPoint 75 = .ok (.lcmp, 1) := by decide +kernel
theorem dX10_readPoint_76 : decode cX10_readPoint 76 = .ok (.ifCond .le 8, 3) := by decide +kernel
theorem dX10_readPoint_79 : decode cX10_readPoint 79 = .ok (.aload_n 0, 1) := by decide +kernel
theorem dX10_readPoint_80 : decode cX10_readPoint 80 = .ok (.iload_n 1, 1) := by decide +kernel
theorem dX10_readPoint_81 : decode cX10_readPoint 81 = .ok (.invokevirtual 176, 3) := by decide +kernel
theorem dX10_readPoint_84 : decode cX10_readPoint 84 = .ok (.aload_n 0, 1) := by decide +kernel
theorem dX10_readPoint_85 : decode cX10_readPoint 85 = .ok (.getfield 157, 3) := by decide +kernel
theorem dX10_readPoint_88 : decode cX10_readPoint 88 = .ok (.ifCond .ne 10, 3) := by decide +kernel
theorem dX10_readPoint_91 : decode cX10_readPoint 91 = .ok (.aload_n 0, 1) := by decide +kernel
theorem dX10_readPoint_92 : decode cX10_readPoint 92 = .ok (.lload_n 2, 1) := by decide +kernel
theorem dX10_readPoint_93 : decode cX10_readPoint 93 = .ok (.lload 4, 2) := by decide +kernel
theorem dX10_readPoint_95 : decode cX10_readPoint 95 = .ok (.invokevirtual 110, 3) := by decide +kernel
theorem dX10_readPoint_98 : decode cX10_readPoint 98 = .ok (.return_, 1) := by decide +kernel
theorem dX10_areApart_0 : decode cX10_areApart 0 = .ok (.iconst 0, 1) := by decide +kernel
theorem dX10_areApart_1 : decode cX10_areApart 1 = .ok (.istore 9, 2) := by decide +kernel
theorem dX10_areApart_3 : decode cX10_areApart 3 = .ok (.iload 9, 2) := by decide +kernel
theorem dX10_areApart_5 : decode cX10_areApart 5 = .ok (.aload_n 0, 1) := by decide +kernel
theorem dX10_areApart_6 : decode cX10_areApart 6 = .ok (.invokevirtual 75, 3) := by decide +kernel
theorem dX10_areApart_9 : decode cX10_areApart 9 = .ok (.if_icmp .ge 170, 3) := by decide +kernel
theorem dX10_areApart_12 : decode cX10_areApart 12 = .ok (.iconst 0, 1) := by decide +kernel
theorem dX10_areApart_13 : decode cX10_areApart 13 = .ok (.istore 10, 2) := by decide +kernel
theorem dX10_areApart_15 : decode cX10_areApart 15 = .ok (.iload 10, 2) := by decide +kernel
theorem dX10_areApart_17 : decode cX10_areApart 17 = .ok (.i2l, 1) := by decide +kernel
theorem dX10_areApart_18 : decode cX10_areApart 18 = .ok (.aload_n 0, 1) := by decide +kernel
theorem dX10_areApart_19 : decode cX10_areApart 19 = .ok (.getfield 9, 3) := by decide +kernel
theorem dX10_areApart_22 : decode cX10_areApart 22 = .ok (.sipush 165, 3) := by decide +kernel
theorem dX10_areApart_25 : decode cX10_areApart 25 = .ok (.iload 9, 2) := by decide +kernel
theorem dX10_areApart_27 : decode cX10_areApart 27 = .ok (.iadd, 1) := by decide +kernel
theorem dX10_areApart_28 : decode cX10_areApart 28 = .ok (.laload, 1) := by decide +kernel
theorem dX10_areApart_29 : decode cX10_areApart 29 = .ok (.lcmp, 1) := by decide +kernel
theorem dX10_areApart_30 : decode cX10_areApart 30 = .ok (.ifCond .ge 143, 3) := by decide +kernel
theorem dX10_areApart_33 : decode cX10_areApart 33 = .ok (.sipush 170, 3) := by decide +kernel
theorem dX10_areApart_36 : decode cX10_areApart 36 = .ok (.bipush 8, 2) := by decide +kernel
theorem dX10_areApart_38 : decode cX10_areApart 38 = .ok (.iload 9, 2) := by decide +kernel
theorem dX10_areApart_40 : decode cX10_areApart 40 = .ok (.imul, 1) := by decide +kernel
theorem dX10_areApart_41 : decode cX10_areApart 41 = .ok (.iadd, 1) := by decide +kernel
theorem dX10_areApart_42 : decode cX10_areApart 42 = .ok (.iconst 4, 1) := by decide +kernel
theorem dX10_areApart_43 : decode cX10_areApart 43 = .ok (.iload 10, 2) := by decide +kernel
theorem dX10_areApart_45 : decode cX10_areApart 45 = .ok (.imul, 1) := by decide +kernel
theorem dX10_areApart_46 : decode cX10_areApart 46 = .ok (.iadd, 1) := by decide +kernel
theorem dX10_areApart_47 : decode cX10_areApart 47 = .ok (.istore 11, 2) := by decide +kernel
theorem dX10_areApart_49 : decode cX10_areApart 49 = .ok (.aload_n 0, 1) := by decide +kernel
theorem dX10_areApart_50 : decode cX10_areApart 50 = .ok (.getfield 9, 3) := by decide +kernel
theorem dX10_areApart_53 : decode cX10_areApart 53 = .ok (.iload 11, 2) := by decide +kernel
theorem dX10_areApart_55 : decode cX10_areApart 55 = .ok (.laload, 1) := by decide +kernel
theorem dX10_areApart_56 : decode cX10_areApart 56 = .ok (.aload_n 0, 1) := by decide +kernel
theorem dX10_areApart_57 : decode cX10_areApart 57 = .ok (.getfield 9, 3) := by decide +kernel
theorem dX10_areApart_60 : decode cX10_areApart 60 = .ok (.iload 11, 2) := by decide +kernel
theorem dX10_areApart_62 : decode cX10_areApart 62 = .ok (.iconst 3, 1) := by decide +kernel
theorem dX10_areApart_63 : decode cX10_areApart 63 = .ok (.iadd, 1) := by decide +kernel
theorem dX10_areApart_64 : decode cX10_areApart 64 = .ok (.laload, 1) := by decide +kernel
theorem dX10_areApart_65 : decode cX10_areApart 65 = .ok (.lmul, 1) := by decide +kernel
theorem dX10_areApart_66 : decode cX10_areApart 66 = .ok (.aload_n 0, 1) := by decide +kernel
theorem dX10_areApart_67 : decode cX10_areApart 67 = .ok (.getfield 9, 3) := by decide +kernel
theorem dX10_areApart_70 : decode cX10_areApart 70 = .ok (.iload 11, 2) := by decide +kernel
theorem dX10_areApart_72 : decode cX10_areApart 72 = .ok (.iconst 2, 1) := by decide +kernel
theorem dX10_areApart_73 : decode cX10_areApart 73 = .ok (.iadd, 1) := by decide +kernel
theorem dX10_areApart_74 : decode cX10_areApart 74 = .ok (.laload, 1) := by decide +kernel
theorem dX10_areApart_75 : decode cX10_areApart 75 = .ok (.aload_n 0, 1) := by decide +kernel
theorem dX10_areApart_76 : decode cX10_areApart 76 = .ok (.getfield 9, 3) := by decide +kernel
theorem dX10_areApart_79 : decode cX10_areApart 79 = .ok (.iload 11, 2) := by decide +kernel
theorem dX10_areApart_81 : decode cX10_areApart 81 = .ok (.iconst 1, 1) := by decide +kernel
theorem dX10_areApart_82 : decode cX10_areApart 82 = .ok (.iadd, 1) := by decide +kernel
theorem dX10_areApart_83 : decode cX10_areApart 83 = .ok (.laload, 1) := by decide +kernel
theorem dX10_areApart_84 : decode cX10_areApart 84 = .ok (.lmul, 1) := by decide +kernel
theorem dX10_areApart_85 : decode cX10_areApart 85 = .ok (.lcmp, 1) := by decide +kernel
theorem dX10_areApart_86 : decode cX10_areApart 86 = .ok (.ifCond .ne 7, 3) := by decide +kernel
theorem dX10_areApart_89 : decode cX10_areApart 89 = .ok (.iconst 1, 1) := by decide +kernel
theorem dX10_areApart_90 : decode cX10_areApart 90 = .ok (.goto 4, 3) := by decide +kernel
theorem dX10_areApart_93 : decode cX10_areApart 93 = .ok (.iconst 0, 1) := by decide +kernel
theorem dX10_areApart_94 : decode cX10_areApart 94 = .ok (.istore 12, 2) := by decide +kernel
theorem dX10_areApart_96 : decode cX10_areApart 96 = .ok (.aload_n 0, 1) := by decide +kernel
theorem dX10_areApart_97 : decode cX10_areApart 97 = .ok (.getfield 9, 3) := by decide +kernel
theorem dX10_areApart_100 : decode cX10_areApart 100 = .ok (.iload 11, 2) := by decide +kernel
theorem dX10_areApart_102 : decode cX10_areApart 102 = .ok (.laload, 1) := by decide +kernel
theorem dX10_areApart_103 : decode cX10_areApart 103 = .ok (.aload_n 0, 1) := by decide +kernel
theorem dX10_areApart_104 : decode cX10_areApart 104 = .ok (.getfield 9, 3) := by decide +kernel
theorem dX10_areApart_107 : decode cX10_areApart 107 = .ok (.iload 11, 2) := by decide +kernel
theorem dX10_areApart_109 : decode cX10_areApart 109 = .ok (.iconst 1, 1) := by decide +kernel
theorem dX10_areApart_110 : decode cX10_areApart 110 = .ok (.iadd, 1) := by decide +kernel
theorem dX10_areApart_111 : decode cX10_areApart 111 = .ok (.laload, 1) := by decide +kernel
theorem dX10_areApart_112 : decode cX10_areApart 112 = .ok (.lload 5, 2) := by decide +kernel
theorem dX10_areApart_114 : decode cX10_areApart 114 = .ok (.lload 7, 2) := by decide +kernel
theorem dX10_areApart_116 : decode cX10_areApart 116 = .ok (.invokestatic 199, 3) := by decide +kernel
theorem dX10_areApart_119 : decode cX10_areApart 119 = .ok (.ifCond .eq 33, 3) := by decide +kernel
theorem dX10_areApart_122 : decode cX10_areApart 122 = .ok (.lload_n 1, 1) := by decide +kernel
theorem dX10_areApart_123 : decode cX10_areApart 123 = .ok (.lload_n 3, 1) := by decide +kernel
theorem dX10_areApart_124 : decode cX10_areApart 124 = .ok (.aload_n 0, 1) := by decide +kernel
theorem dX10_areApart_125 : decode cX10_areApart 125 = .ok (.getfield 9, 3) := by decide +kernel
theorem dX10_areApart_128 : decode cX10_areApart 128 = .ok (.iload 11, 2) := by decide +kernel
theorem dX10_areApart_130 : decode cX10_areApart 130 = .ok (.iconst 2, 1) := by decide +kernel
theorem dX10_areApart_131 : decode cX10_areApart 131 = .ok (.iadd, 1) := by decide +kernel
theorem dX10_areApart_132 : decode cX10_areApart 132 = .ok (.laload, 1) := by decide +kernel
theorem dX10_areApart_133 : decode cX10_areApart 133 = .ok (.aload_n 0, 1) := by decide +kernel
theorem dX10_areApart_134 : decode cX10_areApart 134 = .ok (.getfield 9, 3) := by decide +kernel
theorem dX10_areApart_137 : decode cX10_areApart 137 = .ok (.iload 11, 2) := by decide +kernel
theorem dX10_areApart_139 : decode cX10_areApart 139 = .ok (.iconst 3, 1) := by decide +kernel
theorem dX10_areApart_140 : decode cX10_areApart 140 = .ok (.iadd, 1) := by decide +kernel
theorem dX10_areApart_141 : decode cX10_areApart 141 = .ok (.laload, 1) := by decide +kernel
theorem dX10_areApart_142 : decode cX10_areApart 142 = .ok (.invokestatic 199, 3) := by decide +kernel
theorem dX10_areApart_145 : decode cX10_areApart 145 = .ok (.ifCond .eq 7, 3) := by decide +kernel
theorem dX10_areApart_148 : decode cX10_areApart 148 = .ok (.iconst 1, 1) := by decide +kernel
theorem dX10_areApart_149 : decode cX10_areApart 149 = .ok (.goto 4, 3) := by decide +kernel
theorem dX10_areApart_152 : decode cX10_areApart 152 = .ok (.iconst 0, 1) := by decide +kernel
theorem dX10_areApart_153 : decode cX10_areApart 153 = .ok (.istore 13, 2) := by decide +kernel
theorem dX10_areApart_155 : decode cX10_areApart 155 = .ok (.iload 12, 2) := by decide +kernel
theorem dX10_areApart_157 : decode cX10_areApart 157 = .ok (.ifCond .ne 10, 3) := by decide +kernel
theorem dX10_areApart_160 : decode cX10_areApart 160 = .ok (.iload 13, 2) := by decide +kernel
theorem dX10_areApart_162 : decode cX10_areApart 162 = .ok (.ifCond .eq 5, 3) := by decide +kernel
theorem dX10_areApart_165 : decode cX10_areApart 165 = .ok (.iconst 0, 1) := by decide +kernel
theorem dX10_areApart_166 : decode cX10_areApart 166 = .ok (.ireturn, 1) := by decide +kernel
theorem dX10_areApart_167 : decode cX10_areApart 167 = .ok (.iinc 10 1, 3) := by decide +kernel
theorem dX10_areApart_170 : decode cX10_areApart 170 = .ok (.goto (-155), 3) := by decide +kernel
theorem dX10_areApart_173 : decode cX10_areApart 173 = .ok (.iinc 9 1, 3) := by decide +kernel
theorem dX10_areApart_176 : decode cX10_areApart 176 = .ok (.goto (-173), 3) := by decide +kernel
theorem dX10_areApart_179 : decode cX10_areApart 179 = .ok (.iconst 1, 1) := by decide +kernel
theorem dX10_areApart_180 : decode cX10_areApart 180 = .ok (.ireturn, 1) := by decide +kernel
theorem dX10_readSpan_0 : decode cX10_readSpan 0 = .ok (.aload_n 0, 1) := by decide +kernel
theorem dX10_readSpan_1 : decode cX10_readSpan 1 = .ok (.getfield 154, 3) := by decide +kernel
theorem dX10_readSpan_4 : decode cX10_readSpan 4 = .ok (.istore_n 2, 1) := by decide +kernel
theorem dX10_readSpan_5 : decode cX10_readSpan 5 = .ok (.aload_n 0, 1) := by decide +kernel
theorem dX10_readSpan_6 : decode cX10_readSpan 6 = .ok (.invokevirtual 203, 3) := by decide +kernel
theorem dX10_readSpan_9 : decode cX10_readSpan 9 = .ok (.aload_n 0, 1) := by decide +kernel
theorem dX10_readSpan_10 : decode cX10_readSpan 10 = .ok (.getfield 99, 3) := by decide +kernel
theorem dX10_readSpan_13 : decode cX10_readSpan 13 = .ok (.lstore_n 3, 1) := by decide +kernel
theorem dX10_readSpan_14 : decode cX10_readSpan 14 = .ok (.aload_n 0, 1) := by decide +kernel
theorem dX10_readSpan_15 : decode cX10_readSpan 15 = .ok (.getfield 103, 3) := by decide +kernel
theorem dX10_readSpan_18 : decode cX10_readSpan 18 = .ok (.lstore 5, 2) := by decide +kernel
theorem dX10_readSpan_20 : decode cX10_readSpan 20 = .ok (.aload_n 0, 1) := by decide +kernel
theorem dX10_readSpan_21 : decode cX10_readSpan 21 = .ok (.bipush 45, 2) := by decide +kernel
theorem dX10_readSpan_23 : decode cX10_readSpan 23 = .ok (.invokevirtual 183, 3) := by decide +kernel
theorem dX10_readSpan_26 : decode cX10_readSpan 26 = .ok (.aload_n 0, 1) := by decide +kernel
theorem dX10_readSpan_27 : decode cX10_readSpan 27 = .ok (.getfield 154, 3) := by decide +kernel
theorem dX10_readSpan_30 : decode cX10_readSpan 30 = .ok (.istore 7, 2) := by decide +kernel
theorem dX10_readSpan_32 : decode cX10_readSpan 32 = .ok (.aload_n 0, 1) := by decide +kernel
theorem dX10_readSpan_33 : decode cX10_readSpan 33 = .ok (.invokevirtual 203, 3) := by decide +kernel
theorem dX10_readSpan_36 : decode cX10_readSpan 36 = .ok (.aload_n 0, 1) := by decide +kernel
theorem dX10_readSpan_37 : decode cX10_readSpan 37 = .ok (.getfield 157, 3) := by decide +kernel
theorem dX10_readSpan_40 : decode cX10_readSpan 40 = .ok (.ifCond .ne 26, 3) := by decide +kernel
theorem dX10_readSpan_43 : decode cX10_readSpan 43 = .ok (.aload_n 0, 1) := by decide +kernel
theorem dX10_readSpan_44 : decode cX10_readSpan 44 = .ok (.getfield 99, 3) := by decide +kernel
theorem dX10_readSpan_47 : decode cX10_readSpan 47 = .ok (.aload_n 0, 1) := by decide +kernel
theorem dX10_readSpan_48 : decode cX10_readSpan 48 = .ok (.getfield 103, 3) := by decide +kernel
theorem dX10_readSpan_51 : decode cX10_readSpan 51 = .ok (.lload_n 3, 1) := by decide +kernel
theorem dX10_readSpan_52 : decode cX10_readSpan 52 = .ok (.lload 5, 2) := by decide +kernel
theorem dX10_readSpan_54 : decode cX10_readSpan 54 = .ok (.invokestatic 199, 3) := by decide +kernel
theorem dX10_readSpan_57 : decode cX10_readSpan 57 = .ok (.ifCond .eq 9, 3) := by decide +kernel
theorem dX10_readSpan_60 : decode cX10_readSpan 60 = .ok (.aload_n 0, 1) := by decide +kernel
theorem dX10_readSpan_61 : decode cX10_readSpan 61 = .ok (.iload 7, 2) := by decide +kernel
theorem dX10_readSpan_63 : decode cX10_readSpan 63 = .ok (.invokevirtual 176, 3) := by decide +kernel
theorem dX10_readSpan_66 : decode cX10_readSpan 66 = .ok (.aload_n 0, 1) := by decide +kernel
theorem dX10_readSpan_67 : decode cX10_readSpan 67 = .ok (.getfield 157, 3) := by decide +kernel
theorem dX10_readSpan_70 : decode cX10_readSpan 70 = .ok (.ifCond .ne 26, 3) := by decide +kernel
theorem dX10_readSpan_73 : decode cX10_readSpan 73 = .ok (.aload_n 0, 1) := by decide +kernel
theorem dX10_readSpan_74 : decode cX10_readSpan 74 = .ok (.getfield 99, 3) := by decide +kernel
theorem dX10_readSpan_77 : decode cX10_readSpan 77 = .ok (.lload_n 3, 1) := by decide +kernel
theorem dX10_readSpan_78 : decode cX10_readSpan 78 = .ok (.lcmp, 1) := by decide +kernel
theorem dX10_readSpan_79 : decode cX10_readSpan 79 = .ok (.ifCond .ne 17, 3) := by decide +kernel
theorem dX10_readSpan_82 : decode cX10_readSpan 82 = .ok (.aload_n 0, 1) := by decide +kernel
theorem dX10_readSpan_83 : decode cX10_readSpan 83 = .ok (.getfield 103, 3) := by decide +kernel
theorem dX10_readSpan_86 : decode cX10_readSpan 86 = .ok (.lload 5, 2) := by decide +kernel
theorem dX10_readSpan_88 : decode cX10_readSpan 88 = .ok (.lcmp, 1) := by decide +kernel
theorem dX10_readSpan_89 : decode cX10_readSpan 89 = .ok (.ifCond .ne 7, 3) := by decide +kernel
theorem dX10_readSpan_92 : decode cX10_readSpan 92 = .ok (.iconst 1, 1) := by decide +kernel
theorem dX10_readSpan_93 : decode cX10_readSpan 93 = .ok (.goto 4, 3) := by decide +kernel
theorem dX10_readSpan_96 : decode cX10_readSpan 96 = .ok (.iconst 0, 1) := by decide +kernel
theorem dX10_readSpan_97 : decode cX10_readSpan 97 = .ok (.istore 8, 2) := by decide +kernel
theorem dX10_readSpan_99 : decode cX10_readSpan 99 = .ok (.aload_n 0, 1) := by decide +kernel
theorem dX10_readSpan_100 : decode cX10_readSpan 100 = .ok (.getfield 157, 3) := by decide +kernel
theorem dX10_readSpan_103 : decode cX10_readSpan 103 = .ok (.ifCond .ne 31, 3) := by decide +kernel
theorem dX10_readSpan_106 : decode cX10_readSpan 106 = .ok (.iload 8, 2) := by decide +kernel
theorem dX10_readSpan_108 : decode cX10_readSpan 108 = .ok (.ifCond .ne 26, 3) := by decide +kernel
theorem dX10_readSpan_111 : decode cX10_readSpan 111 = .ok (.aload_n 0, 1) := by decide +kernel
theorem dX10_readSpan_112 : decode cX10_readSpan 112 = .ok (.lload_n 3, 1) := by decide +kernel
theorem dX10_readSpan_113 : decode cX10_readSpan 113 = .ok (.lload 5, 2) := by decide +kernel
theorem dX10_readSpan_115 : decode cX10_readSpan 115 = .ok (.aload_n 0, 1) := by decide +kernel
theorem dX10_readSpan_116 : decode cX10_readSpan 116 = .ok (.getfield 99, 3) := by decide +kernel
theorem dX10_readSpan_119 : decode cX10_readSpan 119 = .ok (.aload_n 0, 1) := by decide +kernel
theorem dX10_readSpan_120 : decode cX10_readSpan 120 = .ok (.getfield 103, 3) := by decide +kernel
theorem dX10_readSpan_123 : decode cX10_readSpan 123 = .ok (.invokevirtual 206, 3) := by decide +kernel
theorem dX10_readSpan_126 : decode cX10_readSpan 126 = .ok (.ifCond .ne 8, 3) := by decide +kernel
theorem dX10_readSpan_129 : decode cX10_readSpan 129 = .ok (.aload_n 0, 1) := by decide +kernel
theorem dX10_readSpan_130 : decode cX10_readSpan 130 = .ok (.iload_n 2, 1) := by decide +kernel
theorem dX10_readSpan_131 : decode cX10_readSpan 131 = .ok (.invokevirtual 176, 3) := by decide +kernel
theorem dX10_readSpan_134 : decode cX10_readSpan 134 = .ok (.aload_n 0, 1) := by decide +kernel
theorem dX10_readSpan_135 : decode cX10_readSpan 135 = .ok (.getfield 157, 3) := by decide +kernel
theorem dX10_readSpan_138 : decode cX10_readSpan 138 = .ok (.ifCond .ne 19, 3) := by decide +kernel
theorem dX10_readSpan_141 : decode cX10_readSpan 141 = .ok (.aload_n 0, 1) := by decide +kernel
theorem dX10_readSpan_142 : decode cX10_readSpan 142 = .ok (.iload_n 1, 1) := by decide +kernel
theorem dX10_readSpan_143 : decode cX10_readSpan 143 = .ok (.lload_n 3, 1) := by decide +kernel
theorem dX10_readSpan_144 : decode cX10_readSpan 144 = .ok (.lload 5, 2) := by decide +kernel
theorem dX10_readSpan_146 : decode cX10_readSpan 146 = .ok (.aload_n 0, 1) := by decide +kernel
theorem dX10_readSpan_147 : decode cX10_readSpan 147 = .ok (.getfield 99, 3) := by decide +kernel
theorem dX10_readSpan_150 : decode cX10_readSpan 150 = .ok (.aload_n 0, 1) := by decide +kernel
theorem dX10_readSpan_151 : decode cX10_readSpan 151 = .ok (.getfield 103, 3) := by decide +kernel
theorem dX10_readSpan_154 : decode cX10_readSpan 154 = .ok (.invokevirtual 209, 3) := by decide +kernel
theorem dX10_readSpan_157 : decode cX10_readSpan 157 = .ok (.return_, 1) := by decide +kernel
theorem dX10_adds_0 : decode cX10_adds 0 = .ok (.sipush 170, 3) := by decide +kernel
theorem dX10_adds_3 : decode cX10_adds 3 = .ok (.bipush 8, 2) := by decide +kernel
theorem dX10_adds_5 : decode cX10_adds 5 = .ok (.iload_n 1, 1) := by decide +kernel
theorem dX10_adds_6 : decode cX10_adds 6 = .ok (.imul, 1) := by decide +kernel
theorem dX10_adds_7 : decode cX10_adds 7 = .ok (.iadd, 1) := by decide +kernel
theorem dX10_adds_8 : decode cX10_adds 8 = .ok (.iconst 4, 1) := by decide +kernel
theorem dX10_adds_9 : decode cX10_adds 9 = .ok (.aload_n 0, 1) := by decide +kernel
theorem dX10_adds_10 : decode cX10_adds 10 = .ok (.getfield 9, 3) := by decide +kernel
theorem dX10_adds_13 : decode cX10_adds 13 = .ok (.sipush 165, 3) := by decide +kernel
theorem dX10_adds_16 : decode cX10_adds 16 = .ok (.iload_n 1, 1) := by decide +kernel
theorem dX10_adds_17 : decode cX10_adds 17 = .ok (.iadd, 1) := by decide +kernel
theorem dX10_adds_18 : decode cX10_adds 18 = .ok (.laload, 1) := by decide +kernel
theorem dX10_adds_19 : decode cX10_adds 19 = .ok (.l2i, 1) := by decide +kernel
theorem dX10_adds_20 : decode cX10_adds 20 = .ok (.imul, 1) := by decide +kernel
theorem dX10_adds_21 : decode cX10_adds 21 = .ok (.iadd, 1) := by decide +kernel
theorem dX10_adds_22 : decode cX10_adds 22 = .ok (.istore 10, 2) := by decide +kernel
theorem dX10_adds_24 : decode cX10_adds 24 = .ok (.aload_n 0, 1) := by decide +kernel
theorem dX10_adds_25 : decode cX10_adds 25 = .ok (.getfield 9, 3) := by decide +kernel
theorem dX10_adds_28 : decode cX10_adds 28 = .ok (.iload 10, 2) := by decide +kernel
theorem dX10_adds_30 : decode cX10_adds 30 = .ok (.lload_n 2, 1) := by decide +kernel
theorem dX10_adds_31 : decode cX10_adds 31 = .ok (.lastore, 1) := by decide +kernel
theorem dX10_adds_32 : decode cX10_adds 32 = .ok (.aload_n 0, 1) := by decide +kernel
theorem dX10_adds_33 : decode cX10_adds 33 = .ok (.getfield 9, 3) := by decide +kernel
theorem dX10_adds_36 : decode cX10_adds 36 = .ok (.iload 10, 2) := by decide +kernel
theorem dX10_adds_38 : decode cX10_adds 38 = .ok (.iconst 1, 1) := by decide +kernel
theorem dX10_adds_39 : decode cX10_adds 39 = .ok (.iadd, 1) := by decide +kernel
theorem dX10_adds_40 : decode cX10_adds 40 = .ok (.lload 4, 2) := by decide +kernel
theorem dX10_adds_42 : decode cX10_adds 42 = .ok (.lastore, 1) := by decide +kernel
theorem dX10_adds_43 : decode cX10_adds 43 = .ok (.aload_n 0, 1) := by decide +kernel
theorem dX10_adds_44 : decode cX10_adds 44 = .ok (.getfield 9, 3) := by decide +kernel
theorem dX10_adds_47 : decode cX10_adds 47 = .ok (.iload 10, 2) := by decide +kernel
theorem dX10_adds_49 : decode cX10_adds 49 = .ok (.iconst 2, 1) := by decide +kernel
theorem dX10_adds_50 : decode cX10_adds 50 = .ok (.iadd, 1) := by decide +kernel
theorem dX10_adds_51 : decode cX10_adds 51 = .ok (.lload 6, 2) := by decide +kernel
theorem dX10_adds_53 : decode cX10_adds 53 = .ok (.lastore, 1) := by decide +kernel
theorem dX10_adds_54 : decode cX10_adds 54 = .ok (.aload_n 0, 1) := by decide +kernel
theorem dX10_adds_55 : decode cX10_adds 55 = .ok (.getfield 9, 3) := by decide +kernel
theorem dX10_adds_58 : decode cX10_adds 58 = .ok (.iload 10, 2) := by decide +kernel
theorem dX10_adds_60 : decode cX10_adds 60 = .ok (.iconst 3, 1) := by decide +kernel
theorem dX10_adds_61 : decode cX10_adds 61 = .ok (.iadd, 1) := by decide +kernel
theorem dX10_adds_62 : decode cX10_adds 62 = .ok (.lload 8, 2) := by decide +kernel
theorem dX10_adds_64 : decode cX10_adds 64 = .ok (.lastore, 1) := by decide +kernel
theorem dX10_adds_65 : decode cX10_adds 65 = .ok (.aload_n 0, 1) := by decide +kernel
theorem dX10_adds_66 : decode cX10_adds 66 = .ok (.getfield 9, 3) := by decide +kernel
theorem dX10_adds_69 : decode cX10_adds 69 = .ok (.sipush 165, 3) := by decide +kernel
theorem dX10_adds_72 : decode cX10_adds 72 = .ok (.iload_n 1, 1) := by decide +kernel
theorem dX10_adds_73 : decode cX10_adds 73 = .ok (.iadd, 1) := by decide +kernel
theorem dX10_adds_74 : decode cX10_adds 74 = .ok (.dup2, 1) := by decide +kernel
theorem dX10_adds_75 : decode cX10_adds 75 = .ok (.laload, 1) := by decide +kernel
theorem dX10_adds_76 : decode cX10_adds 76 = .ok (.lconst 1, 1) := by decide +kernel
theorem dX10_adds_77 : decode cX10_adds 77 = .ok (.ladd, 1) := by decide +kernel
theorem dX10_adds_78 : decode cX10_adds 78 = .ok (.lastore, 1) := by decide +kernel
theorem dX10_adds_79 : decode cX10_adds 79 = .ok (.return_, 1) := by decide +kernel
theorem dX10_undivided_0 : decode cX10_undivided 0 = .ok (.aload_n 0, 1) := by decide +kernel
theorem dX10_undivided_1 : decode cX10_undivided 1 = .ok (.getfield 9, 3) := by decide +kernel
theorem dX10_undivided_4 : decode cX10_undivided 4 = .ok (.iconst 2, 1) := by decide +kernel
theorem dX10_undivided_5 : decode cX10_undivided 5 = .ok (.lconst 0, 1) := by decide +kernel
theorem dX10_undivided_6 : decode cX10_undivided 6 = .ok (.lastore, 1) := by decide +kernel
theorem dX10_undivided_7 : decode cX10_undivided 7 = .ok (.aload_n 0, 1) := by decide +kernel
theorem dX10_undivided_8 : decode cX10_undivided 8 = .ok (.getfield 9, 3) := by decide +kernel
theorem dX10_undivided_11 : decode cX10_undivided 11 = .ok (.iconst 3, 1) := by decide +kernel
theorem dX10_undivided_12 : decode cX10_undivided 12 = .ok (.lconst 1, 1) := by decide +kernel
theorem dX10_undivided_13 : decode cX10_undivided 13 = .ok (.lastore, 1) := by decide +kernel
theorem dX10_undivided_14 : decode cX10_undivided 14 = .ok (.aload_n 0, 1) := by decide +kernel
theorem dX10_undivided_15 : decode cX10_undivided 15 = .ok (.getfield 9, 3) := by decide +kernel
theorem dX10_undivided_18 : decode cX10_undivided 18 = .ok (.iconst 4, 1) := by decide +kernel
theorem dX10_undivided_19 : decode cX10_undivided 19 = .ok (.lconst 0, 1) := by decide +kernel
theorem dX10_undivided_20 : decode cX10_undivided 20 = .ok (.lastore, 1) := by decide +kernel
theorem dX10_undivided_21 : decode cX10_undivided 21 = .ok (.iconst 0, 1) := by decide +kernel
theorem dX10_undivided_22 : decode cX10_undivided 22 = .ok (.istore_n 1, 1) := by decide +kernel
theorem dX10_undivided_23 : decode cX10_undivided 23 = .ok (.iload_n 1, 1) := by decide +kernel
theorem dX10_undivided_24 : decode cX10_undivided 24 = .ok (.iconst 5, 1) := by decide +kernel
theorem dX10_undivided_25 : decode cX10_undivided 25 = .ok (.if_icmp .ge 20, 3) := by decide +kernel
theorem dX10_undivided_28 : decode cX10_undivided 28 = .ok (.aload_n 0, 1) := by decide +kernel
theorem dX10_undivided_29 : decode cX10_undivided 29 = .ok (.getfield 9, 3) := by decide +kernel
theorem dX10_undivided_32 : decode cX10_undivided 32 = .ok (.sipush 165, 3) := by decide +kernel
theorem dX10_undivided_35 : decode cX10_undivided 35 = .ok (.iload_n 1, 1) := by decide +kernel
theorem dX10_undivided_36 : decode cX10_undivided 36 = .ok (.iadd, 1) := by decide +kernel
theorem dX10_undivided_37 : decode cX10_undivided 37 = .ok (.lconst 0, 1) := by decide +kernel
theorem dX10_undivided_38 : decode cX10_undivided 38 = .ok (.lastore, 1) := by decide +kernel
theorem dX10_undivided_39 : decode cX10_undivided 39 = .ok (.iinc 1 1, 3) := by decide +kernel
theorem dX10_undivided_42 : decode cX10_undivided 42 = .ok (.goto (-19), 3) := by decide +kernel
theorem dX10_undivided_45 : decode cX10_undivided 45 = .ok (.return_, 1) := by decide +kernel
theorem dX10_readShare_0 : decode cX10_readShare 0 = .ok (.aload_n 0, 1) := by decide +kernel
theorem dX10_readShare_1 : decode cX10_readShare 1 = .ok (.getfield 154, 3) := by decide +kernel
theorem dX10_readShare_4 : decode cX10_readShare 4 = .ok (.istore_n 1, 1) := by decide +kernel
theorem dX10_readShare_5 : decode cX10_readShare 5 = .ok (.aload_n 0, 1) := by decide +kernel
theorem dX10_readShare_6 : decode cX10_readShare 6 = .ok (.invokevirtual 180, 3) := by decide +kernel
theorem dX10_readShare_9 : decode cX10_readShare 9 = .ok (.istore_n 2, 1) := by decide +kernel
theorem dX10_readShare_10 : decode cX10_readShare 10 = .ok (.aload_n 0, 1) := by decide +kernel
theorem dX10_readShare_11 : decode cX10_readShare 11 = .ok (.getfield 157, 3) := by decide +kernel
theorem dX10_readShare_14 : decode cX10_readShare 14 = .ok (.ifCond .ne 20, 3) := by decide +kernel
theorem dX10_readShare_17 : decode cX10_readShare 17 = .ok (.aload_n 0, 1) := by decide +kernel
theorem dX10_readShare_18 : decode cX10_readShare 18 = .ok (.getfield 213, 3) := by decide +kernel
theorem dX10_readShare_21 : decode cX10_readShare 21 = .ok (.iload_n 2, 1) := by decide +kernel
theorem dX10_readShare_22 : decode cX10_readShare 22 = .ok (.ishr, 1) := by decide +kernel
theorem dX10_readShare_23 : decode cX10_readShare 23 = .ok (.iconst 1, 1) := by decide +kernel
theorem dX10_readShare_24 : decode cX10_readShare 24 = .ok (.iand, 1) := by decide +kernel
theorem dX10_readShare_25 : decode cX10_readShare 25 = .ok (.iconst 1, 1) := by decide +kernel
theorem dX10_readShare_26 : decode cX10_readShare 26 = .ok (.if_icmp .ne 8, 3) := by decide +kernel
theorem dX10_readShare_29 : decode cX10_readShare 29 = .ok (.aload_n 0, 1) := by decide +kernel
theorem dX10_readShare_30 : decode cX10_readShare 30 = .ok (.iload_n 1, 1) := by decide +kernel
theorem dX10_readShare_31 : decode cX10_readShare 31 = .ok (.invokevirtual 176, 3) := by decide +kernel
theorem dX10_readShare_34 : decode cX10_readShare 34 = .ok (.aload_n 0, 1) := by decide +kernel
theorem dX10_readShare_35 : decode cX10_readShare 35 = .ok (.dup, 1) := by decide +kernel
theorem dX10_readShare_36 : decode cX10_readShare 36 = .ok (.getfield 213, 3) := by decide +kernel
theorem dX10_readShare_39 : decode cX10_readShare 39 = .ok (.iconst 1, 1) := by decide +kernel
theorem dX10_readShare_40 : decode cX10_readShare 40 = .ok (.iload_n 2, 1) := by decide +kernel
theorem dX10_readShare_41 : decode cX10_readShare 41 = .ok (.ishl, 1) := by decide +kernel
theorem dX10_readShare_42 : decode cX10_readShare 42 = .ok (.ior, 1) := by decide +kernel
theorem dX10_readShare_43 : decode cX10_readShare 43 = .ok (.putfield 213, 3) := by decide +kernel
theorem dX10_readShare_46 : decode cX10_readShare 46 = .ok (.aload_n 0, 1) := by decide +kernel
theorem dX10_readShare_47 : decode cX10_readShare 47 = .ok (.bipush 61, 2) := by decide +kernel
theorem dX10_readShare_49 : decode cX10_readShare 49 = .ok (.invokevirtual 183, 3) := by decide +kernel
theorem dX10_readShare_52 : decode cX10_readShare 52 = .ok (.aload_n 0, 1) := by decide +kernel
theorem dX10_readShare_53 : decode cX10_readShare 53 = .ok (.iload_n 2, 1) := by decide +kernel
theorem dX10_readShare_54 : decode cX10_readShare 54 = .ok (.invokevirtual 216, 3) := by decide +kernel
theorem dX10_readShare_57 : decode cX10_readShare 57 = .ok (.aload_n 0, 1) := by decide +kernel
theorem dX10_readShare_58 : decode cX10_readShare 58 = .ok (.bipush 44, 2) := by decide +kernel
theorem dX10_readShare_60 : decode cX10_readShare 60 = .ok (.invokevirtual 186, 3) := by decide +kernel
theorem dX10_readShare_63 : decode cX10_readShare 63 = .ok (.ifCond .eq 8, 3) := by decide +kernel
theorem dX10_readShare_66 : decode cX10_readShare 66 = .ok (.aload_n 0, 1) := by decide +kernel
theorem dX10_readShare_67 : decode cX10_readShare 67 = .ok (.iload_n 2, 1) := by decide +kernel
theorem dX10_readShare_68 : decode cX10_readShare 68 = .ok (.invokevirtual 216, 3) := by decide +kernel
theorem dX10_readShare_71 : decode cX10_readShare 71 = .ok (.return_, 1) := by decide +kernel
theorem dX10_unites_0 : decode cX10_unites 0 = .ok (.aload_n 0, 1) := by decide +kernel
theorem dX10_unites_1 : decode cX10_unites 1 = .ok (.getfield 219, 3) := by decide +kernel
theorem dX10_unites_4 : decode cX10_unites 4 = .ok (.ifCond .ne 11, 3) := by decide +kernel
theorem dX10_unites_7 : decode cX10_unites 7 = .ok (.lload_n 1, 1) := by decide +kernel
theorem dX10_unites_8 : decode cX10_unites 8 = .ok (.ldc2_w 222, 3) := by decide +kernel
theorem dX10_unites_11 : decode cX10_unites 11 = .ok (.lcmp, 1) := by decide +kernel
theorem dX10_unites_12 : decode cX10_unites 12 = .ok (.ifCond .le 9, 3) := by decide +kernel
theorem dX10_unites_15 : decode cX10_unites 15 = .ok (.ldc2_w 224, 3) := by decide +kernel
theorem dX10_unites_18 : decode cX10_unites 18 = .ok (.goto 22, 3) := by decide +kernel
theorem dX10_unites_21 : decode cX10_unites 21 = .ok (.aload_n 0, 1) := by decide +kernel
theorem dX10_unites_22 : decode cX10_unites 22 = .ok (.getfield 9, 3) := by decide +kernel
theorem dX10_unites_25 : decode cX10_unites 25 = .ok (.iconst 3, 1) := by decide +kernel
theorem dX10_unites_26 : decode cX10_unites 26 = .ok (.laload, 1) := by decide +kernel
theorem dX10_unites_27 : decode cX10_unites 27 = .ok (.aload_n 0, 1) := by decide +kernel
theorem dX10_unites_28 : decode cX10_unites 28 = .ok (.getfield 9, 3) := by decide +kernel
theorem dX10_unites_31 : decode cX10_unites 31 = .ok (.iconst 3, 1) := by decide +kernel
theorem dX10_unites_32 : decode cX10_unites 32 = .ok (.laload, 1) := by decide +kernel
theorem dX10_unites_33 : decode cX10_unites 33 = .ok (.lload_n 1, 1) := by decide +kernel
theorem dX10_unites_34 : decode cX10_unites 34 = .ok (.invokestatic 95, 3) := by decide +kernel
theorem dX10_unites_37 : decode cX10_unites 37 = .ok (.ldiv, 1) := by decide +kernel
theorem dX10_unites_38 : decode cX10_unites 38 = .ok (.lload_n 1, 1) := by decide +kernel
theorem dX10_unites_39 : decode cX10_unites 39 = .ok (.lmul, 1) := by decide +kernel
theorem dX10_unites_40 : decode cX10_unites 40 = .ok (.lstore_n 3, 1) := by decide +kernel
theorem dX10_unites_41 : decode cX10_unites 41 = .ok (.aload_n 0, 1) := by decide +kernel
theorem dX10_unites_42 : decode cX10_unites 42 = .ok (.lload_n 3, 1) := by decide +kernel
theorem dX10_unites_43 : decode cX10_unites 43 = .ok (.ldc2_w 222, 3) := by decide +kernel
theorem dX10_unites_46 : decode cX10_unites 46 = .ok (.lcmp, 1) := by decide +kernel
theorem dX10_unites_47 : decode cX10_unites 47 = .ok (.ifCond .le 7, 3) := by decide +kernel
theorem dX10_unites_50 : decode cX10_unites 50 = .ok (.iconst 1, 1) := by decide +kernel
theorem dX10_unites_51 : decode cX10_unites 51 = .ok (.goto 4, 3) := by decide +kernel
theorem dX10_unites_54 : decode cX10_unites 54 = .ok (.iconst 0, 1) := by decide +kernel
theorem dX10_unites_55 : decode cX10_unites 55 = .ok (.putfield 219, 3) := by decide +kernel
theorem dX10_unites_58 : decode cX10_unites 58 = .ok (.aload_n 0, 1) := by decide +kernel
theorem dX10_unites_59 : decode cX10_unites 59 = .ok (.getfield 9, 3) := by decide +kernel
theorem dX10_unites_62 : decode cX10_unites 62 = .ok (.iconst 3, 1) := by decide +kernel
theorem dX10_unites_63 : decode cX10_unites 63 = .ok (.aload_n 0, 1) := by decide +kernel
theorem dX10_unites_64 : decode cX10_unites 64 = .ok (.getfield 219, 3) := by decide +kernel
theorem dX10_unites_67 : decode cX10_unites 67 = .ok (.ifCond .eq 12, 3) := by decide +kernel
theorem dX10_unites_70 : decode cX10_unites 70 = .ok (.aload_n 0, 1) := by decide +kernel
theorem dX10_unites_71 : decode cX10_unites 71 = .ok (.getfield 9, 3) := by decide +kernel
theorem dX10_unites_74 : decode cX10_unites 74 = .ok (.iconst 3, 1) := by decide +kernel
theorem dX10_unites_75 : decode cX10_unites 75 = .ok (.laload, 1) := by decide +kernel
theorem dX10_unites_76 : decode cX10_unites 76 = .ok (.goto 4, 3) := by decide +kernel
theorem dX10_unites_79 : decode cX10_unites 79 = .ok (.lload_n 3, 1) := by decide +kernel
theorem dX10_unites_80 : decode cX10_unites 80 = .ok (.lastore, 1) := by decide +kernel
theorem dX10_unites_81 : decode cX10_unites 81 = .ok (.return_, 1) := by decide +kernel
theorem dX10_divides_0 : decode cX10_divides 0 = .ok (.aload_n 0, 1) := by decide +kernel
theorem dX10_divides_1 : decode cX10_divides 1 = .ok (.getfield 9, 3) := by decide +kernel
theorem dX10_divides_4 : decode cX10_divides 4 = .ok (.aload_n 0, 1) := by decide +kernel
theorem dX10_divides_5 : decode cX10_divides 5 = .ok (.getfield 15, 3) := by decide +kernel
theorem dX10_divides_8 : decode cX10_divides 8 = .ok (.invokestatic 189, 3) := by decide +kernel
theorem dX10_divides_11 : decode cX10_divides 11 = .ok (.aload_n 0, 1) := by decide +kernel
theorem dX10_divides_12 : decode cX10_divides 12 = .ok (.invokevirtual 226, 3) := by decide +kernel
theorem dX10_divides_15 : decode cX10_divides 15 = .ok (.aload_n 0, 1) := by decide +kernel
theorem dX10_divides_16 : decode cX10_divides 16 = .ok (.iconst 0, 1) := by decide +kernel
theorem dX10_divides_17 : decode cX10_divides 17 = .ok (.putfield 154, 3) := by decide +kernel
theorem dX10_divides_20 : decode cX10_divides 20 = .ok (.aload_n 0, 1) := by decide +kernel
theorem dX10_divides_21 : decode cX10_divides 21 = .ok (.iconst 0, 1) := by decide +kernel
theorem dX10_divides_22 : decode cX10_divides 22 = .ok (.putfield 157, 3) := by decide +kernel
theorem dX10_divides_25 : decode cX10_divides 25 = .ok (.aload_n 0, 1) := by decide +kernel
theorem dX10_divides_26 : decode cX10_divides 26 = .ok (.iconst 0, 1) := by decide +kernel
theorem dX10_divides_27 : decode cX10_divides 27 = .ok (.putfield 213, 3) := by decide +kernel
theorem dX10_divides_30 : decode cX10_divides 30 = .ok (.iconst 1, 1) := by decide +kernel
theorem dX10_divides_31 : decode cX10_divides 31 = .ok (.istore_n 1, 1) := by decide +kernel
theorem dX10_divides_32 : decode cX10_divides 32 = .ok (.aload_n 0, 1) := by decide +kernel
theorem dX10_divides_33 : decode cX10_divides 33 = .ok (.invokevirtual 229, 3) := by decide +kernel
theorem dX10_divides_36 : decode cX10_divides 36 = .ok (.aload_n 0, 1) := by decide +kernel
theorem dX10_divides_37 : decode cX10_divides 37 = .ok (.bipush 59, 2) := by decide +kernel
theorem dX10_divides_39 : decode cX10_divides 39 = .ok (.invokevirtual 186, 3) := by decide +kernel
theorem dX10_divides_42 : decode cX10_divides 42 = .ok (.ifCond .eq 13, 3) := by decide +kernel
theorem dX10_divides_45 : decode cX10_divides 45 = .ok (.aload_n 0, 1) := by decide +kernel
theorem dX10_divides_46 : decode cX10_divides 46 = .ok (.invokevirtual 229, 3) := by decide +kernel
theorem dX10_divides_49 : decode cX10_divides 49 = .ok (.iinc 1 1, 3) := by decide +kernel
theorem dX10_divides_52 : decode cX10_divides 52 = .ok (.goto (-16), 3) := by decide +kernel
theorem dX10_divides_55 : decode cX10_divides 55 = .ok (.aload_n 0, 1) := by decide +kernel
theorem dX10_divides_56 : decode cX10_divides 56 = .ok (.iload_n 1, 1) := by decide +kernel
theorem dX10_divides_57 : decode cX10_divides 57 = .ok (.invokevirtual 196, 3) := by decide +kernel
theorem dX10_divides_60 : decode cX10_divides 60 = .ok (.istore_n 2, 1) := by decide +kernel
theorem dX10_divides_61 : decode cX10_divides 61 = .ok (.iload_n 2, 1) := by decide +kernel
theorem dX10_divides_62 : decode cX10_divides 62 = .ok (.ifCond .ge 5, 3) := by decide +kernel
theorem dX10_divides_65 : decode cX10_divides 65 = .ok (.iload_n 2, 1) := by decide +kernel
theorem dX10_divides_66 : decode cX10_divides 66 = .ok (.ireturn, 1) := by decide +kernel
theorem dX10_divides_67 : decode cX10_divides 67 = .ok (.aload_n 0, 1) := by decide +kernel
theorem dX10_divides_68 : decode cX10_divides 68 = .ok (.getfield 9, 3) := by decide +kernel
theorem dX10_divides_71 : decode cX10_divides 71 = .ok (.iconst 2, 1) := by decide +kernel
theorem dX10_divides_72 : decode cX10_divides 72 = .ok (.lconst 1, 1) := by decide +kernel
theorem dX10_divides_73 : decode cX10_divides 73 = .ok (.lastore, 1) := by decide +kernel
theorem dX10_divides_74 : decode cX10_divides 74 = .ok (.aload_n 0, 1) := by decide +kernel
theorem dX10_divides_75 : decode cX10_divides 75 = .ok (.iconst 0, 1) := by decide +kernel
theorem dX10_divides_76 : decode cX10_divides 76 = .ok (.putfield 219, 3) := by decide +kernel
theorem dX10_divides_79 : decode cX10_divides 79 = .ok (.iconst 0, 1) := by decide +kernel
theorem dX10_divides_80 : decode cX10_divides 80 = .ok (.istore_n 3, 1) := by decide +kernel
theorem dX10_divides_81 : decode cX10_divides 81 = .ok (.iload_n 3, 1) := by decide +kernel
theorem dX10_divides_82 : decode cX10_divides 82 = .ok (.aload_n 0, 1) := by decide +kernel
theorem dX10_divides_83 : decode cX10_divides 83 = .ok (.invokevirtual 75, 3) := by decide +kernel
theorem dX10_divides_86 : decode cX10_divides 86 = .ok (.if_icmp .ge 63, 3) := by decide +kernel
theorem dX10_divides_89 : decode cX10_divides 89 = .ok (.iconst 0, 1) := by decide +kernel
theorem dX10_divides_90 : decode cX10_divides 90 = .ok (.istore 4, 2) := by decide +kernel
theorem dX10_divides_92 : decode cX10_divides 92 = .ok (.iload 4, 2) := by decide +kernel
theorem dX10_divides_94 : decode cX10_divides 94 = .ok (.i2l, 1) := by decide +kernel
theorem dX10_divides_95 : decode cX10_divides 95 = .ok (.ldc2_w 69, 3) := by decide +kernel
theorem dX10_divides_98 : decode cX10_divides 98 = .ok (.aload_n 0, 1) := by decide +kernel
theorem dX10_divides_99 : decode cX10_divides 99 = .ok (.getfield 9, 3) := by decide +kernel
theorem dX10_divides_102 : decode cX10_divides 102 = .ok (.sipush 165, 3) := by decide +kernel
theorem dX10_divides_105 : decode cX10_divides 105 = .ok (.iload_n 3, 1) := by decide +kernel
theorem dX10_divides_106 : decode cX10_divides 106 = .ok (.iadd, 1) := by decide +kernel
theorem dX10_divides_107 : decode cX10_divides 107 = .ok (.laload, 1) := by decide +kernel
theorem dX10_divides_108 : decode cX10_divides 108 = .ok (.lmul, 1) := by decide +kernel
theorem dX10_divides_109 : decode cX10_divides 109 = .ok (.lcmp, 1) := by decide +kernel
theorem dX10_divides_110 : decode cX10_divides 110 = .ok (.ifCond .ge 33, 3) := by decide +kernel
theorem dX10_divides_113 : decode cX10_divides 113 = .ok (.aload_n 0, 1) := by decide +kernel
theorem dX10_divides_114 : decode cX10_divides 114 = .ok (.aload_n 0, 1) := by decide +kernel
theorem dX10_divides_115 : decode cX10_divides 115 = .ok (.getfield 9, 3) := by decide +kernel
theorem dX10_divides_118 : decode cX10_divides 118 = .ok (.sipush 170, 3) := by decide +kernel
theorem dX10_divides_121 : decode cX10_divides 121 = .ok (.bipush 8, 2) := by decide +kernel
theorem dX10_divides_123 : decode cX10_divides 123 = .ok (.iload_n 3, 1) := by decide +kernel
theorem dX10_divides_124 : decode cX10_divides 124 = .ok (.imul, 1) := by decide +kernel
theorem dX10_divides_125 : decode cX10_divides 125 = .ok (.iadd, 1) := by decide +kernel
theorem dX10_divides_126 : decode cX10_divides 126 = .ok (.iconst 2, 1) := by decide +kernel
theorem dX10_divides_127 : decode cX10_divides 127 = .ok (.iload 4, 2) := by decide +kernel
theorem dX10_divides_129 : decode cX10_divides 129 = .ok (.imul, 1) := by decide +kernel
theorem dX10_divides_130 : decode cX10_divides 130 = .ok (.iadd, 1) := by decide +kernel
theorem dX10_divides_131 : decode cX10_divides 131 = .ok (.iconst 1, 1) := by decide +kernel
theorem dX10_divides_132 : decode cX10_divides 132 = .ok (.iadd, 1) := by decide +kernel
theorem dX10_divides_133 : decode cX10_divides 133 = .ok (.laload, 1) := by decide +kernel
theorem dX10_divides_134 : decode cX10_divides 134 = .ok (.invokevirtual 232, 3) := by decide +kernel
theorem dX10_divides_137 : decode cX10_divides 137 = .ok (.iinc 4 1, 3) := by decide +kernel
theorem dX10_divides_140 : decode cX10_divides 140 = .ok (.goto (-48), 3) := by decide +kernel
theorem dX10_divides_143 : decode cX10_divides 143 = .ok (.iinc 3 1, 3) := by decide +kernel
theorem dX10_divides_146 : decode cX10_divides 146 = .ok (.goto (-65), 3) := by decide +kernel
theorem dX10_divides_149 : decode cX10_divides 149 = .ok (.aload_n 0, 1) := by decide +kernel
theorem dX10_divides_150 : decode cX10_divides 150 = .ok (.getfield 219, 3) := by decide +kernel
theorem dX10_divides_153 : decode cX10_divides 153 = .ok (.ifCond .eq 14, 3) := by decide +kernel
theorem dX10_divides_156 : decode cX10_divides 156 = .ok (.aload_n 0, 1) := by decide +kernel
theorem dX10_divides_157 : decode cX10_divides 157 = .ok (.getfield 15, 3) := by decide +kernel
theorem dX10_divides_160 : decode cX10_divides 160 = .ok (.aload_n 0, 1) := by decide +kernel
theorem dX10_divides_161 : decode cX10_divides 161 = .ok (.getfield 9, 3) := by decide +kernel
theorem dX10_divides_164 : decode cX10_divides 164 = .ok (.invokestatic 189, 3) := by decide +kernel
theorem dX10_divides_167 : decode cX10_divides 167 = .ok (.aload_n 0, 1) := by decide +kernel
theorem dX10_divides_168 : decode cX10_divides 168 = .ok (.getfield 219, 3) := by decide +kernel
theorem dX10_divides_171 : decode cX10_divides 171 = .ok (.ifCond .eq 8, 3) := by decide +kernel
theorem dX10_divides_174 : decode cX10_divides 174 = .ok (.bipush (-3), 2) := by decide +kernel
theorem dX10_divides_176 : decode cX10_divides 176 = .ok (.goto 4, 3) := by decide +kernel
theorem dX10_divides_179 : decode cX10_divides 179 = .ok (.iload_n 1, 1) := by decide +kernel
theorem dX10_divides_180 : decode cX10_divides 180 = .ok (.ireturn, 1) := by decide +kernel
theorem dX10_ordered_0 : decode cX10_ordered 0 = .ok (.aload_n 0, 1) := by decide +kernel
theorem dX10_ordered_1 : decode cX10_ordered 1 = .ok (.getfield 236, 3) := by decide +kernel
theorem dX10_ordered_4 : decode cX10_ordered 4 = .ok (.iload_n 1, 1) := by decide +kernel
theorem dX10_ordered_5 : decode cX10_ordered 5 = .ok (.iadd, 1) := by decide +kernel
theorem dX10_ordered_6 : decode cX10_ordered 6 = .ok (.aload_n 0, 1) := by decide +kernel
theorem dX10_ordered_7 : decode cX10_ordered 7 = .ok (.invokevirtual 75, 3) := by decide +kernel
theorem dX10_ordered_10 : decode cX10_ordered 10 = .ok (.irem, 1) := by decide +kernel
theorem dX10_ordered_11 : decode cX10_ordered 11 = .ok (.ireturn, 1) := by decide +kernel
theorem dX10_happens_0 : decode cX10_happens 0 = .ok (.sipush 210, 3) := by decide +kernel
theorem dX10_happens_3 : decode cX10_happens 3 = .ok (.bipush 6, 2) := by decide +kernel
theorem dX10_happens_5 : decode cX10_happens 5 = .ok (.aload_n 0, 1) := by decide +kernel
theorem dX10_happens_6 : decode cX10_happens 6 = .ok (.getfield 9, 3) := by decide +kernel
theorem dX10_happens_9 : decode cX10_happens 9 = .ok (.iconst 4, 1) := by decide +kernel
theorem dX10_happens_10 : decode cX10_happens 10 = .ok (.laload, 1) := by decide +kernel
theorem dX10_happens_11 : decode cX10_happens 11 = .ok (.l2i, 1) := by decide +kernel
theorem dX10_happens_12 : decode cX10_happens 12 = .ok (.imul, 1) := by decide +kernel
theorem dX10_happens_13 : decode cX10_happens 13 = .ok (.iadd, 1) := by decide +kernel
theorem dX10_happens_14 : decode cX10_happens 14 = .ok (.istore 11, 2) := by decide +kernel
theorem dX10_happens_16 : decode cX10_happens 16 = .ok (.aload_n 0, 1) := by decide +kernel
theorem dX10_happens_17 : decode cX10_happens 17 = .ok (.getfield 9, 3) := by decide +kernel
theorem dX10_happens_20 : decode cX10_happens 20 = .ok (.iload 11, 2) := by decide +kernel
theorem dX10_happens_22 : decode cX10_happens 22 = .ok (.iload_n 1, 1) := by decide +kernel
theorem dX10_happens_23 : decode cX10_happens 23 = .ok (.i2l, 1) := by decide +kernel
theorem dX10_happens_24 : decode cX10_happens 24 = .ok (.lastore, 1) := by decide +kernel
theorem dX10_happens_25 : decode cX10_happens 25 = .ok (.aload_n 0, 1) := by decide +kernel
theorem dX10_happens_26 : decode cX10_happens 26 = .ok (.getfield 9, 3) := by decide +kernel
theorem dX10_happens_29 : decode cX10_happens 29 = .ok (.iload 11, 2) := by decide +kernel
theorem dX10_happens_31 : decode cX10_happens 31 = .ok (.iconst 1, 1) := by decide +kernel
theorem dX10_happens_32 : decode cX10_happens 32 = .ok (.iadd, 1) := by decide +kernel
theorem dX10_happens_33 : decode cX10_happens 33 = .ok (.iload_n 2, 1) := by decide +kernel
theorem dX10_happens_34 : decode cX10_happens 34 = .ok (.i2l, 1) := by decide +kernel
theorem dX10_happens_35 : decode cX10_happens 35 = .ok (.lastore, 1) := by decide +kernel
theorem dX10_happens_36 : decode cX10_happens 36 = .ok (.aload_n 0, 1) := by decide +kernel
theorem dX10_happens_37 : decode cX10_happens 37 = .ok (.getfield 9, 3) := by decide +kernel
theorem dX10_happens_40 : decode cX10_happens 40 = .ok (.iload 11, 2) := by decide +kernel
theorem dX10_happens_42 : decode cX10_happens 42 = .ok (.iconst 2, 1) := by decide +kernel
theorem dX10_happens_43 : decode cX10_happens 43 = .ok (.iadd, 1) := by decide +kernel
theorem dX10_happens_44 : decode cX10_happens 44 = .ok (.lload_n 3, 1) := by decide +kernel
theorem dX10_happens_45 : decode cX10_happens 45 = .ok (.lastore, 1) := by decide +kernel
theorem dX10_happens_46 : decode cX10_happens 46 = .ok (.aload_n 0, 1) := by decide +kernel
theorem dX10_happens_47 : decode cX10_happens 47 = .ok (.getfield 9, 3) := by decide +kernel
theorem dX10_happens_50 : decode cX10_happens 50 = .ok (.iload 11, 2) := by decide +kernel
theorem dX10_happens_52 : decode cX10_happens 52 = .ok (.iconst 3, 1) := by decide +kernel
theorem dX10_happens_53 : decode cX10_happens 53 = .ok (.iadd, 1) := by decide +kernel
theorem dX10_happens_54 : decode cX10_happens 54 = .ok (.lload 5, 2) := by decide +kernel
theorem dX10_happens_56 : decode cX10_happens 56 = .ok (.lastore, 1) := by decide +kernel
theorem dX10_happens_57 : decode cX10_happens 57 = .ok (.aload_n 0, 1) := by decide +kernel
theorem dX10_happens_58 : decode cX10_happens 58 = .ok (.getfield 9, 3) := by decide +kernel
theorem dX10_happens_61 : decode cX10_happens 61 = .ok (.iload 11, 2) := by decide +kernel
theorem dX10_happens_63 : decode cX10_happens 63 = .ok (.iconst 4, 1) := by decide +kernel
theorem dX10_happens_64 : decode cX10_happens 64 = .ok (.iadd, 1) := by decide +kernel
theorem dX10_happens_65 : decode cX10_happens 65 = .ok (.lload 7, 2) := by decide +kernel
theorem dX10_happens_67 : decode cX10_happens 67 = .ok (.lastore, 1) := by decide +kernel
theorem dX10_happens_68 : decode cX10_happens 68 = .ok (.aload_n 0, 1) := by decide +kernel
theorem dX10_happens_69 : decode cX10_happens 69 = .ok (.getfield 9, 3) := by decide +kernel
theorem dX10_happens_72 : decode cX10_happens 72 = .ok (.iload 11, 2) := by decide +kernel
theorem dX10_happens_74 : decode cX10_happens 74 = .ok (.iconst 5, 1) := by decide +kernel
theorem dX10_happens_75 : decode cX10_happens 75 = .ok (.iadd, 1) := by decide +kernel
theorem dX10_happens_76 : decode cX10_happens 76 = .ok (.lload 9, 2) := by decide +kernel
theorem dX10_happens_78 : decode cX10_happens 78 = .ok (.lastore, 1) := by decide +kernel
theorem dX10_happens_79 : decode cX10_happens 79 = .ok (.aload_n 0, 1) := by decide +kernel
theorem dX10_happens_80 : decode cX10_happens 80 = .ok (.getfield 9, 3) := by decide +kernel
theorem dX10_happens_83 : decode cX10_happens 83 = .ok (.iconst 4, 1) := by decide +kernel
theorem dX10_happens_84 : decode cX10_happens 84 = .ok (.dup2, 1) := by decide +kernel
theorem dX10_happens_85 : decode cX10_happens 85 = .ok (.laload, 1) := by decide +kernel
theorem dX10_happens_86 : decode cX10_happens 86 = .ok (.lconst 1, 1) := by decide +kernel
theorem dX10_happens_87 : decode cX10_happens 87 = .ok (.ladd, 1) := by decide +kernel
theorem dX10_happens_88 : decode cX10_happens 88 = .ok (.lastore, 1) := by decide +kernel
theorem dX10_happens_89 : decode cX10_happens 89 = .ok (.return_, 1) := by decide +kernel
theorem dX10_marksPoint_0 : decode cX10_marksPoint 0 = .ok (.aload_n 0, 1) := by decide +kernel
theorem dX10_marksPoint_1 : decode cX10_marksPoint 1 = .ok (.iload_n 1, 1) := by decide +kernel
theorem dX10_marksPoint_2 : decode cX10_marksPoint 2 = .ok (.lload_n 2, 1) := by decide +kernel
theorem dX10_marksPoint_3 : decode cX10_marksPoint 3 = .ok (.lload 4, 2) := by decide +kernel
theorem dX10_marksPoint_5 : decode cX10_marksPoint 5 = .ok (.lload 6, 2) := by decide +kernel
theorem dX10_marksPoint_7 : decode cX10_marksPoint 7 = .ok (.lload 8, 2) := by decide +kernel
theorem dX10_marksPoint_9 : decode cX10_marksPoint 9 = .ok (.invokevirtual 132, 3) := by decide +kernel
theorem dX10_marksPoint_12 : decode cX10_marksPoint 12 = .ok (.pop, 1) := by decide +kernel
theorem dX10_marksPoint_13 : decode cX10_marksPoint 13 = .ok (.aload_n 0, 1) := by decide +kernel
theorem dX10_marksPoint_14 : decode cX10_marksPoint 14 = .ok (.getfield 25, 3) := by decide +kernel
theorem dX10_marksPoint_17 : decode cX10_marksPoint 17 = .ok (.iload_n 1, 1) := by decide +kernel
theorem dX10_marksPoint_18 : decode cX10_marksPoint 18 = .ok (.aload_n 0, 1) := by decide +kernel
theorem dX10_marksPoint_19 : decode cX10_marksPoint 19 = .ok (.getfield 99, 3) := by decide +kernel
theorem dX10_marksPoint_22 : decode cX10_marksPoint 22 = .ok (.lastore, 1) := by decide +kernel
theorem dX10_marksPoint_23 : decode cX10_marksPoint 23 = .ok (.aload_n 0, 1) := by decide +kernel
theorem dX10_marksPoint_24 : decode cX10_marksPoint 24 = .ok (.getfield 28, 3) := by decide +kernel
theorem dX10_marksPoint_27 : decode cX10_marksPoint 27 = .ok (.iload_n 1, 1) := by decide +kernel
theorem dX10_marksPoint_28 : decode cX10_marksPoint 28 = .ok (.aload_n 0, 1) := by decide +kernel
theorem dX10_marksPoint_29 : decode cX10_marksPoint 29 = .ok (.getfield 103, 3) := by decide +kernel
theorem dX10_marksPoint_32 : decode cX10_marksPoint 32 = .ok (.lastore, 1) := by decide +kernel
theorem dX10_marksPoint_33 : decode cX10_marksPoint 33 = .ok (.aload_n 0, 1) := by decide +kernel
theorem dX10_marksPoint_34 : decode cX10_marksPoint 34 = .ok (.aload_n 0, 1) := by decide +kernel
theorem dX10_marksPoint_35 : decode cX10_marksPoint 35 = .ok (.getfield 103, 3) := by decide +kernel
theorem dX10_marksPoint_38 : decode cX10_marksPoint 38 = .ok (.invokevirtual 232, 3) := by decide +kernel
theorem dX10_marksPoint_41 : decode cX10_marksPoint 41 = .ok (.iload 10, 2) := by decide +kernel
theorem dX10_marksPoint_43 : decode cX10_marksPoint 43 = .ok (.ifCond .eq 26, 3) := by decide +kernel
theorem dX10_marksPoint_46 : decode cX10_marksPoint 46 = .ok (.aload_n 0, 1) := by decide +kernel
theorem dX10_marksPoint_47 : decode cX10_marksPoint 47 = .ok (.getfield 219, 3) := by decide +kernel
theorem dX10_marksPoint_50 : decode cX10_marksPoint 50 = .ok (.ifCond .ne 19, 3) := by decide +kernel
theorem dX10_marksPoint_53 : decode cX10_marksPoint 53 = .ok (.aload_n 0, 1) := by decide +kernel
theorem dX10_marksPoint_54 : decode cX10_marksPoint 54 = .ok (.iconst 0, 1) := by decide +kernel
theorem dX10_marksPoint_55 : decode cX10_marksPoint 55 = .ok (.iload_n 1, 1) := by decide +kernel
theorem dX10_marksPoint_56 : decode cX10_marksPoint 56 = .ok (.aload_n 0, 1) := by decide +kernel
theorem dX10_marksPoint_57 : decode cX10_marksPoint 57 = .ok (.getfield 99, 3) := by decide +kernel
theorem dX10_marksPoint_60 : decode cX10_marksPoint 60 = .ok (.aload_n 0, 1) := by decide +kernel
theorem dX10_marksPoint_61 : decode cX10_marksPoint 61 = .ok (.getfield 103, 3) := by decide +kernel
theorem dX10_marksPoint_64 : decode cX10_marksPoint 64 = .ok (.lconst 0, 1) := by decide +kernel
theorem dX10_marksPoint_65 : decode cX10_marksPoint 65 = .ok (.lconst 1, 1) := by decide +kernel
theorem dX10_marksPoint_66 : decode cX10_marksPoint 66 = .ok (.invokevirtual 239, 3) := by decide +kernel
theorem dX10_marksPoint_69 : decode cX10_marksPoint 69 = .ok (.return_, 1) := by decide +kernel
theorem dX10_takes_0 : decode cX10_takes 0 = .ok (.aload_n 0, 1) := by decide +kernel
theorem dX10_takes_1 : decode cX10_takes 1 = .ok (.iconst 3, 1) := by decide +kernel
theorem dX10_takes_2 : decode cX10_takes 2 = .ok (.iload_n 1, 1) := by decide +kernel
theorem dX10_takes_3 : decode cX10_takes 3 = .ok (.lload_n 2, 1) := by decide +kernel
theorem dX10_takes_4 : decode cX10_takes 4 = .ok (.lload 4, 2) := by decide +kernel
theorem dX10_takes_6 : decode cX10_takes 6 = .ok (.lload 6, 2) := by decide +kernel
theorem dX10_takes_8 : decode cX10_takes 8 = .ok (.lload 8, 2) := by decide +kernel
theorem dX10_takes_10 : decode cX10_takes 10 = .ok (.invokevirtual 239, 3) := by decide +kernel
theorem dX10_takes_13 : decode cX10_takes 13 = .ok (.aload_n 0, 1) := by decide +kernel
theorem dX10_takes_14 : decode cX10_takes 14 = .ok (.iload_n 1, 1) := by decide +kernel
theorem dX10_takes_15 : decode cX10_takes 15 = .ok (.lload_n 2, 1) := by decide +kernel
theorem dX10_takes_16 : decode cX10_takes 16 = .ok (.lload 4, 2) := by decide +kernel
theorem dX10_takes_18 : decode cX10_takes 18 = .ok (.lload 6, 2) := by decide +kernel
theorem dX10_takes_20 : decode cX10_takes 20 = .ok (.lload 8, 2) := by decide +kernel
theorem dX10_takes_22 : decode cX10_takes 22 = .ok (.invokevirtual 209, 3) := by decide +kernel
theorem dX10_takes_25 : decode cX10_takes 25 = .ok (.return_, 1) := by decide +kernel
theorem dX10_ends_0 : decode cX10_ends 0 = .ok (.aload_n 0, 1) := by decide +kernel
theorem dX10_ends_1 : decode cX10_ends 1 = .ok (.getfield 9, 3) := by decide +kernel
theorem dX10_ends_4 : decode cX10_ends 4 = .ok (.iconst 0, 1) := by decide +kernel
theorem dX10_ends_5 : decode cX10_ends 5 = .ok (.laload, 1) := by decide +kernel
theorem dX10_ends_6 : decode cX10_ends 6 = .ok (.lreturn, 1) := by decide +kernel
theorem dX10_chooses_0 : decode cX10_chooses 0 = .ok (.aload_n 0, 1) := by decide +kernel
theorem dX10_chooses_1 : decode cX10_chooses 1 = .ok (.iconst 0, 1) := by decide +kernel
theorem dX10_chooses_2 : decode cX10_chooses 2 = .ok (.invokevirtual 242, 3) := by decide +kernel
theorem dX10_chooses_5 : decode cX10_chooses 5 = .ok (.istore_n 1, 1) := by decide +kernel
theorem dX10_chooses_6 : decode cX10_chooses 6 = .ok (.aload_n 0, 1) := by decide +kernel
theorem dX10_chooses_7 : decode cX10_chooses 7 = .ok (.iconst 1, 1) := by decide +kernel
theorem dX10_chooses_8 : decode cX10_chooses 8 = .ok (.invokevirtual 242, 3) := by decide +kernel
theorem dX10_chooses_11 : decode cX10_chooses 11 = .ok (.istore_n 2, 1) := by decide +kernel
theorem dX10_chooses_12 : decode cX10_chooses 12 = .ok (.aload_n 0, 1) := by decide +kernel
theorem dX10_chooses_13 : decode cX10_chooses 13 = .ok (.iload_n 1, 1) := by decide +kernel
theorem dX10_chooses_14 : decode cX10_chooses 14 = .ok (.lconst 0, 1) := by decide +kernel
theorem dX10_chooses_15 : decode cX10_chooses 15 = .ok (.lconst 1, 1) := by decide +kernel
theorem dX10_chooses_16 : decode cX10_chooses 16 = .ok (.aload_n 0, 1) := by decide +kernel
theorem dX10_chooses_17 : decode cX10_chooses 17 = .ok (.iload_n 1, 1) := by decide +kernel
theorem dX10_chooses_18 : decode cX10_chooses 18 = .ok (.iconst 1, 1) := by decide +kernel
theorem dX10_chooses_19 : decode cX10_chooses 19 = .ok (.invokevirtual 128, 3) := by decide +kernel
theorem dX10_chooses_22 : decode cX10_chooses 22 = .ok (.ldc2_w 69, 3) := by decide +kernel
theorem dX10_chooses_25 : decode cX10_chooses 25 = .ok (.iconst 1, 1) := by decide +kernel
theorem dX10_chooses_26 : decode cX10_chooses 26 = .ok (.invokevirtual 245, 3) := by decide +kernel
theorem dX10_chooses_29 : decode cX10_chooses 29 = .ok (.aload_n 0, 1) := by decide +kernel
theorem dX10_chooses_30 : decode cX10_chooses 30 = .ok (.getfield 219, 3) := by decide +kernel
theorem dX10_chooses_33 : decode cX10_chooses 33 = .ok (.ifCond .eq 4, 3) := by decide +kernel
theorem dX10_chooses_36 : decode cX10_chooses 36 = .ok (.return_, 1) := by decide +kernel
theorem dX10_chooses_37 : decode cX10_chooses 37 = .ok (.aload_n 0, 1) := by decide +kernel
theorem dX10_chooses_38 : decode cX10_chooses 38 = .ok (.getfield 25, 3) := by decide +kernel
theorem dX10_chooses_41 : decode cX10_chooses 41 = .ok (.iload_n 1, 1) := by decide +kernel
theorem dX10_chooses_42 : decode cX10_chooses 42 = .ok (.laload, 1) := by decide +kernel
theorem dX10_chooses_43 : decode cX10_chooses 43 = .ok (.lstore_n 3, 1) := by decide +kernel
theorem dX10_chooses_44 : decode cX10_chooses 44 = .ok (.aload_n 0, 1) := by decide +kernel
theorem dX10_chooses_45 : decode cX10_chooses 45 = .ok (.getfield 28, 3) := by decide +kernel
theorem dX10_chooses_48 : decode cX10_chooses 48 = .ok (.iload_n 1, 1) := by decide +kernel
theorem dX10_chooses_49 : decode cX10_chooses 49 = .ok (.laload, 1) := by decide +kernel
theorem dX10_chooses_50 : decode cX10_chooses 50 = .ok (.lstore 5, 2) := by decide +kernel
theorem dX10_chooses_52 : decode cX10_chooses 52 = .ok (.aload_n 0, 1) := by decide +kernel
theorem dX10_chooses_53 : decode cX10_chooses 53 = .ok (.iload_n 2, 1) := by decide +kernel
theorem dX10_chooses_54 : decode cX10_chooses 54 = .ok (.iconst 1, 1) := by decide +kernel
theorem dX10_chooses_55 : decode cX10_chooses 55 = .ok (.lconst 0, 1) := by decide +kernel
theorem dX10_chooses_56 : decode cX10_chooses 56 = .ok (.lconst 1, 1) := by decide +kernel
theorem dX10_chooses_57 : decode cX10_chooses 57 = .ok (.lload_n 3, 1) := by decide +kernel
theorem dX10_chooses_58 : decode cX10_chooses 58 = .ok (.lload 5, 2) := by decide +kernel
theorem dX10_chooses_60 : decode cX10_chooses 60 = .ok (.invokevirtual 118, 3) := by decide +kernel
theorem dX10_chooses_63 : decode cX10_chooses 63 = .ok (.aload_n 0, 1) := by decide +kernel
theorem dX10_chooses_64 : decode cX10_chooses 64 = .ok (.getfield 99, 3) := by decide +kernel
theorem dX10_chooses_67 : decode cX10_chooses 67 = .ok (.lstore 7, 2) := by decide +kernel
theorem dX10_chooses_69 : decode cX10_chooses 69 = .ok (.aload_n 0, 1) := by decide +kernel
theorem dX10_chooses_70 : decode cX10_chooses 70 = .ok (.getfield 103, 3) := by decide +kernel
theorem dX10_chooses_73 : decode cX10_chooses 73 = .ok (.lstore 9, 2) := by decide +kernel
theorem dX10_chooses_75 : decode cX10_chooses 75 = .ok (.aload_n 0, 1) := by decide +kernel
theorem dX10_chooses_76 : decode cX10_chooses 76 = .ok (.iload_n 2, 1) := by decide +kernel
theorem dX10_chooses_77 : decode cX10_chooses 77 = .ok (.iconst 1, 1) := by decide +kernel
theorem dX10_chooses_78 : decode cX10_chooses 78 = .ok (.lload_n 3, 1) := by decide +kernel
theorem dX10_chooses_79 : decode cX10_chooses 79 = .ok (.lload 5, 2) := by decide +kernel
theorem dX10_chooses_81 : decode cX10_chooses 81 = .ok (.aload_n 0, 1) := by decide +kernel
theorem dX10_chooses_82 : decode cX10_chooses 82 = .ok (.invokevirtual 249, 3) := by decide +kernel
theorem dX10_chooses_85 : decode cX10_chooses 85 = .ok (.lconst 1, 1) := by decide +kernel
theorem dX10_chooses_86 : decode cX10_chooses 86 = .ok (.invokevirtual 118, 3) := by decide +kernel
theorem dX10_chooses_89 : decode cX10_chooses 89 = .ok (.lload 7, 2) := by decide +kernel
theorem dX10_chooses_91 : decode cX10_chooses 91 = .ok (.lload 9, 2) := by decide +kernel
theorem dX10_chooses_93 : decode cX10_chooses 93 = .ok (.aload_n 0, 1) := by decide +kernel
theorem dX10_chooses_94 : decode cX10_chooses 94 = .ok (.getfield 99, 3) := by decide +kernel
theorem dX10_chooses_97 : decode cX10_chooses 97 = .ok (.aload_n 0, 1) := by decide +kernel
theorem dX10_chooses_98 : decode cX10_chooses 98 = .ok (.getfield 103, 3) := by decide +kernel
theorem dX10_chooses_101 : decode cX10_chooses 101 = .ok (.invokestatic 199, 3) := by decide +kernel
theorem dX10_chooses_104 : decode cX10_chooses 104 = .ok (.istore 11, 2) := by decide +kernel
theorem dX10_chooses_106 : decode cX10_chooses 106 = .ok (.aload_n 0, 1) := by decide +kernel
theorem dX10_chooses_107 : decode cX10_chooses 107 = .ok (.iload_n 2, 1) := by decide +kernel
theorem dX10_chooses_108 : decode cX10_chooses 108 = .ok (.iload 11, 2) := by decide +kernel
theorem dX10_chooses_110 : decode cX10_chooses 110 = .ok (.ifCond .eq 7, 3) := by decide +kernel
theorem dX10_chooses_113 : decode cX10_chooses 113 = .ok (.lload_n 3, 1) := by decide +kernel
theorem dX10_chooses_114 : decode cX10_chooses 114 = .ok (.goto 4, 3) := by decide +kernel
theorem dX10_chooses_117 : decode cX10_chooses 117 = .ok (.lconst 0, 1) := by decide +kernel
theorem dX10_chooses_118 : decode cX10_chooses 118 = .ok (.iload 11, 2) := by decide +kernel
theorem dX10_chooses_120 : decode cX10_chooses 120 = .ok (.ifCond .eq 8, 3) := by decide +kernel
theorem dX10_chooses_123 : decode cX10_chooses 123 = .ok (.lload 5, 2) := by decide +kernel
theorem dX10_chooses_125 : decode cX10_chooses 125 = .ok (.goto 4, 3) := by decide +kernel
theorem dX10_chooses_128 : decode cX10_chooses 128 = .ok (.lconst 1, 1) := by decide +kernel
theorem dX10_chooses_129 : decode cX10_chooses 129 = .ok (.iload 11, 2) := by decide +kernel
theorem dX10_chooses_131 : decode cX10_chooses 131 = .ok (.ifCond .eq 10, 3) := by decide +kernel
theorem dX10_chooses_134 : decode cX10_chooses 134 = .ok (.aload_n 0, 1) := by decide +kernel
theorem dX10_chooses_135 : decode cX10_chooses 135 = .ok (.invokevirtual 249, 3) := by decide +kernel
theorem dX10_chooses_138 : decode cX10_chooses 138 = .ok (.goto 4, 3) := by decide +kernel
theorem dX10_chooses_141 : decode cX10_chooses 141 = .ok (.lload_n 3, 1) := by decide +kernel
theorem dX10_chooses_142 : decode cX10_chooses 142 = .ok (.iload 11, 2) := by decide +kernel
theorem dX10_chooses_144 : decode cX10_chooses 144 = .ok (.ifCond .eq 7, 3) := by decide +kernel
theorem dX10_chooses_147 : decode cX10_chooses 147 = .ok (.lconst 1, 1) := by decide +kernel
theorem dX10_chooses_148 : decode cX10_chooses 148 = .ok (.goto 5, 3) := by decide +kernel
theorem dX10_chooses_151 : decode cX10_chooses 151 = .ok (.lload 5, 2) := by decide +kernel
theorem dX10_chooses_153 : decode cX10_chooses 153 = .ok (.invokevirtual 253, 3) := by decide +kernel
theorem dX10_chooses_156 : decode cX10_chooses 156 = .ok (.aload_n 0, 1) := by decide +kernel
theorem dX10_chooses_157 : decode cX10_chooses 157 = .ok (.iload_n 1, 1) := by decide +kernel
theorem dX10_chooses_158 : decode cX10_chooses 158 = .ok (.iload 11, 2) := by decide +kernel
theorem dX10_chooses_160 : decode cX10_chooses 160 = .ok (.ifCond .eq 7, 3) := by decide +kernel
theorem dX10_chooses_163 : decode cX10_chooses 163 = .ok (.lconst 0, 1) := by decide +kernel
theorem dX10_chooses_164 : decode cX10_chooses 164 = .ok (.goto 4, 3) := by decide +kernel
theorem dX10_chooses_167 : decode cX10_chooses 167 = .ok (.lload_n 3, 1) := by decide +kernel
theorem dX10_chooses_168 : decode cX10_chooses 168 = .ok (.iload 11, 2) := by decide +kernel
theorem dX10_chooses_170 : decode cX10_chooses 170 = .ok (.ifCond .eq 7, 3) := by decide +kernel
theorem dX10_chooses_173 : decode cX10_chooses 173 = .ok (.lconst 1, 1) := by decide +kernel
theorem dX10_chooses_174 : decode cX10_chooses 174 = .ok (.goto 5, 3) := by decide +kernel
theorem dX10_chooses_177 : decode cX10_chooses 177 = .ok (.lload 5, 2) := by decide +kernel
theorem dX10_chooses_179 : decode cX10_chooses 179 = .ok (.iload 11, 2) := by decide +kernel
theorem dX10_chooses_181 : decode cX10_chooses 181 = .ok (.ifCond .eq 7, 3) := by decide +kernel
theorem dX10_chooses_184 : decode cX10_chooses 184 = .ok (.lload_n 3, 1) := by decide +kernel
theorem dX10_chooses_185 : decode cX10_chooses 185 = .ok (.goto 7, 3) := by decide +kernel
theorem dX10_chooses_188 : decode cX10_chooses 188 = .ok (.aload_n 0, 1) := by decide +kernel
theorem dX10_chooses_189 : decode cX10_chooses 189 = .ok (.invokevirtual 249, 3) := by decide +kernel
theorem dX10_chooses_192 : decode cX10_chooses 192 = .ok (.iload 11, 2) := by decide +kernel
theorem dX10_chooses_194 : decode cX10_chooses 194 = .ok (.ifCond .eq 8, 3) := by decide +kernel
theorem dX10_chooses_197 : decode cX10_chooses 197 = .ok (.lload 5, 2) := by decide +kernel
theorem dX10_chooses_199 : decode cX10_chooses 199 = .ok (.goto 4, 3) := by decide +kernel
theorem dX10_chooses_202 : decode cX10_chooses 202 = .ok (.lconst 1, 1) := by decide +kernel
theorem dX10_chooses_203 : decode cX10_chooses 203 = .ok (.invokevirtual 253, 3) := by decide +kernel
theorem dX10_chooses_206 : decode cX10_chooses 206 = .ok (.return_, 1) := by decide +kernel
theorem dX10_lastOf_0 : decode cX10_lastOf 0 = .ok (.iconst (-1), 1) := by decide +kernel
theorem dX10_lastOf_1 : decode cX10_lastOf 1 = .ok (.istore_n 2, 1) := by decide +kernel
theorem dX10_lastOf_2 : decode cX10_lastOf 2 = .ok (.iconst 0, 1) := by decide +kernel
theorem dX10_lastOf_3 : decode cX10_lastOf 3 = .ok (.istore_n 3, 1) := by decide +kernel
theorem dX10_lastOf_4 : decode cX10_lastOf 4 = .ok (.iload_n 3, 1) := by decide +kernel
theorem dX10_lastOf_5 : decode cX10_lastOf 5 = .ok (.aload_n 0, 1) := by decide +kernel
theorem dX10_lastOf_6 : decode cX10_lastOf 6 = .ok (.invokevirtual 75, 3) := by decide +kernel
theorem dX10_lastOf_9 : decode cX10_lastOf 9 = .ok (.if_icmp .ge 24, 3) := by decide +kernel
theorem dX10_lastOf_12 : decode cX10_lastOf 12 = .ok (.iload_n 1, 1) := by decide +kernel
theorem dX10_lastOf_13 : decode cX10_lastOf 13 = .ok (.iload_n 3, 1) := by decide +kernel
theorem dX10_lastOf_14 : decode cX10_lastOf 14 = .ok (.ishr, 1) := by decide +kernel
theorem dX10_lastOf_15 : decode cX10_lastOf 15 = .ok (.iconst 1, 1) := by decide +kernel
theorem dX10_lastOf_16 : decode cX10_lastOf 16 = .ok (.iand, 1) := by decide +kernel
theorem dX10_lastOf_17 : decode cX10_lastOf 17 = .ok (.iconst 1, 1) := by decide +kernel
theorem dX10_lastOf_18 : decode cX10_lastOf 18 = .ok (.if_icmp .ne 7, 3) := by decide +kernel
theorem dX10_lastOf_21 : decode cX10_lastOf 21 = .ok (.iload_n 3, 1) := by decide +kernel
theorem dX10_lastOf_22 : decode cX10_lastOf 22 = .ok (.goto 4, 3) := by decide +kernel
theorem dX10_lastOf_25 : decode cX10_lastOf 25 = .ok (.iload_n 2, 1) := by decide +kernel
theorem dX10_lastOf_26 : decode cX10_lastOf 26 = .ok (.istore_n 2, 1) := by decide +kernel
theorem dX10_lastOf_27 : decode cX10_lastOf 27 = .ok (.iinc 3 1, 3) := by decide +kernel
theorem dX10_lastOf_30 : decode cX10_lastOf 30 = .ok (.goto (-26), 3) := by decide +kernel
theorem dX10_lastOf_33 : decode cX10_lastOf 33 = .ok (.iload_n 2, 1) := by decide +kernel
theorem dX10_lastOf_34 : decode cX10_lastOf 34 = .ok (.ireturn, 1) := by decide +kernel
theorem dX10_knife_0 : decode cX10_knife 0 = .ok (.iconst 1, 1) := by decide +kernel
theorem dX10_knife_1 : decode cX10_knife 1 = .ok (.aload_n 0, 1) := by decide +kernel
theorem dX10_knife_2 : decode cX10_knife 2 = .ok (.invokevirtual 75, 3) := by decide +kernel
theorem dX10_knife_5 : decode cX10_knife 5 = .ok (.ishl, 1) := by decide +kernel
theorem dX10_knife_6 : decode cX10_knife 6 = .ok (.iconst 1, 1) := by decide +kernel
theorem dX10_knife_7 : decode cX10_knife 7 = .ok (.isub, 1) := by decide +kernel
theorem dX10_knife_8 : decode cX10_knife 8 = .ok (.istore_n 1, 1) := by decide +kernel
theorem dX10_knife_9 : decode cX10_knife 9 = .ok (.lconst 0, 1) := by decide +kernel
theorem dX10_knife_10 : decode cX10_knife 10 = .ok (.lstore_n 2, 1) := by decide +kernel
theorem dX10_knife_11 : decode cX10_knife 11 = .ok (.lconst 1, 1) := by decide +kernel
theorem dX10_knife_12 : decode cX10_knife 12 = .ok (.lstore 4, 2) := by decide +kernel
theorem dX10_knife_14 : decode cX10_knife 14 = .ok (.aload_n 0, 1) := by decide +kernel
theorem dX10_knife_15 : decode cX10_knife 15 = .ok (.invokevirtual 75, 3) := by decide +kernel
theorem dX10_knife_18 : decode cX10_knife 18 = .ok (.istore 6, 2) := by decide +kernel
theorem dX10_knife_20 : decode cX10_knife 20 = .ok (.iload 6, 2) := by decide +kernel
theorem dX10_knife_22 : decode cX10_knife 22 = .ok (.iconst 1, 1) := by decide +kernel
theorem dX10_knife_23 : decode cX10_knife 23 = .ok (.if_icmp .le 182, 3) := by decide +kernel
theorem dX10_knife_26 : decode cX10_knife 26 = .ok (.iconst (-1), 1) := by decide +kernel
theorem dX10_knife_27 : decode cX10_knife 27 = .ok (.istore 7, 2) := by decide +kernel
theorem dX10_knife_29 : decode cX10_knife 29 = .ok (.iconst 0, 1) := by decide +kernel
theorem dX10_knife_30 : decode cX10_knife 30 = .ok (.istore 8, 2) := by decide +kernel
theorem dX10_knife_32 : decode cX10_knife 32 = .ok (.iload 8, 2) := by decide +kernel
theorem dX10_knife_34 : decode cX10_knife 34 = .ok (.aload_n 0, 1) := by decide +kernel
theorem dX10_knife_35 : decode cX10_knife 35 = .ok (.invokevirtual 75, 3) := by decide +kernel
theorem dX10_knife_38 : decode cX10_knife 38 = .ok (.if_icmp .ge 104, 3) := by decide +kernel
theorem dX10_knife_41 : decode cX10_knife 41 = .ok (.aload_n 0, 1) := by decide +kernel
theorem dX10_knife_42 : decode cX10_knife 42 = .ok (.getfield 219, 3) := by decide +kernel
theorem dX10_knife_45 : decode cX10_knife 45 = .ok (.ifCond .ne 97, 3) := by decide +kernel
theorem dX10_knife_48 : decode cX10_knife 48 = .ok (.aload_n 0, 1) := by decide +kernel
theorem dX10_knife_49 : decode cX10_knife 49 = .ok (.iload 8, 2) := by decide +kernel
theorem dX10_knife_51 : decode cX10_knife 51 = .ok (.invokevirtual 242, 3) := by decide +kernel
theorem dX10_knife_54 : decode cX10_knife 54 = .ok (.istore 9, 2) := by decide +kernel
theorem dX10_knife_56 : decode cX10_knife 56 = .ok (.iload_n 1, 1) := by decide +kernel
theorem dX10_knife_57 : decode cX10_knife 57 = .ok (.iload 9, 2) := by decide +kernel
theorem dX10_knife_59 : decode cX10_knife 59 = .ok (.ishr, 1) := by decide +kernel
theorem dX10_knife_60 : decode cX10_knife 60 = .ok (.iconst 1, 1) := by decide +kernel
theorem dX10_knife_61 : decode cX10_knife 61 = .ok (.iand, 1) := by decide +kernel
theorem dX10_knife_62 : decode cX10_knife 62 = .ok (.iconst 1, 1) := by decide +kernel
theorem dX10_knife_63 : decode cX10_knife 63 = .ok (.if_icmp .ne 73, 3) := by decide +kernel
theorem dX10_knife_66 : decode cX10_knife 66 = .ok (.aload_n 0, 1) := by decide +kernel
theorem dX10_knife_67 : decode cX10_knife 67 = .ok (.iload 9, 2) := by decide +kernel
theorem dX10_knife_69 : decode cX10_knife 69 = .ok (.lload_n 2, 1) := by decide +kernel
theorem dX10_knife_70 : decode cX10_knife 70 = .ok (.lload 4, 2) := by decide +kernel
theorem dX10_knife_72 : decode cX10_knife 72 = .ok (.aload_n 0, 1) := by decide +kernel
theorem dX10_knife_73 : decode cX10_knife 73 = .ok (.iload 9, 2) := by decide +kernel
theorem dX10_knife_75 : decode cX10_knife 75 = .ok (.iconst 1, 1) := by decide +kernel
theorem dX10_knife_76 : decode cX10_knife 76 = .ok (.invokevirtual 128, 3) := by decide +kernel
theorem dX10_knife_79 : decode cX10_knife 79 = .ok (.aload_n 0, 1) := by decide +kernel
theorem dX10_knife_80 : decode cX10_knife 80 = .ok (.invokevirtual 75, 3) := by decide +kernel
theorem dX10_knife_83 : decode cX10_knife 83 = .ok (.i2l, 1) := by decide +kernel
theorem dX10_knife_84 : decode cX10_knife 84 = .ok (.iconst 1, 1) := by decide +kernel
theorem dX10_knife_85 : decode cX10_knife 85 = .ok (.invokevirtual 245, 3) := by decide +kernel
theorem dX10_knife_88 : decode cX10_knife 88 = .ok (.iload 7, 2) := by decide +kernel
theorem dX10_knife_90 : decode cX10_knife 90 = .ok (.ifCond .lt 37, 3) := by decide +kernel
theorem dX10_knife_93 : decode cX10_knife 93 = .ok (.aload_n 0, 1) := by decide +kernel
theorem dX10_knife_94 : decode cX10_knife 94 = .ok (.getfield 25, 3) := by decide +kernel
theorem dX10_knife_97 : decode cX10_knife 97 = .ok (.iload 9, 2) := by decide +kernel
theorem dX10_knife_99 : decode cX10_knife 99 = .ok (.laload, 1) := by decide +kernel
theorem dX10_knife_100 : decode cX10_knife 100 = .ok (.aload_n 0, 1) := by decide +kernel
theorem dX10_knife_101 : decode cX10_knife 101 = .ok (.getfield 28, 3) := by decide +kernel
theorem dX10_knife_104 : decode cX10_knife 104 = .ok (.iload 9, 2) := by decide +kernel
theorem dX10_knife_106 : decode cX10_knife 106 = .ok (.laload, 1) := by decide +kernel
theorem dX10_knife_107 : decode cX10_knife 107 = .ok (.aload_n 0, 1) := by decide +kernel
theorem dX10_knife_108 : decode cX10_knife 108 = .ok (.getfield 25, 3) := by decide +kernel
theorem dX10_knife_111 : decode cX10_knife 111 = .ok (.iload 7, 2) := by decide +kernel
theorem dX10_knife_113 : decode cX10_knife 113 = .ok (.laload, 1) := by decide +kernel
theorem dX10_knife_114 : decode cX10_knife 114 = .ok (.aload_n 0, 1) := by decide +kernel
theorem dX10_knife_115 : decode cX10_knife 115 = .ok (.getfield 28, 3) := by decide +kernel
theorem dX10_knife_118 : decode cX10_knife 118 = .ok (.iload 7, 2) := by decide +kernel
theorem dX10_knife_120 : decode cX10_knife 120 = .ok (.laload, 1) := by decide +kernel
theorem dX10_knife_121 : decode cX10_knife 121 = .ok (.invokestatic 199, 3) := by decide +kernel
theorem dX10_knife_124 : decode cX10_knife 124 = .ok (.ifCond .eq 8, 3) := by decide +kernel
theorem dX10_knife_127 : decode cX10_knife 127 = .ok (.iload 9, 2) := by decide +kernel
theorem dX10_knife_129 : decode cX10_knife 129 = .ok (.goto 5, 3) := by decide +kernel
theorem dX10_knife_132 : decode cX10_knife 132 = .ok (.iload 7, 2) := by decide +kernel
theorem dX10_knife_134 : decode cX10_knife 134 = .ok (.istore 7, 2) := by decide +kernel
theorem dX10_knife_136 : decode cX10_knife 136 = .ok (.iinc 8 1, 3) := by decide +kernel
theorem dX10_knife_139 : decode cX10_knife 139 = .ok (.goto (-107), 3) := by decide +kernel
theorem dX10_knife_142 : decode cX10_knife 142 = .ok (.aload_n 0, 1) := by decide +kernel
theorem dX10_knife_143 : decode cX10_knife 143 = .ok (.getfield 219, 3) := by decide +kernel
theorem dX10_knife_146 : decode cX10_knife 146 = .ok (.ifCond .eq 4, 3) := by decide +kernel
theorem dX10_knife_149 : decode cX10_knife 149 = .ok (.return_, 1) := by decide +kernel
theorem dX10_knife_150 : decode cX10_knife 150 = .ok (.aload_n 0, 1) := by decide +kernel
theorem dX10_knife_151 : decode cX10_knife 151 = .ok (.iload 7, 2) := by decide +kernel
theorem dX10_knife_153 : decode cX10_knife 153 = .ok (.lload_n 2, 1) := by decide +kernel
theorem dX10_knife_154 : decode cX10_knife 154 = .ok (.lload 4, 2) := by decide +kernel
theorem dX10_knife_156 : decode cX10_knife 156 = .ok (.aload_n 0, 1) := by decide +kernel
theorem dX10_knife_157 : decode cX10_knife 157 = .ok (.getfield 25, 3) := by decide +kernel
theorem dX10_knife_160 : decode cX10_knife 160 = .ok (.iload 7, 2) := by decide +kernel
theorem dX10_knife_162 : decode cX10_knife 162 = .ok (.laload, 1) := by decide +kernel
theorem dX10_knife_163 : decode cX10_knife 163 = .ok (.aload_n 0, 1) := by decide +kernel
theorem dX10_knife_164 : decode cX10_knife 164 = .ok (.getfield 28, 3) := by decide +kernel
theorem dX10_knife_167 : decode cX10_knife 167 = .ok (.iload 7, 2) := by decide +kernel
theorem dX10_knife_169 : decode cX10_knife 169 = .ok (.laload, 1) := by decide +kernel
theorem dX10_knife_170 : decode cX10_knife 170 = .ok (.invokevirtual 253, 3) := by decide +kernel
theorem dX10_knife_173 : decode cX10_knife 173 = .ok (.aload_n 0, 1) := by decide +kernel
theorem dX10_knife_174 : decode cX10_knife 174 = .ok (.getfield 25, 3) := by decide +kernel
theorem dX10_knife_177 : decode cX10_knife 177 = .ok (.iload 7, 2) := by decide +kernel
theorem dX10_knife_179 : decode cX10_knife 179 = .ok (.laload, 1) := by decide +kernel
theorem dX10_knife_180 : decode cX10_knife 180 = .ok (.lstore_n 2, 1) := by decide +kernel
theorem dX10_knife_181 : decode cX10_knife 181 = .ok (.aload_n 0, 1) := by decide +kernel
theorem dX10_knife_182 : decode cX10_knife 182 = .ok (.getfield 28, 3) := by decide +kernel
theorem dX10_knife_185 : decode cX10_knife 185 = .ok (.iload 7, 2) := by decide +kernel
theorem dX10_knife_187 : decode cX10_knife 187 = .ok (.laload, 1) := by decide +kernel
theorem dX10_knife_188 : decode cX10_knife 188 = .ok (.lstore 4, 2) := by decide +kernel
theorem dX10_knife_190 : decode cX10_knife 190 = .ok (.iload_n 1, 1) := by decide +kernel
theorem dX10_knife_191 : decode cX10_knife 191 = .ok (.iconst 1, 1) := by decide +kernel
theorem dX10_knife_192 : decode cX10_knife 192 = .ok (.iload 7, 2) := by decide +kernel
theorem dX10_knife_194 : decode cX10_knife 194 = .ok (.ishl, 1) := by decide +kernel
theorem dX10_knife_195 : decode cX10_knife 195 = .ok (.iconst (-1), 1) := by decide +kernel
theorem dX10_knife_196 : decode cX10_knife 196 = .ok (.ixor, 1) := by decide +kernel
theorem dX10_knife_197 : decode cX10_knife 197 = .ok (.iand, 1) := by decide +kernel
theorem dX10_knife_198 : decode cX10_knife 198 = .ok (.istore_n 1, 1) := by decide +kernel
theorem dX10_knife_199 : decode cX10_knife 199 = .ok (.iinc 6 (-1), 3) := by decide +kernel
theorem dX10_knife_202 : decode cX10_knife 202 = .ok (.goto (-182), 3) := by decide +kernel
theorem dX10_knife_205 : decode cX10_knife 205 = .ok (.aload_n 0, 1) := by decide +kernel
theorem dX10_knife_206 : decode cX10_knife 206 = .ok (.aload_n 0, 1) := by decide +kernel
theorem dX10_knife_207 : decode cX10_knife 207 = .ok (.iload_n 1, 1) := by decide +kernel
theorem dX10_knife_208 : decode cX10_knife 208 = .ok (.invokevirtual 256, 3) := by decide +kernel
theorem dX10_knife_211 : decode cX10_knife 211 = .ok (.lload_n 2, 1) := by decide +kernel
theorem dX10_knife_212 : decode cX10_knife 212 = .ok (.lload 4, 2) := by decide +kernel
theorem dX10_knife_214 : decode cX10_knife 214 = .ok (.aload_n 0, 1) := by decide +kernel
theorem dX10_knife_215 : decode cX10_knife 215 = .ok (.invokevirtual 249, 3) := by decide +kernel
theorem dX10_knife_218 : decode cX10_knife 218 = .ok (.lconst 1, 1) := by decide +kernel
theorem dX10_knife_219 : decode cX10_knife 219 = .ok (.invokevirtual 253, 3) := by decide +kernel
theorem dX10_knife_222 : decode cX10_knife 222 = .ok (.return_, 1) := by decide +kernel
theorem dX10_looks_0 : decode cX10_looks 0 = .ok (.aload_n 0, 1) := by decide +kernel
theorem dX10_looks_1 : decode cX10_looks 1 = .ok (.iload_n 1, 1) := by decide +kernel
theorem dX10_looks_2 : decode cX10_looks 2 = .ok (.iconst 1, 1) := by decide +kernel
theorem dX10_looks_3 : decode cX10_looks 3 = .ok (.lload_n 3, 1) := by decide +kernel
theorem dX10_looks_4 : decode cX10_looks 4 = .ok (.lload 5, 2) := by decide +kernel
theorem dX10_looks_6 : decode cX10_looks 6 = .ok (.aload_n 0, 1) := by decide +kernel
theorem dX10_looks_7 : decode cX10_looks 7 = .ok (.invokevirtual 249, 3) := by decide +kernel
theorem dX10_looks_10 : decode cX10_looks 10 = .ok (.lconst 1, 1) := by decide +kernel
theorem dX10_looks_11 : decode cX10_looks 11 = .ok (.invokevirtual 118, 3) := by decide +kernel
theorem dX10_looks_14 : decode cX10_looks 14 = .ok (.aload_n 0, 1) := by decide +kernel
theorem dX10_looks_15 : decode cX10_looks 15 = .ok (.getfield 99, 3) := by decide +kernel
theorem dX10_looks_18 : decode cX10_looks 18 = .ok (.lstore 8, 2) := by decide +kernel
theorem dX10_looks_20 : decode cX10_looks 20 = .ok (.aload_n 0, 1) := by decide +kernel
theorem dX10_looks_21 : decode cX10_looks 21 = .ok (.getfield 103, 3) := by decide +kernel
theorem dX10_looks_24 : decode cX10_looks 24 = .ok (.lstore 10, 2) := by decide +kernel
theorem dX10_looks_26 : decode cX10_looks 26 = .ok (.aload_n 0, 1) := by decide +kernel
theorem dX10_looks_27 : decode cX10_looks 27 = .ok (.iload_n 1, 1) := by decide +kernel
theorem dX10_looks_28 : decode cX10_looks 28 = .ok (.iconst 1, 1) := by decide +kernel
theorem dX10_looks_29 : decode cX10_looks 29 = .ok (.lload_n 3, 1) := by decide +kernel
theorem dX10_looks_30 : decode cX10_looks 30 = .ok (.lload 5, 2) := by decide +kernel
theorem dX10_looks_32 : decode cX10_looks 32 = .ok (.aload_n 0, 1) := by decide +kernel
theorem dX10_looks_33 : decode cX10_looks 33 = .ok (.getfield 25, 3) := by decide +kernel
theorem dX10_looks_36 : decode cX10_looks 36 = .ok (.iload 7, 2) := by decide +kernel
theorem dX10_looks_38 : decode cX10_looks 38 = .ok (.laload, 1) := by decide +kernel
theorem dX10_looks_39 : decode cX10_looks 39 = .ok (.aload_n 0, 1) := by decide +kernel
theorem dX10_looks_40 : decode cX10_looks 40 = .ok (.getfield 28, 3) := by decide +kernel
theorem dX10_looks_43 : decode cX10_looks 43 = .ok (.iload 7, 2) := by decide +kernel
theorem dX10_looks_45 : decode cX10_looks 45 = .ok (.laload, 1) := by decide +kernel
theorem dX10_looks_46 : decode cX10_looks 46 = .ok (.invokevirtual 118, 3) := by decide +kernel
theorem dX10_looks_49 : decode cX10_looks 49 = .ok (.aload_n 0, 1) := by decide +kernel
theorem dX10_looks_50 : decode cX10_looks 50 = .ok (.iload 7, 2) := by decide +kernel
theorem dX10_looks_52 : decode cX10_looks 52 = .ok (.putfield 259, 3) := by decide +kernel
theorem dX10_looks_55 : decode cX10_looks 55 = .ok (.lload 8, 2) := by decide +kernel
theorem dX10_looks_57 : decode cX10_looks 57 = .ok (.lload 10, 2) := by decide +kernel
theorem dX10_looks_59 : decode cX10_looks 59 = .ok (.iload_n 2, 1) := by decide +kernel
theorem dX10_looks_60 : decode cX10_looks 60 = .ok (.i2l, 1) := by decide +kernel
theorem dX10_looks_61 : decode cX10_looks 61 = .ok (.aload_n 0, 1) := by decide +kernel
theorem dX10_looks_62 : decode cX10_looks 62 = .ok (.getfield 99, 3) := by decide +kernel
theorem dX10_looks_65 : decode cX10_looks 65 = .ok (.lmul, 1) := by decide +kernel
theorem dX10_looks_66 : decode cX10_looks 66 = .ok (.aload_n 0, 1) := by decide +kernel
theorem dX10_looks_67 : decode cX10_looks 67 = .ok (.getfield 103, 3) := by decide +kernel
theorem dX10_looks_70 : decode cX10_looks 70 = .ok (.invokestatic 199, 3) := by decide +kernel
theorem dX10_looks_73 : decode cX10_looks 73 = .ok (.ifCond .ne 26, 3) := by decide +kernel
theorem dX10_looks_76 : decode cX10_looks 76 = .ok (.aload_n 0, 1) := by decide +kernel
theorem dX10_looks_77 : decode cX10_looks 77 = .ok (.iconst 2, 1) := by decide +kernel
theorem dX10_looks_78 : decode cX10_looks 78 = .ok (.iload_n 1, 1) := by decide +kernel
theorem dX10_looks_79 : decode cX10_looks 79 = .ok (.aload_n 0, 1) := by decide +kernel
theorem dX10_looks_80 : decode cX10_looks 80 = .ok (.getfield 25, 3) := by decide +kernel
theorem dX10_looks_83 : decode cX10_looks 83 = .ok (.iload 7, 2) := by decide +kernel
theorem dX10_looks_85 : decode cX10_looks 85 = .ok (.laload, 1) := by decide +kernel
theorem dX10_looks_86 : decode cX10_looks 86 = .ok (.aload_n 0, 1) := by decide +kernel
theorem dX10_looks_87 : decode cX10_looks 87 = .ok (.getfield 28, 3) := by decide +kernel
theorem dX10_looks_90 : decode cX10_looks 90 = .ok (.iload 7, 2) := by decide +kernel
theorem dX10_looks_92 : decode cX10_looks 92 = .ok (.laload, 1) := by decide +kernel
theorem dX10_looks_93 : decode cX10_looks 93 = .ok (.lconst 0, 1) := by decide +kernel
theorem dX10_looks_94 : decode cX10_looks 94 = .ok (.lconst 1, 1) := by decide +kernel
theorem dX10_looks_95 : decode cX10_looks 95 = .ok (.invokevirtual 239, 3) := by decide +kernel
theorem dX10_looks_98 : decode cX10_looks 98 = .ok (.return_, 1) := by decide +kernel
theorem dX10_looks_99 : decode cX10_looks 99 = .ok (.aload_n 0, 1) := by decide +kernel
theorem dX10_looks_100 : decode cX10_looks 100 = .ok (.iload_n 1, 1) := by decide +kernel
theorem dX10_looks_101 : decode cX10_looks 101 = .ok (.lload_n 3, 1) := by decide +kernel
theorem dX10_looks_102 : decode cX10_looks 102 = .ok (.lload 5, 2) := by decide +kernel
theorem dX10_looks_104 : decode cX10_looks 104 = .ok (.lload 8, 2) := by decide +kernel
theorem dX10_looks_106 : decode cX10_looks 106 = .ok (.lload 10, 2) := by decide +kernel
theorem dX10_looks_108 : decode cX10_looks 108 = .ok (.iload_n 2, 1) := by decide +kernel
theorem dX10_looks_109 : decode cX10_looks 109 = .ok (.i2l, 1) := by decide +kernel
theorem dX10_looks_110 : decode cX10_looks 110 = .ok (.lmul, 1) := by decide +kernel
theorem dX10_looks_111 : decode cX10_looks 111 = .ok (.iconst 0, 1) := by decide +kernel
theorem dX10_looks_112 : decode cX10_looks 112 = .ok (.invokevirtual 245, 3) := by decide +kernel
theorem dX10_looks_115 : decode cX10_looks 115 = .ok (.aload_n 0, 1) := by decide +kernel
theorem dX10_looks_116 : decode cX10_looks 116 = .ok (.getfield 219, 3) := by decide +kernel
theorem dX10_looks_119 : decode cX10_looks 119 = .ok (.ifCond .ne 35, 3) := by decide +kernel
theorem dX10_looks_122 : decode cX10_looks 122 = .ok (.aload_n 0, 1) := by decide +kernel
theorem dX10_looks_123 : decode cX10_looks 123 = .ok (.iconst 1, 1) := by decide +kernel
theorem dX10_looks_124 : decode cX10_looks 124 = .ok (.iload_n 1, 1) := by decide +kernel
theorem dX10_looks_125 : decode cX10_looks 125 = .ok (.aload_n 0, 1) := by decide +kernel
theorem dX10_looks_126 : decode cX10_looks 126 = .ok (.getfield 25, 3) := by decide +kernel
theorem dX10_looks_129 : decode cX10_looks 129 = .ok (.iload_n 1, 1) := by decide +kernel
theorem dX10_looks_130 : decode cX10_looks 130 = .ok (.laload, 1) := by decide +kernel
theorem dX10_looks_131 : decode cX10_looks 131 = .ok (.aload_n 0, 1) := by decide +kernel
theorem dX10_looks_132 : decode cX10_looks 132 = .ok (.getfield 28, 3) := by decide +kernel
theorem dX10_looks_135 : decode cX10_looks 135 = .ok (.iload_n 1, 1) := by decide +kernel
theorem dX10_looks_136 : decode cX10_looks 136 = .ok (.laload, 1) := by decide +kernel
theorem dX10_looks_137 : decode cX10_looks 137 = .ok (.aload_n 0, 1) := by decide +kernel
theorem dX10_looks_138 : decode cX10_looks 138 = .ok (.getfield 25, 3) := by decide +kernel
theorem dX10_looks_141 : decode cX10_looks 141 = .ok (.iload 7, 2) := by decide +kernel
theorem dX10_looks_143 : decode cX10_looks 143 = .ok (.laload, 1) := by decide +kernel
theorem dX10_looks_144 : decode cX10_looks 144 = .ok (.aload_n 0, 1) := by decide +kernel
theorem dX10_looks_145 : decode cX10_looks 145 = .ok (.getfield 28, 3) := by decide +kernel
theorem dX10_looks_148 : decode cX10_looks 148 = .ok (.iload 7, 2) := by decide +kernel
theorem dX10_looks_150 : decode cX10_looks 150 = .ok (.laload, 1) := by decide +kernel
theorem dX10_looks_151 : decode cX10_looks 151 = .ok (.invokevirtual 239, 3) := by decide +kernel
theorem dX10_looks_154 : decode cX10_looks 154 = .ok (.aload_n 0, 1) := by decide +kernel
theorem dX10_looks_155 : decode cX10_looks 155 = .ok (.iload_n 1, 1) := by decide +kernel
theorem dX10_looks_156 : decode cX10_looks 156 = .ok (.putfield 259, 3) := by decide +kernel
theorem dX10_looks_159 : decode cX10_looks 159 = .ok (.return_, 1) := by decide +kernel
theorem dX10_diminish_0 : decode cX10_diminish 0 = .ok (.iconst 1, 1) := by decide +kernel
theorem dX10_diminish_1 : decode cX10_diminish 1 = .ok (.aload_n 0, 1) := by decide +kernel
theorem dX10_diminish_2 : decode cX10_diminish 2 = .ok (.invokevirtual 75, 3) := by decide +kernel
theorem dX10_diminish_5 : decode cX10_diminish 5 = .ok (.ishl, 1) := by decide +kernel
theorem dX10_diminish_6 : decode cX10_diminish 6 = .ok (.iconst 1, 1) := by decide +kernel
theorem dX10_diminish_7 : decode cX10_diminish 7 = .ok (.isub, 1) := by decide +kernel
theorem dX10_diminish_8 : decode cX10_diminish 8 = .ok (.istore_n 1, 1) := by decide +kernel
theorem dX10_diminish_9 : decode cX10_diminish 9 = .ok (.lconst 0, 1) := by decide +kernel
theorem dX10_diminish_10 : decode cX10_diminish 10 = .ok (.lstore_n 2, 1) := by decide +kernel
theorem dX10_diminish_11 : decode cX10_diminish 11 = .ok (.lconst 1, 1) := by decide +kernel
theorem dX10_diminish_12 : decode cX10_diminish 12 = .ok (.lstore 4, 2) := by decide +kernel
theorem dX10_diminish_14 : decode cX10_diminish 14 = .ok (.aload_n 0, 1) := by decide +kernel
theorem dX10_diminish_15 : decode cX10_diminish 15 = .ok (.invokevirtual 75, 3) := by decide +kernel
theorem dX10_diminish_18 : decode cX10_diminish 18 = .ok (.istore 6, 2) := by decide +kernel
theorem dX10_diminish_20 : decode cX10_diminish 20 = .ok (.iload 6, 2) := by decide +kernel
theorem dX10_diminish_22 : decode cX10_diminish 22 = .ok (.iconst 1, 1) := by decide +kernel
theorem dX10_diminish_23 : decode cX10_diminish 23 = .ok (.if_icmp .le 190, 3) := by decide +kernel
theorem dX10_diminish_26 : decode cX10_diminish 26 = .ok (.iconst (-1), 1) := by decide +kernel
theorem dX10_diminish_27 : decode cX10_diminish 27 = .ok (.istore 7, 2) := by decide +kernel
theorem dX10_diminish_29 : decode cX10_diminish 29 = .ok (.iconst 0, 1) := by decide +kernel
theorem dX10_diminish_30 : decode cX10_diminish 30 = .ok (.istore 8, 2) := by decide +kernel
theorem dX10_diminish_32 : decode cX10_diminish 32 = .ok (.iload 8, 2) := by decide +kernel
theorem dX10_diminish_34 : decode cX10_diminish 34 = .ok (.aload_n 0, 1) := by decide +kernel
theorem dX10_diminish_35 : decode cX10_diminish 35 = .ok (.invokevirtual 75, 3) := by decide +kernel
theorem dX10_diminish_38 : decode cX10_diminish 38 = .ok (.if_icmp .ge 112, 3) := by decide +kernel
theorem dX10_diminish_41 : decode cX10_diminish 41 = .ok (.aload_n 0, 1) := by decide +kernel
theorem dX10_diminish_42 : decode cX10_diminish 42 = .ok (.getfield 219, 3) := by decide +kernel
theorem dX10_diminish_45 : decode cX10_diminish 45 = .ok (.ifCond .ne 105, 3) := by decide +kernel
theorem dX10_diminish_48 : decode cX10_diminish 48 = .ok (.aload_n 0, 1) := by decide +kernel
theorem dX10_diminish_49 : decode cX10_diminish 49 = .ok (.iload 8, 2) := by decide +kernel
theorem dX10_diminish_51 : decode cX10_diminish 51 = .ok (.invokevirtual 242, 3) := by decide +kernel
theorem dX10_diminish_54 : decode cX10_diminish 54 = .ok (.istore 9, 2) := by decide +kernel
theorem dX10_diminish_56 : decode cX10_diminish 56 = .ok (.iload_n 1, 1) := by decide +kernel
theorem dX10_diminish_57 : decode cX10_diminish 57 = .ok (.iload 9, 2) := by decide +kernel
theorem dX10_diminish_59 : decode cX10_diminish 59 = .ok (.ishr, 1) := by decide +kernel
theorem dX10_diminish_60 : decode cX10_diminish 60 = .ok (.iconst 1, 1) := by decide +kernel
theorem dX10_diminish_61 : decode cX10_diminish 61 = .ok (.iand, 1) := by decide +kernel
theorem dX10_diminish_62 : decode cX10_diminish 62 = .ok (.iconst 1, 1) := by decide +kernel
theorem dX10_diminish_63 : decode cX10_diminish 63 = .ok (.if_icmp .ne 52, 3) := by decide +kernel
theorem dX10_diminish_66 : decode cX10_diminish 66 = .ok (.iload 7, 2) := by decide +kernel
theorem dX10_diminish_68 : decode cX10_diminish 68 = .ok (.ifCond .ge 47, 3) := by decide +kernel
theorem dX10_diminish_71 : decode cX10_diminish 71 = .ok (.aload_n 0, 1) := by decide +kernel
theorem dX10_diminish_72 : decode cX10_diminish 72 = .ok (.iload 9, 2) := by decide +kernel
theorem dX10_diminish_74 : decode cX10_diminish 74 = .ok (.iconst 1, 1) := by decide +kernel
theorem dX10_diminish_75 : decode cX10_diminish 75 = .ok (.lload_n 2, 1) := by decide +kernel
theorem dX10_diminish_76 : decode cX10_diminish 76 = .ok (.lload 4, 2) := by decide +kernel
theorem dX10_diminish_78 : decode cX10_diminish 78 = .ok (.aload_n 0, 1) := by decide +kernel
theorem dX10_diminish_79 : decode cX10_diminish 79 = .ok (.invokevirtual 249, 3) := by decide +kernel
theorem dX10_diminish_82 : decode cX10_diminish 82 = .ok (.lconst 1, 1) := by decide +kernel
theorem dX10_diminish_83 : decode cX10_diminish 83 = .ok (.invokevirtual 118, 3) := by decide +kernel
theorem dX10_diminish_86 : decode cX10_diminish 86 = .ok (.aload_n 0, 1) := by decide +kernel
theorem dX10_diminish_87 : decode cX10_diminish 87 = .ok (.iload 9, 2) := by decide +kernel
theorem dX10_diminish_89 : decode cX10_diminish 89 = .ok (.lload_n 2, 1) := by decide +kernel
theorem dX10_diminish_90 : decode cX10_diminish 90 = .ok (.lload 4, 2) := by decide +kernel
theorem dX10_diminish_92 : decode cX10_diminish 92 = .ok (.aload_n 0, 1) := by decide +kernel
theorem dX10_diminish_93 : decode cX10_diminish 93 = .ok (.getfield 99, 3) := by decide +kernel
theorem dX10_diminish_96 : decode cX10_diminish 96 = .ok (.aload_n 0, 1) := by decide +kernel
theorem dX10_diminish_97 : decode cX10_diminish 97 = .ok (.getfield 103, 3) := by decide +kernel
theorem dX10_diminish_100 : decode cX10_diminish 100 = .ok (.iload 6, 2) := by decide +kernel
theorem dX10_diminish_102 : decode cX10_diminish 102 = .ok (.i2l, 1) := by decide +kernel
theorem dX10_diminish_103 : decode cX10_diminish 103 = .ok (.lmul, 1) := by decide +kernel
theorem dX10_diminish_104 : decode cX10_diminish 104 = .ok (.iconst 1, 1) := by decide +kernel
theorem dX10_diminish_105 : decode cX10_diminish 105 = .ok (.invokevirtual 245, 3) := by decide +kernel
theorem dX10_diminish_108 : decode cX10_diminish 108 = .ok (.iload 9, 2) := by decide +kernel
theorem dX10_diminish_110 : decode cX10_diminish 110 = .ok (.istore 7, 2) := by decide +kernel
theorem dX10_diminish_112 : decode cX10_diminish 112 = .ok (.goto 32, 3) := by decide +kernel
theorem dX10_diminish_115 : decode cX10_diminish 115 = .ok (.iload_n 1, 1) := by decide +kernel
theorem dX10_diminish_116 : decode cX10_diminish 116 = .ok (.iload 9, 2) := by decide +kernel
theorem dX10_diminish_118 : decode cX10_diminish 118 = .ok (.ishr, 1) := by decide +kernel
theorem dX10_diminish_119 : decode cX10_diminish 119 = .ok (.iconst 1, 1) := by decide +kernel
theorem dX10_diminish_120 : decode cX10_diminish 120 = .ok (.iand, 1) := by decide +kernel
theorem dX10_diminish_121 : decode cX10_diminish 121 = .ok (.iconst 1, 1) := by decide +kernel
theorem dX10_diminish_122 : decode cX10_diminish 122 = .ok (.if_icmp .ne 22, 3) := by decide +kernel
theorem dX10_diminish_125 : decode cX10_diminish 125 = .ok (.aload_n 0, 1) := by decide +kernel
theorem dX10_diminish_126 : decode cX10_diminish 126 = .ok (.iload 9, 2) := by decide +kernel
theorem dX10_diminish_128 : decode cX10_diminish 128 = .ok (.iload 6, 2) := by decide +kernel
theorem dX10_diminish_130 : decode cX10_diminish 130 = .ok (.lload_n 2, 1) := by decide +kernel
theorem dX10_diminish_131 : decode cX10_diminish 131 = .ok (.lload 4, 2) := by decide +kernel
theorem dX10_diminish_133 : decode cX10_diminish 133 = .ok (.iload 7, 2) := by decide +kernel
theorem dX10_diminish_135 : decode cX10_diminish 135 = .ok (.invokevirtual 262, 3) := by decide +kernel
theorem dX10_diminish_138 : decode cX10_diminish 138 = .ok (.aload_n 0, 1) := by decide +kernel
theorem dX10_diminish_139 : decode cX10_diminish 139 = .ok (.getfield 259, 3) := by decide +kernel
theorem dX10_diminish_142 : decode cX10_diminish 142 = .ok (.istore 7, 2) := by decide +kernel
theorem dX10_diminish_144 : decode cX10_diminish 144 = .ok (.iinc 8 1, 3) := by decide +kernel
theorem dX10_diminish_147 : decode cX10_diminish 147 = .ok (.goto (-115), 3) := by decide +kernel
theorem dX10_diminish_150 : decode cX10_diminish 150 = .ok (.aload_n 0, 1) := by decide +kernel
theorem dX10_diminish_151 : decode cX10_diminish 151 = .ok (.getfield 219, 3) := by decide +kernel
theorem dX10_diminish_154 : decode cX10_diminish 154 = .ok (.ifCond .eq 4, 3) := by decide +kernel
theorem dX10_diminish_157 : decode cX10_diminish 157 = .ok (.return_, 1) := by decide +kernel
theorem dX10_diminish_158 : decode cX10_diminish 158 = .ok (.aload_n 0, 1) := by decide +kernel
theorem dX10_diminish_159 : decode cX10_diminish 159 = .ok (.iload 7, 2) := by decide +kernel
theorem dX10_diminish_161 : decode cX10_diminish 161 = .ok (.lload_n 2, 1) := by decide +kernel
theorem dX10_diminish_162 : decode cX10_diminish 162 = .ok (.lload 4, 2) := by decide +kernel
theorem dX10_diminish_164 : decode cX10_diminish 164 = .ok (.aload_n 0, 1) := by decide +kernel
theorem dX10_diminish_165 : decode cX10_diminish 165 = .ok (.getfield 25, 3) := by decide +kernel
theorem dX10_diminish_168 : decode cX10_diminish 168 = .ok (.iload 7, 2) := by decide +kernel
theorem dX10_diminish_170 : decode cX10_diminish 170 = .ok (.laload, 1) := by decide +kernel
theorem dX10_diminish_171 : decode cX10_diminish 171 = .ok (.aload_n 0, 1) := by decide +kernel
theorem dX10_diminish_172 : decode cX10_diminish 172 = .ok (.getfield 28, 3) := by decide +kernel
theorem dX10_diminish_175 : decode cX10_diminish 175 = .ok (.iload 7, 2) := by decide +kernel
theorem dX10_diminish_177 : decode cX10_diminish 177 = .ok (.laload, 1) := by decide +kernel
theorem dX10_diminish_178 : decode cX10_diminish 178 = .ok (.invokevirtual 253, 3) := by decide +kernel
theorem dX10_diminish_181 : decode cX10_diminish 181 = .ok (.aload_n 0, 1) := by decide +kernel
theorem dX10_diminish_182 : decode cX10_diminish 182 = .ok (.getfield 25, 3) := by decide +kernel
theorem dX10_diminish_185 : decode cX10_diminish 185 = .ok (.iload 7, 2) := by decide +kernel
theorem dX10_diminish_187 : decode cX10_diminish 187 = .ok (.laload, 1) := by decide +kernel
theorem dX10_diminish_188 : decode cX10_diminish 188 = .ok (.lstore_n 2, 1) := by decide +kernel
theorem dX10_diminish_189 : decode cX10_diminish 189 = .ok (.aload_n 0, 1) := by decide +kernel
theorem dX10_diminish_190 : decode cX10_diminish 190 = .ok (.getfield 28, 3) := by decide +kernel
theorem dX10_diminish_193 : decode cX10_diminish 193 = .ok (.iload 7, 2) := by decide +kernel
theorem dX10_diminish_195 : decode cX10_diminish 195 = .ok (.laload, 1) := by decide +kernel
theorem dX10_diminish_196 : decode cX10_diminish 196 = .ok (.lstore 4, 2) := by decide +kernel
theorem dX10_diminish_198 : decode cX10_diminish 198 = .ok (.iload_n 1, 1) := by decide +kernel
theorem dX10_diminish_199 : decode cX10_diminish 199 = .ok (.iconst 1, 1) := by decide +kernel
theorem dX10_diminish_200 : decode cX10_diminish 200 = .ok (.iload 7, 2) := by decide +kernel
theorem dX10_diminish_202 : decode cX10_diminish 202 = .ok (.ishl, 1) := by decide +kernel
theorem dX10_diminish_203 : decode cX10_diminish 203 = .ok (.iconst (-1), 1) := by decide +kernel
theorem dX10_diminish_204 : decode cX10_diminish 204 = .ok (.ixor, 1) := by decide +kernel
theorem dX10_diminish_205 : decode cX10_diminish 205 = .ok (.iand, 1) := by decide +kernel
theorem dX10_diminish_206 : decode cX10_diminish 206 = .ok (.istore_n 1, 1) := by decide +kernel
theorem dX10_diminish_207 : decode cX10_diminish 207 = .ok (.iinc 6 (-1), 3) := by decide +kernel
theorem dX10_diminish_210 : decode cX10_diminish 210 = .ok (.goto (-190), 3) := by decide +kernel
theorem dX10_diminish_213 : decode cX10_diminish 213 = .ok (.aload_n 0, 1) := by decide +kernel
theorem dX10_diminish_214 : decode cX10_diminish 214 = .ok (.aload_n 0, 1) := by decide +kernel
theorem dX10_diminish_215 : decode cX10_diminish 215 = .ok (.iload_n 1, 1) := by decide +kernel
theorem dX10_diminish_216 : decode cX10_diminish 216 = .ok (.invokevirtual 256, 3) := by decide +kernel
theorem dX10_diminish_219 : decode cX10_diminish 219 = .ok (.lload_n 2, 1) := by decide +kernel
theorem dX10_diminish_220 : decode cX10_diminish 220 = .ok (.lload 4, 2) := by decide +kernel
theorem dX10_diminish_222 : decode cX10_diminish 222 = .ok (.aload_n 0, 1) := by decide +kernel
theorem dX10_diminish_223 : decode cX10_diminish 223 = .ok (.invokevirtual 249, 3) := by decide +kernel
theorem dX10_diminish_226 : decode cX10_diminish 226 = .ok (.lconst 1, 1) := by decide +kernel
theorem dX10_diminish_227 : decode cX10_diminish 227 = .ok (.invokevirtual 253, 3) := by decide +kernel
theorem dX10_diminish_230 : decode cX10_diminish 230 = .ok (.return_, 1) := by decide +kernel
theorem dX10_lays_0 : decode cX10_lays 0 = .ok (.aload_n 0, 1) := by decide +kernel
theorem dX10_lays_1 : decode cX10_lays 1 = .ok (.getfield 31, 3) := by decide +kernel
theorem dX10_lays_4 : decode cX10_lays 4 = .ok (.aload_n 0, 1) := by decide +kernel
theorem dX10_lays_5 : decode cX10_lays 5 = .ok (.getfield 266, 3) := by decide +kernel
theorem dX10_lays_8 : decode cX10_lays 8 = .ok (.iload_n 1, 1) := by decide +kernel
theorem dX10_lays_9 : decode cX10_lays 9 = .ok (.iastore, 1) := by decide +kernel
theorem dX10_lays_10 : decode cX10_lays 10 = .ok (.aload_n 0, 1) := by decide +kernel
theorem dX10_lays_11 : decode cX10_lays 11 = .ok (.getfield 34, 3) := by decide +kernel
theorem dX10_lays_14 : decode cX10_lays 14 = .ok (.iconst 4, 1) := by decide +kernel
theorem dX10_lays_15 : decode cX10_lays 15 = .ok (.aload_n 0, 1) := by decide +kernel
theorem dX10_lays_16 : decode cX10_lays 16 = .ok (.getfield 266, 3) := by decide +kernel
theorem dX10_lays_19 : decode cX10_lays 19 = .ok (.imul, 1) := by decide +kernel
theorem dX10_lays_20 : decode cX10_lays 20 = .ok (.lload_n 2, 1) := by decide +kernel
theorem dX10_lays_21 : decode cX10_lays 21 = .ok (.lastore, 1) := by decide +kernel
theorem dX10_lays_22 : decode cX10_lays 22 = .ok (.aload_n 0, 1) := by decide +kernel
theorem dX10_lays_23 : decode cX10_lays 23 = .ok (.getfield 34, 3) := by decide +kernel
theorem dX10_lays_26 : decode cX10_lays 26 = .ok (.iconst 4, 1) := by decide +kernel
theorem dX10_lays_27 : decode cX10_lays 27 = .ok (.aload_n 0, 1) := by decide +kernel
theorem dX10_lays_28 : decode cX10_lays 28 = .ok (.getfield 266, 3) := by decide +kernel
theorem dX10_lays_31 : decode cX10_lays 31 = .ok (.imul, 1) := by decide +kernel
theorem dX10_lays_32 : decode cX10_lays 32 = .ok (.iconst 1, 1) := by decide +kernel
theorem dX10_lays_33 : decode cX10_lays 33 = .ok (.iadd, 1) := by decide +kernel
theorem dX10_lays_34 : decode cX10_lays 34 = .ok (.lload 4, 2) := by decide +kernel
theorem dX10_lays_36 : decode cX10_lays 36 = .ok (.lastore, 1) := by decide +kernel
theorem dX10_lays_37 : decode cX10_lays 37 = .ok (.aload_n 0, 1) := by decide +kernel
theorem dX10_lays_38 : decode cX10_lays 38 = .ok (.getfield 34, 3) := by decide +kernel
theorem dX10_lays_41 : decode cX10_lays 41 = .ok (.iconst 4, 1) := by decide +kernel
theorem dX10_lays_42 : decode cX10_lays 42 = .ok (.aload_n 0, 1) := by decide +kernel
theorem dX10_lays_43 : decode cX10_lays 43 = .ok (.getfield 266, 3) := by decide +kernel
theorem dX10_lays_46 : decode cX10_lays 46 = .ok (.imul, 1) := by decide +kernel
theorem dX10_lays_47 : decode cX10_lays 47 = .ok (.iconst 2, 1) := by decide +kernel
theorem dX10_lays_48 : decode cX10_lays 48 = .ok (.iadd, 1) := by decide +kernel
theorem dX10_lays_49 : decode cX10_lays 49 = .ok (.lload 6, 2) := by decide +kernel
theorem dX10_lays_51 : decode cX10_lays 51 = .ok (.lastore, 1) := by decide +kernel
theorem dX10_lays_52 : decode cX10_lays 52 = .ok (.aload_n 0, 1) := by decide +kernel
theorem dX10_lays_53 : decode cX10_lays 53 = .ok (.getfield 34, 3) := by decide +kernel
theorem dX10_lays_56 : decode cX10_lays 56 = .ok (.iconst 4, 1) := by decide +kernel
theorem dX10_lays_57 : decode cX10_lays 57 = .ok (.aload_n 0, 1) := by decide +kernel
theorem dX10_lays_58 : decode cX10_lays 58 = .ok (.getfield 266, 3) := by decide +kernel
theorem dX10_lays_61 : decode cX10_lays 61 = .ok (.imul, 1) := by decide +kernel
theorem dX10_lays_62 : decode cX10_lays 62 = .ok (.iconst 3, 1) := by decide +kernel
theorem dX10_lays_63 : decode cX10_lays 63 = .ok (.iadd, 1) := by decide +kernel
theorem dX10_lays_64 : decode cX10_lays 64 = .ok (.lload 8, 2) := by decide +kernel
theorem dX10_lays_66 : decode cX10_lays 66 = .ok (.lastore, 1) := by decide +kernel
theorem dX10_lays_67 : decode cX10_lays 67 = .ok (.aload_n 0, 1) := by decide +kernel
theorem dX10_lays_68 : decode cX10_lays 68 = .ok (.dup, 1) := by decide +kernel
theorem dX10_lays_69 : decode cX10_lays 69 = .ok (.getfield 266, 3) := by decide +kernel
theorem dX10_lays_72 : decode cX10_lays 72 = .ok (.iconst 1, 1) := by decide +kernel
theorem dX10_lays_73 : decode cX10_lays 73 = .ok (.iadd, 1) := by decide +kernel
theorem dX10_lays_74 : decode cX10_lays 74 = .ok (.putfield 266, 3) := by decide +kernel
theorem dX10_lays_77 : decode cX10_lays 77 = .ok (.return_, 1) := by decide +kernel
theorem dX10_countOf_0 : decode cX10_countOf 0 = .ok (.iconst 0, 1) := by decide +kernel
theorem dX10_countOf_1 : decode cX10_countOf 1 = .ok (.istore_n 1, 1) := by decide +kernel
theorem dX10_countOf_2 : decode cX10_countOf 2 = .ok (.iconst 0, 1) := by decide +kernel
theorem dX10_countOf_3 : decode cX10_countOf 3 = .ok (.istore_n 2, 1) := by decide +kernel
theorem dX10_countOf_4 : decode cX10_countOf 4 = .ok (.iload_n 2, 1) := by decide +kernel
theorem dX10_countOf_5 : decode cX10_countOf 5 = .ok (.iconst 5, 1) := by decide +kernel
theorem dX10_countOf_6 : decode cX10_countOf 6 = .ok (.if_icmp .ge 17, 3) := by decide +kernel
theorem dX10_countOf_9 : decode cX10_countOf 9 = .ok (.iload_n 1, 1) := by decide +kernel
theorem dX10_countOf_10 : decode cX10_countOf 10 = .ok (.iload_n 0, 1) := by decide +kernel
theorem dX10_countOf_11 : decode cX10_countOf 11 = .ok (.iload_n 2, 1) := by decide +kernel
theorem dX10_countOf_12 : decode cX10_countOf 12 = .ok (.ishr, 1) := by decide +kernel
theorem dX10_countOf_13 : decode cX10_countOf 13 = .ok (.iconst 1, 1) := by decide +kernel
theorem dX10_countOf_14 : decode cX10_countOf 14 = .ok (.iand, 1) := by decide +kernel
theorem dX10_countOf_15 : decode cX10_countOf 15 = .ok (.iadd, 1) := by decide +kernel
theorem dX10_countOf_16 : decode cX10_countOf 16 = .ok (.istore_n 1, 1) := by decide +kernel
theorem dX10_countOf_17 : decode cX10_countOf 17 = .ok (.iinc 2 1, 3) := by decide +kernel
theorem dX10_countOf_20 : decode cX10_countOf 20 = .ok (.goto (-16), 3) := by decide +kernel
theorem dX10_countOf_23 : decode cX10_countOf 23 = .ok (.iload_n 1, 1) := by decide +kernel
theorem dX10_countOf_24 : decode cX10_countOf 24 = .ok (.ireturn, 1) := by decide +kernel
theorem dX10_leastOf_0 : decode cX10_leastOf 0 = .ok (.iconst (-1), 1) := by decide +kernel
theorem dX10_leastOf_1 : decode cX10_leastOf 1 = .ok (.istore_n 2, 1) := by decide +kernel
theorem dX10_leastOf_2 : decode cX10_leastOf 2 = .ok (.iconst 0, 1) := by decide +kernel
theorem dX10_leastOf_3 : decode cX10_leastOf 3 = .ok (.istore_n 3, 1) := by decide +kernel
theorem dX10_leastOf_4 : decode cX10_leastOf 4 = .ok (.iload_n 3, 1) := by decide +kernel
theorem dX10_leastOf_5 : decode cX10_leastOf 5 = .ok (.aload_n 0, 1) := by decide +kernel
theorem dX10_leastOf_6 : decode cX10_leastOf 6 = .ok (.invokevirtual 75, 3) := by decide +kernel
theorem dX10_leastOf_9 : decode cX10_leastOf 9 = .ok (.if_icmp .ge 81, 3) := by decide +kernel
theorem dX10_leastOf_12 : decode cX10_leastOf 12 = .ok (.aload_n 0, 1) := by decide +kernel
theorem dX10_leastOf_13 : decode cX10_leastOf 13 = .ok (.iload_n 3, 1) := by decide +kernel
theorem dX10_leastOf_14 : decode cX10_leastOf 14 = .ok (.invokevirtual 242, 3) := by decide +kernel
theorem dX10_leastOf_17 : decode cX10_leastOf 17 = .ok (.istore 4, 2) := by decide +kernel
theorem dX10_leastOf_19 : decode cX10_leastOf 19 = .ok (.iload_n 1, 1) := by decide +kernel
theorem dX10_leastOf_20 : decode cX10_leastOf 20 = .ok (.iload 4, 2) := by decide +kernel
theorem dX10_leastOf_22 : decode cX10_leastOf 22 = .ok (.ishr, 1) := by decide +kernel
theorem dX10_leastOf_23 : decode cX10_leastOf 23 = .ok (.iconst 1, 1) := by decide +kernel
theorem dX10_leastOf_24 : decode cX10_leastOf 24 = .ok (.iand, 1) := by decide +kernel
theorem dX10_leastOf_25 : decode cX10_leastOf 25 = .ok (.iconst 1, 1) := by decide +kernel
theorem dX10_leastOf_26 : decode cX10_leastOf 26 = .ok (.if_icmp .ne 43, 3) := by decide +kernel
theorem dX10_leastOf_29 : decode cX10_leastOf 29 = .ok (.iload_n 2, 1) := by decide +kernel
theorem dX10_leastOf_30 : decode cX10_leastOf 30 = .ok (.ifCond .lt 35, 3) := by decide +kernel
theorem dX10_leastOf_33 : decode cX10_leastOf 33 = .ok (.aload_n 0, 1) := by decide +kernel
theorem dX10_leastOf_34 : decode cX10_leastOf 34 = .ok (.getfield 25, 3) := by decide +kernel
theorem dX10_leastOf_37 : decode cX10_leastOf 37 = .ok (.iload 4, 2) := by decide +kernel
theorem dX10_leastOf_39 : decode cX10_leastOf 39 = .ok (.laload, 1) := by decide +kernel
theorem dX10_leastOf_40 : decode cX10_leastOf 40 = .ok (.aload_n 0, 1) := by decide +kernel
theorem dX10_leastOf_41 : decode cX10_leastOf 41 = .ok (.getfield 28, 3) := by decide +kernel
theorem dX10_leastOf_44 : decode cX10_leastOf 44 = .ok (.iload 4, 2) := by decide +kernel
theorem dX10_leastOf_46 : decode cX10_leastOf 46 = .ok (.laload, 1) := by decide +kernel
theorem dX10_leastOf_47 : decode cX10_leastOf 47 = .ok (.aload_n 0, 1) := by decide +kernel
theorem dX10_leastOf_48 : decode cX10_leastOf 48 = .ok (.getfield 25, 3) := by decide +kernel
theorem dX10_leastOf_51 : decode cX10_leastOf 51 = .ok (.iload_n 2, 1) := by decide +kernel
theorem dX10_leastOf_52 : decode cX10_leastOf 52 = .ok (.laload, 1) := by decide +kernel
theorem dX10_leastOf_53 : decode cX10_leastOf 53 = .ok (.aload_n 0, 1) := by decide +kernel
theorem dX10_leastOf_54 : decode cX10_leastOf 54 = .ok (.getfield 28, 3) := by decide +kernel
theorem dX10_leastOf_57 : decode cX10_leastOf 57 = .ok (.iload_n 2, 1) := by decide +kernel
theorem dX10_leastOf_58 : decode cX10_leastOf 58 = .ok (.laload, 1) := by decide +kernel
theorem dX10_leastOf_59 : decode cX10_leastOf 59 = .ok (.invokestatic 199, 3) := by decide +kernel
theorem dX10_leastOf_62 : decode cX10_leastOf 62 = .ok (.ifCond .eq 7, 3) := by decide +kernel
theorem dX10_leastOf_65 : decode cX10_leastOf 65 = .ok (.iconst 1, 1) := by decide +kernel
theorem dX10_leastOf_66 : decode cX10_leastOf 66 = .ok (.goto 4, 3) := by decide +kernel
theorem dX10_leastOf_69 : decode cX10_leastOf 69 = .ok (.iconst 0, 1) := by decide +kernel
theorem dX10_leastOf_70 : decode cX10_leastOf 70 = .ok (.istore 5, 2) := by decide +kernel
theorem dX10_leastOf_72 : decode cX10_leastOf 72 = .ok (.iload 5, 2) := by decide +kernel
theorem dX10_leastOf_74 : decode cX10_leastOf 74 = .ok (.ifCond .eq 8, 3) := by decide +kernel
theorem dX10_leastOf_77 : decode cX10_leastOf 77 = .ok (.iload 4, 2) := by decide +kernel
theorem dX10_leastOf_79 : decode cX10_leastOf 79 = .ok (.goto 4, 3) := by decide +kernel
theorem dX10_leastOf_82 : decode cX10_leastOf 82 = .ok (.iload_n 2, 1) := by decide +kernel
theorem dX10_leastOf_83 : decode cX10_leastOf 83 = .ok (.istore_n 2, 1) := by decide +kernel
theorem dX10_leastOf_84 : decode cX10_leastOf 84 = .ok (.iinc 3 1, 3) := by decide +kernel
theorem dX10_leastOf_87 : decode cX10_leastOf 87 = .ok (.goto (-83), 3) := by decide +kernel
theorem dX10_leastOf_90 : decode cX10_leastOf 90 = .ok (.iload_n 2, 1) := by decide +kernel
theorem dX10_leastOf_91 : decode cX10_leastOf 91 = .ok (.ireturn, 1) := by decide +kernel
theorem dX10_parts_0 : decode cX10_parts 0 = .ok (.iload_n 1, 1) := by decide +kernel
theorem dX10_parts_1 : decode cX10_parts 1 = .ok (.invokestatic 269, 3) := by decide +kernel
theorem dX10_parts_4 : decode cX10_parts 4 = .ok (.istore 10, 2) := by decide +kernel
theorem dX10_parts_6 : decode cX10_parts 6 = .ok (.iconst 0, 1) := by decide +kernel
theorem dX10_parts_7 : decode cX10_parts 7 = .ok (.istore 11, 2) := by decide +kernel
theorem dX10_parts_9 : decode cX10_parts 9 = .ok (.iload 11, 2) := by decide +kernel
theorem dX10_parts_11 : decode cX10_parts 11 = .ok (.aload_n 0, 1) := by decide +kernel
theorem dX10_parts_12 : decode cX10_parts 12 = .ok (.invokevirtual 75, 3) := by decide +kernel
theorem dX10_parts_15 : decode cX10_parts 15 = .ok (.if_icmp .ge 88, 3) := by decide +kernel
theorem dX10_parts_18 : decode cX10_parts 18 = .ok (.aload_n 0, 1) := by decide +kernel
theorem dX10_parts_19 : decode cX10_parts 19 = .ok (.getfield 219, 3) := by decide +kernel
theorem dX10_parts_22 : decode cX10_parts 22 = .ok (.ifCond .ne 81, 3) := by decide +kernel
theorem dX10_parts_25 : decode cX10_parts 25 = .ok (.aload_n 0, 1) := by decide +kernel
theorem dX10_parts_26 : decode cX10_parts 26 = .ok (.iload 11, 2) := by decide +kernel
theorem dX10_parts_28 : decode cX10_parts 28 = .ok (.invokevirtual 242, 3) := by decide +kernel
theorem dX10_parts_31 : decode cX10_parts 31 = .ok (.istore 12, 2) := by decide +kernel
theorem dX10_parts_33 : decode cX10_parts 33 = .ok (.iload_n 1, 1) := by decide +kernel
theorem dX10_parts_34 : decode cX10_parts 34 = .ok (.iload 12, 2) := by decide +kernel
theorem dX10_parts_36 : decode cX10_parts 36 = .ok (.ishr, 1) := by decide +kernel
theorem dX10_parts_37 : decode cX10_parts 37 = .ok (.iconst 1, 1) := by decide +kernel
theorem dX10_parts_38 : decode cX10_parts 38 = .ok (.iand, 1) := by decide +kernel
theorem dX10_parts_39 : decode cX10_parts 39 = .ok (.iconst 1, 1) := by decide +kernel
theorem dX10_parts_40 : decode cX10_parts 40 = .ok (.if_icmp .ne 57, 3) := by decide +kernel
theorem dX10_parts_43 : decode cX10_parts 43 = .ok (.aload_n 0, 1) := by decide +kernel
theorem dX10_parts_44 : decode cX10_parts 44 = .ok (.iload 12, 2) := by decide +kernel
theorem dX10_parts_46 : decode cX10_parts 46 = .ok (.iconst 1, 1) := by decide +kernel
theorem dX10_parts_47 : decode cX10_parts 47 = .ok (.lload_n 2, 1) := by decide +kernel
theorem dX10_parts_48 : decode cX10_parts 48 = .ok (.lload 4, 2) := by decide +kernel
theorem dX10_parts_50 : decode cX10_parts 50 = .ok (.lload 6, 2) := by decide +kernel
theorem dX10_parts_52 : decode cX10_parts 52 = .ok (.lload 8, 2) := by decide +kernel
theorem dX10_parts_54 : decode cX10_parts 54 = .ok (.invokevirtual 118, 3) := by decide +kernel
theorem dX10_parts_57 : decode cX10_parts 57 = .ok (.aload_n 0, 1) := by decide +kernel
theorem dX10_parts_58 : decode cX10_parts 58 = .ok (.aload_n 0, 1) := by decide +kernel
theorem dX10_parts_59 : decode cX10_parts 59 = .ok (.getfield 99, 3) := by decide +kernel
theorem dX10_parts_62 : decode cX10_parts 62 = .ok (.iload 10, 2) := by decide +kernel
theorem dX10_parts_64 : decode cX10_parts 64 = .ok (.iconst 2, 1) := by decide +kernel
theorem dX10_parts_65 : decode cX10_parts 65 = .ok (.idiv, 1) := by decide +kernel
theorem dX10_parts_66 : decode cX10_parts 66 = .ok (.i2l, 1) := by decide +kernel
theorem dX10_parts_67 : decode cX10_parts 67 = .ok (.lmul, 1) := by decide +kernel
theorem dX10_parts_68 : decode cX10_parts 68 = .ok (.aload_n 0, 1) := by decide +kernel
theorem dX10_parts_69 : decode cX10_parts 69 = .ok (.getfield 103, 3) := by decide +kernel
theorem dX10_parts_72 : decode cX10_parts 72 = .ok (.iload 10, 2) := by decide +kernel
theorem dX10_parts_74 : decode cX10_parts 74 = .ok (.i2l, 1) := by decide +kernel
theorem dX10_parts_75 : decode cX10_parts 75 = .ok (.lmul, 1) := by decide +kernel
theorem dX10_parts_76 : decode cX10_parts 76 = .ok (.invokevirtual 110, 3) := by decide +kernel
theorem dX10_parts_79 : decode cX10_parts 79 = .ok (.aload_n 0, 1) := by decide +kernel
theorem dX10_parts_80 : decode cX10_parts 80 = .ok (.iload 12, 2) := by decide +kernel
theorem dX10_parts_82 : decode cX10_parts 82 = .ok (.lload_n 2, 1) := by decide +kernel
theorem dX10_parts_83 : decode cX10_parts 83 = .ok (.lload 4, 2) := by decide +kernel
theorem dX10_parts_85 : decode cX10_parts 85 = .ok (.aload_n 0, 1) := by decide +kernel
theorem dX10_parts_86 : decode cX10_parts 86 = .ok (.getfield 99, 3) := by decide +kernel
theorem dX10_parts_89 : decode cX10_parts 89 = .ok (.aload_n 0, 1) := by decide +kernel
theorem dX10_parts_90 : decode cX10_parts 90 = .ok (.getfield 103, 3) := by decide +kernel
theorem dX10_parts_93 : decode cX10_parts 93 = .ok (.iconst 1, 1) := by decide +kernel
theorem dX10_parts_94 : decode cX10_parts 94 = .ok (.invokevirtual 245, 3) := by decide +kernel
theorem dX10_parts_97 : decode cX10_parts 97 = .ok (.iinc 11 1, 3) := by decide +kernel
theorem dX10_parts_100 : decode cX10_parts 100 = .ok (.goto (-91), 3) := by decide +kernel
theorem dX10_parts_103 : decode cX10_parts 103 = .ok (.aload_n 0, 1) := by decide +kernel
theorem dX10_parts_104 : decode cX10_parts 104 = .ok (.getfield 219, 3) := by decide +kernel
theorem dX10_parts_107 : decode cX10_parts 107 = .ok (.ifCond .eq 4, 3) := by decide +kernel
theorem dX10_parts_110 : decode cX10_parts 110 = .ok (.return_, 1) := by decide +kernel
theorem dX10_parts_111 : decode cX10_parts 111 = .ok (.iload_n 1, 1) := by decide +kernel
theorem dX10_parts_112 : decode cX10_parts 112 = .ok (.istore 11, 2) := by decide +kernel
theorem dX10_parts_114 : decode cX10_parts 114 = .ok (.iconst (-1), 1) := by decide +kernel
theorem dX10_parts_115 : decode cX10_parts 115 = .ok (.istore 12, 2) := by decide +kernel
theorem dX10_parts_117 : decode cX10_parts 117 = .ok (.iconst 0, 1) := by decide +kernel
theorem dX10_parts_118 : decode cX10_parts 118 = .ok (.istore 13, 2) := by decide +kernel
theorem dX10_parts_120 : decode cX10_parts 120 = .ok (.iload 13, 2) := by decide +kernel
theorem dX10_parts_122 : decode cX10_parts 122 = .ok (.iload 10, 2) := by decide +kernel
theorem dX10_parts_124 : decode cX10_parts 124 = .ok (.iconst 2, 1) := by decide +kernel
theorem dX10_parts_125 : decode cX10_parts 125 = .ok (.idiv, 1) := by decide +kernel
theorem dX10_parts_126 : decode cX10_parts 126 = .ok (.if_icmp .ge 28, 3) := by decide +kernel
theorem dX10_parts_129 : decode cX10_parts 129 = .ok (.aload_n 0, 1) := by decide +kernel
theorem dX10_parts_130 : decode cX10_parts 130 = .ok (.iload 11, 2) := by decide +kernel
theorem dX10_parts_132 : decode cX10_parts 132 = .ok (.invokevirtual 272, 3) := by decide +kernel
theorem dX10_parts_135 : decode cX10_parts 135 = .ok (.istore 12, 2) := by decide +kernel
theorem dX10_parts_137 : decode cX10_parts 137 = .ok (.iload 11, 2) := by decide +kernel
theorem dX10_parts_139 : decode cX10_parts 139 = .ok (.iconst 1, 1) := by decide +kernel
theorem dX10_parts_140 : decode cX10_parts 140 = .ok (.iload 12, 2) := by decide +kernel
theorem dX10_parts_142 : decode cX10_parts 142 = .ok (.ishl, 1) := by decide +kernel
theorem dX10_parts_143 : decode cX10_parts 143 = .ok (.iconst (-1), 1) := by decide +kernel
theorem dX10_parts_144 : decode cX10_parts 144 = .ok (.ixor, 1) := by decide +kernel
theorem dX10_parts_145 : decode cX10_parts 145 = .ok (.iand, 1) := by decide +kernel
theorem dX10_parts_146 : decode cX10_parts 146 = .ok (.istore 11, 2) := by decide +kernel
theorem dX10_parts_148 : decode cX10_parts 148 = .ok (.iinc 13 1, 3) := by decide +kernel
theorem dX10_parts_151 : decode cX10_parts 151 = .ok (.goto (-31), 3) := by decide +kernel
theorem dX10_parts_154 : decode cX10_parts 154 = .ok (.aload_n 0, 1) := by decide +kernel
theorem dX10_parts_155 : decode cX10_parts 155 = .ok (.iload 11, 2) := by decide +kernel
theorem dX10_parts_157 : decode cX10_parts 157 = .ok (.aload_n 0, 1) := by decide +kernel
theorem dX10_parts_158 : decode cX10_parts 158 = .ok (.getfield 25, 3) := by decide +kernel
theorem dX10_parts_161 : decode cX10_parts 161 = .ok (.iload 12, 2) := by decide +kernel
theorem dX10_parts_163 : decode cX10_parts 163 = .ok (.laload, 1) := by decide +kernel
theorem dX10_parts_164 : decode cX10_parts 164 = .ok (.aload_n 0, 1) := by decide +kernel
theorem dX10_parts_165 : decode cX10_parts 165 = .ok (.getfield 28, 3) := by decide +kernel
theorem dX10_parts_168 : decode cX10_parts 168 = .ok (.iload 12, 2) := by decide +kernel
theorem dX10_parts_170 : decode cX10_parts 170 = .ok (.laload, 1) := by decide +kernel
theorem dX10_parts_171 : decode cX10_parts 171 = .ok (.lload 6, 2) := by decide +kernel
theorem dX10_parts_173 : decode cX10_parts 173 = .ok (.lload 8, 2) := by decide +kernel
theorem dX10_parts_175 : decode cX10_parts 175 = .ok (.invokevirtual 275, 3) := by decide +kernel
theorem dX10_parts_178 : decode cX10_parts 178 = .ok (.aload_n 0, 1) := by decide +kernel
theorem dX10_parts_179 : decode cX10_parts 179 = .ok (.iload_n 1, 1) := by decide +kernel
theorem dX10_parts_180 : decode cX10_parts 180 = .ok (.iload 11, 2) := by decide +kernel
theorem dX10_parts_182 : decode cX10_parts 182 = .ok (.iconst (-1), 1) := by decide +kernel
theorem dX10_parts_183 : decode cX10_parts 183 = .ok (.ixor, 1) := by decide +kernel
theorem dX10_parts_184 : decode cX10_parts 184 = .ok (.iand, 1) := by decide +kernel
theorem dX10_parts_185 : decode cX10_parts 185 = .ok (.lload_n 2, 1) := by decide +kernel
theorem dX10_parts_186 : decode cX10_parts 186 = .ok (.lload 4, 2) := by decide +kernel
theorem dX10_parts_188 : decode cX10_parts 188 = .ok (.aload_n 0, 1) := by decide +kernel
theorem dX10_parts_189 : decode cX10_parts 189 = .ok (.getfield 25, 3) := by decide +kernel
theorem dX10_parts_192 : decode cX10_parts 192 = .ok (.iload 12, 2) := by decide +kernel
theorem dX10_parts_194 : decode cX10_parts 194 = .ok (.laload, 1) := by decide +kernel
theorem dX10_parts_195 : decode cX10_parts 195 = .ok (.aload_n 0, 1) := by decide +kernel
theorem dX10_parts_196 : decode cX10_parts 196 = .ok (.getfield 28, 3) := by decide +kernel
theorem dX10_parts_199 : decode cX10_parts 199 = .ok (.iload 12, 2) := by decide +kernel
theorem dX10_parts_201 : decode cX10_parts 201 = .ok (.laload, 1) := by decide +kernel
theorem dX10_parts_202 : decode cX10_parts 202 = .ok (.invokevirtual 275, 3) := by decide +kernel
theorem dX10_parts_205 : decode cX10_parts 205 = .ok (.return_, 1) := by decide +kernel
theorem dX10_halves_0 : decode cX10_halves 0 = .ok (.aload_n 0, 1) := by decide +kernel
theorem dX10_halves_1 : decode cX10_halves 1 = .ok (.iconst 0, 1) := by decide +kernel
theorem dX10_halves_2 : decode cX10_halves 2 = .ok (.putfield 266, 3) := by decide +kernel
theorem dX10_halves_5 : decode cX10_halves 5 = .ok (.aload_n 0, 1) := by decide +kernel
theorem dX10_halves_6 : decode cX10_halves 6 = .ok (.iconst 1, 1) := by decide +kernel
theorem dX10_halves_7 : decode cX10_halves 7 = .ok (.aload_n 0, 1) := by decide +kernel
theorem dX10_halves_8 : decode cX10_halves 8 = .ok (.invokevirtual 75, 3) := by decide +kernel
theorem dX10_halves_11 : decode cX10_halves 11 = .ok (.ishl, 1) := by decide +kernel
theorem dX10_halves_12 : decode cX10_halves 12 = .ok (.iconst 1, 1) := by decide +kernel
theorem dX10_halves_13 : decode cX10_halves 13 = .ok (.isub, 1) := by decide +kernel
theorem dX10_halves_14 : decode cX10_halves 14 = .ok (.lconst 0, 1) := by decide +kernel
theorem dX10_halves_15 : decode cX10_halves 15 = .ok (.lconst 1, 1) := by decide +kernel
theorem dX10_halves_16 : decode cX10_halves 16 = .ok (.aload_n 0, 1) := by decide +kernel
theorem dX10_halves_17 : decode cX10_halves 17 = .ok (.invokevirtual 249, 3) := by decide +kernel
theorem dX10_halves_20 : decode cX10_halves 20 = .ok (.lconst 1, 1) := by decide +kernel
theorem dX10_halves_21 : decode cX10_halves 21 = .ok (.invokevirtual 275, 3) := by decide +kernel
theorem dX10_halves_24 : decode cX10_halves 24 = .ok (.aload_n 0, 1) := by decide +kernel
theorem dX10_halves_25 : decode cX10_halves 25 = .ok (.getfield 266, 3) := by decide +kernel
theorem dX10_halves_28 : decode cX10_halves 28 = .ok (.ifCond .le 129, 3) := by decide +kernel
theorem dX10_halves_31 : decode cX10_halves 31 = .ok (.aload_n 0, 1) := by decide +kernel
theorem dX10_halves_32 : decode cX10_halves 32 = .ok (.getfield 219, 3) := by decide +kernel
theorem dX10_halves_35 : decode cX10_halves 35 = .ok (.ifCond .ne 122, 3) := by decide +kernel
theorem dX10_halves_38 : decode cX10_halves 38 = .ok (.aload_n 0, 1) := by decide +kernel
theorem dX10_halves_39 : decode cX10_halves 39 = .ok (.dup, 1) := by decide +kernel
theorem dX10_halves_40 : decode cX10_halves 40 = .ok (.getfield 266, 3) := by decide +kernel
theorem dX10_halves_43 : decode cX10_halves 43 = .ok (.iconst 1, 1) := by decide +kernel
theorem dX10_halves_44 : decode cX10_halves 44 = .ok (.isub, 1) := by decide +kernel
theorem dX10_halves_45 : decode cX10_halves 45 = .ok (.putfield 266, 3) := by decide +kernel
theorem dX10_halves_48 : decode cX10_halves 48 = .ok (.aload_n 0, 1) := by decide +kernel
theorem dX10_halves_49 : decode cX10_halves 49 = .ok (.getfield 31, 3) := by decide +kernel
theorem dX10_halves_52 : decode cX10_halves 52 = .ok (.aload_n 0, 1) := by decide +kernel
theorem dX10_halves_53 : decode cX10_halves 53 = .ok (.getfield 266, 3) := by decide +kernel
theorem dX10_halves_56 : decode cX10_halves 56 = .ok (.iaload, 1) := by decide +kernel
theorem dX10_halves_57 : decode cX10_halves 57 = .ok (.istore_n 1, 1) := by decide +kernel
theorem dX10_halves_58 : decode cX10_halves 58 = .ok (.aload_n 0, 1) := by decide +kernel
theorem dX10_halves_59 : decode cX10_halves 59 = .ok (.getfield 34, 3) := by decide +kernel
theorem dX10_halves_62 : decode cX10_halves 62 = .ok (.iconst 4, 1) := by decide +kernel
theorem dX10_halves_63 : decode cX10_halves 63 = .ok (.aload_n 0, 1) := by decide +kernel
theorem dX10_halves_64 : decode cX10_halves 64 = .ok (.getfield 266, 3) := by decide +kernel
theorem dX10_halves_67 : decode cX10_halves 67 = .ok (.imul, 1) := by decide +kernel
theorem dX10_halves_68 : decode cX10_halves 68 = .ok (.laload, 1) := by decide +kernel
theorem dX10_halves_69 : decode cX10_halves 69 = .ok (.lstore_n 2, 1) := by decide +kernel
theorem dX10_halves_70 : decode cX10_halves 70 = .ok (.aload_n 0, 1) := by decide +kernel
theorem dX10_halves_71 : decode cX10_halves 71 = .ok (.getfield 34, 3) := by decide +kernel
theorem dX10_halves_74 : decode cX10_halves 74 = .ok (.iconst 4, 1) := by decide +kernel
theorem dX10_halves_75 : decode cX10_halves 75 = .ok (.aload_n 0, 1) := by decide +kernel
theorem dX10_halves_76 : decode cX10_halves 76 = .ok (.getfield 266, 3) := by decide +kernel
theorem dX10_halves_79 : decode cX10_halves 79 = .ok (.imul, 1) := by decide +kernel
theorem dX10_halves_80 : decode cX10_halves 80 = .ok (.iconst 1, 1) := by decide +kernel
theorem dX10_halves_81 : decode cX10_halves 81 = .ok (.iadd, 1) := by decide +kernel
theorem dX10_halves_82 : decode cX10_halves 82 = .ok (.laload, 1) := by decide +kernel
theorem dX10_halves_83 : decode cX10_halves 83 = .ok (.lstore 4, 2) := by decide +kernel
theorem dX10_halves_85 : decode cX10_halves 85 = .ok (.aload_n 0, 1) := by decide +kernel
theorem dX10_halves_86 : decode cX10_halves 86 = .ok (.getfield 34, 3) := by decide +kernel
theorem dX10_halves_89 : decode cX10_halves 89 = .ok (.iconst 4, 1) := by decide +kernel
theorem dX10_halves_90 : decode cX10_halves 90 = .ok (.aload_n 0, 1) := by decide +kernel
theorem dX10_halves_91 : decode cX10_halves 91 = .ok (.getfield 266, 3) := by decide +kernel
theorem dX10_halves_94 : decode cX10_halves 94 = .ok (.imul, 1) := by decide +kernel
theorem dX10_halves_95 : decode cX10_halves 95 = .ok (.iconst 2, 1) := by decide +kernel
theorem dX10_halves_96 : decode cX10_halves 96 = .ok (.iadd, 1) := by decide +kernel
theorem dX10_halves_97 : decode cX10_halves 97 = .ok (.laload, 1) := by decide +kernel
theorem dX10_halves_98 : decode cX10_halves 98 = .ok (.lstore 6, 2) := by decide +kernel
theorem dX10_halves_100 : decode cX10_halves 100 = .ok (.aload_n 0, 1) := by decide +kernel
theorem dX10_halves_101 : decode cX10_halves 101 = .ok (.getfield 34, 3) := by decide +kernel
theorem dX10_halves_104 : decode cX10_halves 104 = .ok (.iconst 4, 1) := by decide +kernel
theorem dX10_halves_105 : decode cX10_halves 105 = .ok (.aload_n 0, 1) := by decide +kernel
theorem dX10_halves_106 : decode cX10_halves 106 = .ok (.getfield 266, 3) := by decide +kernel
theorem dX10_halves_109 : decode cX10_halves 109 = .ok (.imul, 1) := by decide +kernel
theorem dX10_halves_110 : decode cX10_halves 110 = .ok (.iconst 3, 1) := by decide +kernel
theorem dX10_halves_111 : decode cX10_halves 111 = .ok (.iadd, 1) := by decide +kernel
theorem dX10_halves_112 : decode cX10_halves 112 = .ok (.laload, 1) := by decide +kernel
theorem dX10_halves_113 : decode cX10_halves 113 = .ok (.lstore 8, 2) := by decide +kernel
theorem dX10_halves_115 : decode cX10_halves 115 = .ok (.iload_n 1, 1) := by decide +kernel
theorem dX10_halves_116 : decode cX10_halves 116 = .ok (.invokestatic 269, 3) := by decide +kernel
theorem dX10_halves_119 : decode cX10_halves 119 = .ok (.iconst 1, 1) := by decide +kernel
theorem dX10_halves_120 : decode cX10_halves 120 = .ok (.if_icmp .ne 22, 3) := by decide +kernel
theorem dX10_halves_123 : decode cX10_halves 123 = .ok (.aload_n 0, 1) := by decide +kernel
theorem dX10_halves_124 : decode cX10_halves 124 = .ok (.aload_n 0, 1) := by decide +kernel
theorem dX10_halves_125 : decode cX10_halves 125 = .ok (.iload_n 1, 1) := by decide +kernel
theorem dX10_halves_126 : decode cX10_halves 126 = .ok (.invokevirtual 256, 3) := by decide +kernel
theorem dX10_halves_129 : decode cX10_halves 129 = .ok (.lload_n 2, 1) := by decide +kernel
theorem dX10_halves_130 : decode cX10_halves 130 = .ok (.lload 4, 2) := by decide +kernel
theorem dX10_halves_132 : decode cX10_halves 132 = .ok (.lload 6, 2) := by decide +kernel
theorem dX10_halves_134 : decode cX10_halves 134 = .ok (.lload 8, 2) := by decide +kernel
theorem dX10_halves_136 : decode cX10_halves 136 = .ok (.invokevirtual 253, 3) := by decide +kernel
theorem dX10_halves_139 : decode cX10_halves 139 = .ok (.goto 15, 3) := by decide +kernel
theorem dX10_halves_142 : decode cX10_halves 142 = .ok (.aload_n 0, 1) := by decide +kernel
theorem dX10_halves_143 : decode cX10_halves 143 = .ok (.iload_n 1, 1) := by decide +kernel
theorem dX10_halves_144 : decode cX10_halves 144 = .ok (.lload_n 2, 1) := by decide +kernel
theorem dX10_halves_145 : decode cX10_halves 145 = .ok (.lload 4, 2) := by decide +kernel
theorem dX10_halves_147 : decode cX10_halves 147 = .ok (.lload 6, 2) := by decide +kernel
theorem dX10_halves_149 : decode cX10_halves 149 = .ok (.lload 8, 2) := by decide +kernel
theorem dX10_halves_151 : decode cX10_halves 151 = .ok (.invokevirtual 278, 3) := by decide +kernel
theorem dX10_halves_154 : decode cX10_halves 154 = .ok (.goto (-130), 3) := by decide +kernel
theorem dX10_halves_157 : decode cX10_halves 157 = .ok (.return_, 1) := by decide +kernel
theorem dX10_pieces_0 : decode cX10_pieces 0 = .ok (.aload_n 0, 1) := by decide +kernel
theorem dX10_pieces_1 : decode cX10_pieces 1 = .ok (.getfield 37, 3) := by decide +kernel
theorem dX10_pieces_4 : decode cX10_pieces 4 = .ok (.iconst 4, 1) := by decide +kernel
theorem dX10_pieces_5 : decode cX10_pieces 5 = .ok (.iload_n 1, 1) := by decide +kernel
theorem dX10_pieces_6 : decode cX10_pieces 6 = .ok (.imul, 1) := by decide +kernel
theorem dX10_pieces_7 : decode cX10_pieces 7 = .ok (.lload_n 2, 1) := by decide +kernel
theorem dX10_pieces_8 : decode cX10_pieces 8 = .ok (.lastore, 1) := by decide +kernel
theorem dX10_pieces_9 : decode cX10_pieces 9 = .ok (.aload_n 0, 1) := by decide +kernel
theorem dX10_pieces_10 : decode cX10_pieces 10 = .ok (.getfield 37, 3) := by decide +kernel
theorem dX10_pieces_13 : decode cX10_pieces 13 = .ok (.iconst 4, 1) := by decide +kernel
theorem dX10_pieces_14 : decode cX10_pieces 14 = .ok (.iload_n 1, 1) := by decide +kernel
theorem dX10_pieces_15 : decode cX10_pieces 15 = .ok (.imul, 1) := by decide +kernel
theorem dX10_pieces_16 : decode cX10_pieces 16 = .ok (.iconst 1, 1) := by decide +kernel
theorem dX10_pieces_17 : decode cX10_pieces 17 = .ok (.iadd, 1) := by decide +kernel
theorem dX10_pieces_18 : decode cX10_pieces 18 = .ok (.lload 4, 2) := by decide +kernel
theorem dX10_pieces_20 : decode cX10_pieces 20 = .ok (.lastore, 1) := by decide +kernel
theorem dX10_pieces_21 : decode cX10_pieces 21 = .ok (.aload_n 0, 1) := by decide +kernel
theorem dX10_pieces_22 : decode cX10_pieces 22 = .ok (.getfield 37, 3) := by decide +kernel
theorem dX10_pieces_25 : decode cX10_pieces 25 = .ok (.iconst 4, 1) := by decide +kernel
theorem dX10_pieces_26 : decode cX10_pieces 26 = .ok (.iload_n 1, 1) := by decide +kernel
theorem dX10_pieces_27 : decode cX10_pieces 27 = .ok (.imul, 1) := by decide +kernel
theorem dX10_pieces_28 : decode cX10_pieces 28 = .ok (.iconst 2, 1) := by decide +kernel
theorem dX10_pieces_29 : decode cX10_pieces 29 = .ok (.iadd, 1) := by decide +kernel
theorem dX10_pieces_30 : decode cX10_pieces 30 = .ok (.lload 6, 2) := by decide +kernel
theorem dX10_pieces_32 : decode cX10_pieces 32 = .ok (.lastore, 1) := by decide +kernel
theorem dX10_pieces_33 : decode cX10_pieces 33 = .ok (.aload_n 0, 1) := by decide +kernel
theorem dX10_pieces_34 : decode cX10_pieces 34 = .ok (.getfield 37, 3) := by decide +kernel
theorem dX10_pieces_37 : decode cX10_pieces 37 = .ok (.iconst 4, 1) := by decide +kernel
theorem dX10_pieces_38 : decode cX10_pieces 38 = .ok (.iload_n 1, 1) := by decide +kernel
theorem dX10_pieces_39 : decode cX10_pieces 39 = .ok (.imul, 1) := by decide +kernel
theorem dX10_pieces_40 : decode cX10_pieces 40 = .ok (.iconst 3, 1) := by decide +kernel
theorem dX10_pieces_41 : decode cX10_pieces 41 = .ok (.iadd, 1) := by decide +kernel
theorem dX10_pieces_42 : decode cX10_pieces 42 = .ok (.lload 8, 2) := by decide +kernel
theorem dX10_pieces_44 : decode cX10_pieces 44 = .ok (.lastore, 1) := by decide +kernel
theorem dX10_pieces_45 : decode cX10_pieces 45 = .ok (.return_, 1) := by decide +kernel
theorem dX10_worthOfPiece_0 : decode cX10_worthOfPiece 0 = .ok (.aload_n 0, 1) := by decide +kernel
theorem dX10_worthOfPiece_1 : decode cX10_worthOfPiece 1 = .ok (.iload_n 1, 1) := by decide +kernel
theorem dX10_worthOfPiece_2 : decode cX10_worthOfPiece 2 = .ok (.iconst 1, 1) := by decide +kernel
theorem dX10_worthOfPiece_3 : decode cX10_worthOfPiece 3 = .ok (.aload_n 0, 1) := by decide +kernel
theorem dX10_worthOfPiece_4 : decode cX10_worthOfPiece 4 = .ok (.getfield 37, 3) := by decide +kernel
theorem dX10_worthOfPiece_7 : decode cX10_worthOfPiece 7 = .ok (.iconst 4, 1) := by decide +kernel
theorem dX10_worthOfPiece_8 : decode cX10_worthOfPiece 8 = .ok (.iload_n 2, 1) := by decide +kernel
theorem dX10_worthOfPiece_9 : decode cX10_worthOfPiece 9 = .ok (.imul, 1) := by decide +kernel
theorem dX10_worthOfPiece_10 : decode cX10_worthOfPiece 10 = .ok (.laload, 1) := by decide +kernel
theorem dX10_worthOfPiece_11 : decode cX10_worthOfPiece 11 = .ok (.aload_n 0, 1) := by decide +kernel
theorem dX10_worthOfPiece_12 : decode cX10_worthOfPiece 12 = .ok (.getfield 37, 3) := by decide +kernel
theorem dX10_worthOfPiece_15 : decode cX10_worthOfPiece 15 = .ok (.iconst 4, 1) := by decide +kernel
theorem dX10_worthOfPiece_16 : decode cX10_worthOfPiece 16 = .ok (.iload_n 2, 1) := by decide +kernel
theorem dX10_worthOfPiece_17 : decode cX10_worthOfPiece 17 = .ok (.imul, 1) := by decide +kernel
theorem dX10_worthOfPiece_18 : decode cX10_worthOfPiece 18 = .ok (.iconst 1, 1) := by decide +kernel
theorem dX10_worthOfPiece_19 : decode cX10_worthOfPiece 19 = .ok (.iadd, 1) := by decide +kernel
theorem dX10_worthOfPiece_20 : decode cX10_worthOfPiece 20 = .ok (.laload, 1) := by decide +kernel
theorem dX10_worthOfPiece_21 : decode cX10_worthOfPiece 21 = .ok (.aload_n 0, 1) := by decide +kernel
theorem dX10_worthOfPiece_22 : decode cX10_worthOfPiece 22 = .ok (.getfield 37, 3) := by decide +kernel
theorem dX10_worthOfPiece_25 : decode cX10_worthOfPiece 25 = .ok (.iconst 4, 1) := by decide +kernel
theorem dX10_worthOfPiece_26 : decode cX10_worthOfPiece 26 = .ok (.iload_n 2, 1) := by decide +kernel
theorem dX10_worthOfPiece_27 : decode cX10_worthOfPiece 27 = .ok (.imul, 1) := by decide +kernel
theorem dX10_worthOfPiece_28 : decode cX10_worthOfPiece 28 = .ok (.iconst 2, 1) := by decide +kernel
theorem dX10_worthOfPiece_29 : decode cX10_worthOfPiece 29 = .ok (.iadd, 1) := by decide +kernel
theorem dX10_worthOfPiece_30 : decode cX10_worthOfPiece 30 = .ok (.laload, 1) := by decide +kernel
theorem dX10_worthOfPiece_31 : decode cX10_worthOfPiece 31 = .ok (.aload_n 0, 1) := by decide +kernel
theorem dX10_worthOfPiece_32 : decode cX10_worthOfPiece 32 = .ok (.getfield 37, 3) := by decide +kernel
theorem dX10_worthOfPiece_35 : decode cX10_worthOfPiece 35 = .ok (.iconst 4, 1) := by decide +kernel
theorem dX10_worthOfPiece_36 : decode cX10_worthOfPiece 36 = .ok (.iload_n 2, 1) := by decide +kernel
theorem dX10_worthOfPiece_37 : decode cX10_worthOfPiece 37 = .ok (.imul, 1) := by decide +kernel
theorem dX10_worthOfPiece_38 : decode cX10_worthOfPiece 38 = .ok (.iconst 3, 1) := by decide +kernel
theorem dX10_worthOfPiece_39 : decode cX10_worthOfPiece 39 = .ok (.iadd, 1) := by decide +kernel
theorem dX10_worthOfPiece_40 : decode cX10_worthOfPiece 40 = .ok (.laload, 1) := by decide +kernel
theorem dX10_worthOfPiece_41 : decode cX10_worthOfPiece 41 = .ok (.invokevirtual 118, 3) := by decide +kernel
theorem dX10_worthOfPiece_44 : decode cX10_worthOfPiece 44 = .ok (.return_, 1) := by decide +kernel
theorem dX10_mostFor_0 : decode cX10_mostFor 0 = .ok (.iconst (-1), 1) := by decide +kernel
theorem dX10_mostFor_1 : decode cX10_mostFor 1 = .ok (.istore_n 3, 1) := by decide +kernel
theorem dX10_mostFor_2 : decode cX10_mostFor 2 = .ok (.lconst 0, 1) := by decide +kernel
theorem dX10_mostFor_3 : decode cX10_mostFor 3 = .ok (.lstore 4, 2) := by decide +kernel
theorem dX10_mostFor_5 : decode cX10_mostFor 5 = .ok (.lconst 1, 1) := by decide +kernel
theorem dX10_mostFor_6 : decode cX10_mostFor 6 = .ok (.lstore 6, 2) := by decide +kernel
theorem dX10_mostFor_8 : decode cX10_mostFor 8 = .ok (.iconst 0, 1) := by decide +kernel
theorem dX10_mostFor_9 : decode cX10_mostFor 9 = .ok (.istore 8, 2) := by decide +kernel
theorem dX10_mostFor_11 : decode cX10_mostFor 11 = .ok (.iload 8, 2) := by decide +kernel
theorem dX10_mostFor_13 : decode cX10_mostFor 13 = .ok (.iconst 3, 1) := by decide +kernel
theorem dX10_mostFor_14 : decode cX10_mostFor 14 = .ok (.if_icmp .ge 63, 3) := by decide +kernel
theorem dX10_mostFor_17 : decode cX10_mostFor 17 = .ok (.iload_n 2, 1) := by decide +kernel
theorem dX10_mostFor_18 : decode cX10_mostFor 18 = .ok (.iload 8, 2) := by decide +kernel
theorem dX10_mostFor_20 : decode cX10_mostFor 20 = .ok (.ishr, 1) := by decide +kernel
theorem dX10_mostFor_21 : decode cX10_mostFor 21 = .ok (.iconst 1, 1) := by decide +kernel
theorem dX10_mostFor_22 : decode cX10_mostFor 22 = .ok (.iand, 1) := by decide +kernel
theorem dX10_mostFor_23 : decode cX10_mostFor 23 = .ok (.iconst 1, 1) := by decide +kernel
theorem dX10_mostFor_24 : decode cX10_mostFor 24 = .ok (.if_icmp .ne 47, 3) := by decide +kernel
theorem dX10_mostFor_27 : decode cX10_mostFor 27 = .ok (.aload_n 0, 1) := by decide +kernel
theorem dX10_mostFor_28 : decode cX10_mostFor 28 = .ok (.iload_n 1, 1) := by decide +kernel
theorem dX10_mostFor_29 : decode cX10_mostFor 29 = .ok (.iload 8, 2) := by decide +kernel
theorem dX10_mostFor_31 : decode cX10_mostFor 31 = .ok (.invokevirtual 281, 3) := by decide +kernel
theorem dX10_mostFor_34 : decode cX10_mostFor 34 = .ok (.iload_n 3, 1) := by decide +kernel
theorem dX10_mostFor_35 : decode cX10_mostFor 35 = .ok (.ifCond .lt 21, 3) := by decide +kernel
theorem dX10_mostFor_38 : decode cX10_mostFor 38 = .ok (.lload 4, 2) := by decide +kernel
theorem dX10_mostFor_40 : decode cX10_mostFor 40 = .ok (.lload 6, 2) := by decide +kernel
theorem dX10_mostFor_42 : decode cX10_mostFor 42 = .ok (.aload_n 0, 1) := by decide +kernel
theorem dX10_mostFor_43 : decode cX10_mostFor 43 = .ok (.getfield 99, 3) := by decide +kernel
theorem dX10_mostFor_46 : decode cX10_mostFor 46 = .ok (.aload_n 0, 1) := by decide +kernel
theorem dX10_mostFor_47 : decode cX10_mostFor 47 = .ok (.getfield 103, 3) := by decide +kernel
theorem dX10_mostFor_50 : decode cX10_mostFor 50 = .ok (.invokestatic 199, 3) := by decide +kernel
theorem dX10_mostFor_53 : decode cX10_mostFor 53 = .ok (.ifCond .eq 18, 3) := by decide +kernel
theorem dX10_mostFor_56 : decode cX10_mostFor 56 = .ok (.iload 8, 2) := by decide +kernel
theorem dX10_mostFor_58 : decode cX10_mostFor 58 = .ok (.istore_n 3, 1) := by decide +kernel
theorem dX10_mostFor_59 : decode cX10_mostFor 59 = .ok (.aload_n 0, 1) := by decide +kernel
theorem dX10_mostFor_60 : decode cX10_mostFor 60 = .ok (.getfield 99, 3) := by decide +kernel
theorem dX10_mostFor_63 : decode cX10_mostFor 63 = .ok (.lstore 4, 2) := by decide +kernel
theorem dX10_mostFor_65 : decode cX10_mostFor 65 = .ok (.aload_n 0, 1) := by decide +kernel
theorem dX10_mostFor_66 : decode cX10_mostFor 66 = .ok (.getfield 103, 3) := by decide +kernel
theorem dX10_mostFor_69 : decode cX10_mostFor 69 = .ok (.lstore 6, 2) := by decide +kernel
theorem dX10_mostFor_71 : decode cX10_mostFor 71 = .ok (.iinc 8 1, 3) := by decide +kernel
theorem dX10_mostFor_74 : decode cX10_mostFor 74 = .ok (.goto (-63), 3) := by decide +kernel
theorem dX10_mostFor_77 : decode cX10_mostFor 77 = .ok (.iload_n 3, 1) := by decide +kernel
theorem dX10_mostFor_78 : decode cX10_mostFor 78 = .ok (.ireturn, 1) := by decide +kernel
theorem dX10_takesPiece_0 : decode cX10_takesPiece 0 = .ok (.aload_n 0, 1) := by decide +kernel
theorem dX10_takesPiece_1 : decode cX10_takesPiece 1 = .ok (.iload_n 1, 1) := by decide +kernel
theorem dX10_takesPiece_2 : decode cX10_takesPiece 2 = .ok (.aload_n 0, 1) := by decide +kernel
theorem dX10_takesPiece_3 : decode cX10_takesPiece 3 = .ok (.getfield 37, 3) := by decide +kernel
theorem dX10_takesPiece_6 : decode cX10_takesPiece 6 = .ok (.iconst 4, 1) := by decide +kernel
theorem dX10_takesPiece_7 : decode cX10_takesPiece 7 = .ok (.iload_n 2, 1) := by decide +kernel
theorem dX10_takesPiece_8 : decode cX10_takesPiece 8 = .ok (.imul, 1) := by decide +kernel
theorem dX10_takesPiece_9 : decode cX10_takesPiece 9 = .ok (.laload, 1) := by decide +kernel
theorem dX10_takesPiece_10 : decode cX10_takesPiece 10 = .ok (.aload_n 0, 1) := by decide +kernel
theorem dX10_takesPiece_11 : decode cX10_takesPiece 11 = .ok (.getfield 37, 3) := by decide +kernel
theorem dX10_takesPiece_14 : decode cX10_takesPiece 14 = .ok (.iconst 4, 1) := by decide +kernel
theorem dX10_takesPiece_15 : decode cX10_takesPiece 15 = .ok (.iload_n 2, 1) := by decide +kernel
theorem dX10_takesPiece_16 : decode cX10_takesPiece 16 = .ok (.imul, 1) := by decide +kernel
theorem dX10_takesPiece_17 : decode cX10_takesPiece 17 = .ok (.iconst 1, 1) := by decide +kernel
theorem dX10_takesPiece_18 : decode cX10_takesPiece 18 = .ok (.iadd, 1) := by decide +kernel
theorem dX10_takesPiece_19 : decode cX10_takesPiece 19 = .ok (.laload, 1) := by decide +kernel
theorem dX10_takesPiece_20 : decode cX10_takesPiece 20 = .ok (.aload_n 0, 1) := by decide +kernel
theorem dX10_takesPiece_21 : decode cX10_takesPiece 21 = .ok (.getfield 37, 3) := by decide +kernel
theorem dX10_takesPiece_24 : decode cX10_takesPiece 24 = .ok (.iconst 4, 1) := by decide +kernel
theorem dX10_takesPiece_25 : decode cX10_takesPiece 25 = .ok (.iload_n 2, 1) := by decide +kernel
theorem dX10_takesPiece_26 : decode cX10_takesPiece 26 = .ok (.imul, 1) := by decide +kernel
theorem dX10_takesPiece_27 : decode cX10_takesPiece 27 = .ok (.iconst 2, 1) := by decide +kernel
theorem dX10_takesPiece_28 : decode cX10_takesPiece 28 = .ok (.iadd, 1) := by decide +kernel
theorem dX10_takesPiece_29 : decode cX10_takesPiece 29 = .ok (.laload, 1) := by decide +kernel
theorem dX10_takesPiece_30 : decode cX10_takesPiece 30 = .ok (.aload_n 0, 1) := by decide +kernel
theorem dX10_takesPiece_31 : decode cX10_takesPiece 31 = .ok (.getfield 37, 3) := by decide +kernel
theorem dX10_takesPiece_34 : decode cX10_takesPiece 34 = .ok (.iconst 4, 1) := by decide +kernel
theorem dX10_takesPiece_35 : decode cX10_takesPiece 35 = .ok (.iload_n 2, 1) := by decide +kernel
theorem dX10_takesPiece_36 : decode cX10_takesPiece 36 = .ok (.imul, 1) := by decide +kernel
theorem dX10_takesPiece_37 : decode cX10_takesPiece 37 = .ok (.iconst 3, 1) := by decide +kernel
theorem dX10_takesPiece_38 : decode cX10_takesPiece 38 = .ok (.iadd, 1) := by decide +kernel
theorem dX10_takesPiece_39 : decode cX10_takesPiece 39 = .ok (.laload, 1) := by decide +kernel
theorem dX10_takesPiece_40 : decode cX10_takesPiece 40 = .ok (.invokevirtual 253, 3) := by decide +kernel
theorem dX10_takesPiece_43 : decode cX10_takesPiece 43 = .ok (.return_, 1) := by decide +kernel
theorem dX10_thirds_0 : decode cX10_thirds 0 = .ok (.aload_n 0, 1) := by decide +kernel
theorem dX10_thirds_1 : decode cX10_thirds 1 = .ok (.iload_n 1, 1) := by decide +kernel
theorem dX10_thirds_2 : decode cX10_thirds 2 = .ok (.iconst 1, 1) := by decide +kernel
theorem dX10_thirds_3 : decode cX10_thirds 3 = .ok (.lload_n 2, 1) := by decide +kernel
theorem dX10_thirds_4 : decode cX10_thirds 4 = .ok (.lload 4, 2) := by decide +kernel
theorem dX10_thirds_6 : decode cX10_thirds 6 = .ok (.lload 6, 2) := by decide +kernel
theorem dX10_thirds_8 : decode cX10_thirds 8 = .ok (.lload 8, 2) := by decide +kernel
theorem dX10_thirds_10 : decode cX10_thirds 10 = .ok (.invokevirtual 118, 3) := by decide +kernel
theorem dX10_thirds_13 : decode cX10_thirds 13 = .ok (.aload_n 0, 1) := by decide +kernel
theorem dX10_thirds_14 : decode cX10_thirds 14 = .ok (.getfield 99, 3) := by decide +kernel
theorem dX10_thirds_17 : decode cX10_thirds 17 = .ok (.lstore 10, 2) := by decide +kernel
theorem dX10_thirds_19 : decode cX10_thirds 19 = .ok (.aload_n 0, 1) := by decide +kernel
theorem dX10_thirds_20 : decode cX10_thirds 20 = .ok (.getfield 103, 3) := by decide +kernel
theorem dX10_thirds_23 : decode cX10_thirds 23 = .ok (.lstore 12, 2) := by decide +kernel
theorem dX10_thirds_25 : decode cX10_thirds 25 = .ok (.aload_n 0, 1) := by decide +kernel
theorem dX10_thirds_26 : decode cX10_thirds 26 = .ok (.iload_n 1, 1) := by decide +kernel
theorem dX10_thirds_27 : decode cX10_thirds 27 = .ok (.lload_n 2, 1) := by decide +kernel
theorem dX10_thirds_28 : decode cX10_thirds 28 = .ok (.lload 4, 2) := by decide +kernel
theorem dX10_thirds_30 : decode cX10_thirds 30 = .ok (.lload 10, 2) := by decide +kernel
theorem dX10_thirds_32 : decode cX10_thirds 32 = .ok (.ldc2_w 136, 3) := by decide +kernel
theorem dX10_thirds_35 : decode cX10_thirds 35 = .ok (.lload 12, 2) := by decide +kernel
theorem dX10_thirds_37 : decode cX10_thirds 37 = .ok (.lmul, 1) := by decide +kernel
theorem dX10_thirds_38 : decode cX10_thirds 38 = .ok (.iconst 1, 1) := by decide +kernel
theorem dX10_thirds_39 : decode cX10_thirds 39 = .ok (.invokevirtual 245, 3) := by decide +kernel
theorem dX10_thirds_42 : decode cX10_thirds 42 = .ok (.aload_n 0, 1) := by decide +kernel
theorem dX10_thirds_43 : decode cX10_thirds 43 = .ok (.getfield 25, 3) := by decide +kernel
theorem dX10_thirds_46 : decode cX10_thirds 46 = .ok (.iload_n 1, 1) := by decide +kernel
theorem dX10_thirds_47 : decode cX10_thirds 47 = .ok (.laload, 1) := by decide +kernel
theorem dX10_thirds_48 : decode cX10_thirds 48 = .ok (.lstore 14, 2) := by decide +kernel
theorem dX10_thirds_50 : decode cX10_thirds 50 = .ok (.aload_n 0, 1) := by decide +kernel
theorem dX10_thirds_51 : decode cX10_thirds 51 = .ok (.getfield 28, 3) := by decide +kernel
theorem dX10_thirds_54 : decode cX10_thirds 54 = .ok (.iload_n 1, 1) := by decide +kernel
theorem dX10_thirds_55 : decode cX10_thirds 55 = .ok (.laload, 1) := by decide +kernel
theorem dX10_thirds_56 : decode cX10_thirds 56 = .ok (.lstore 16, 2) := by decide +kernel
theorem dX10_thirds_58 : decode cX10_thirds 58 = .ok (.aload_n 0, 1) := by decide +kernel
theorem dX10_thirds_59 : decode cX10_thirds 59 = .ok (.getfield 219, 3) := by decide +kernel
theorem dX10_thirds_62 : decode cX10_thirds 62 = .ok (.ifCond .eq 4, 3) := by decide +kernel
theorem dX10_thirds_65 : decode cX10_thirds 65 = .ok (.return_, 1) := by decide +kernel
theorem dX10_thirds_66 : decode cX10_thirds 66 = .ok (.aload_n 0, 1) := by decide +kernel
theorem dX10_thirds_67 : decode cX10_thirds 67 = .ok (.ldc2_w 69, 3) := by decide +kernel
theorem dX10_thirds_70 : decode cX10_thirds 70 = .ok (.lload 10, 2) := by decide +kernel
theorem dX10_thirds_72 : decode cX10_thirds 72 = .ok (.lmul, 1) := by decide +kernel
theorem dX10_thirds_73 : decode cX10_thirds 73 = .ok (.ldc2_w 136, 3) := by decide +kernel
theorem dX10_thirds_76 : decode cX10_thirds 76 = .ok (.lload 12, 2) := by decide +kernel
theorem dX10_thirds_78 : decode cX10_thirds 78 = .ok (.lmul, 1) := by decide +kernel
theorem dX10_thirds_79 : decode cX10_thirds 79 = .ok (.invokevirtual 110, 3) := by decide +kernel
theorem dX10_thirds_82 : decode cX10_thirds 82 = .ok (.aload_n 0, 1) := by decide +kernel
theorem dX10_thirds_83 : decode cX10_thirds 83 = .ok (.iload_n 1, 1) := by decide +kernel
theorem dX10_thirds_84 : decode cX10_thirds 84 = .ok (.lload_n 2, 1) := by decide +kernel
theorem dX10_thirds_85 : decode cX10_thirds 85 = .ok (.lload 4, 2) := by decide +kernel
theorem dX10_thirds_87 : decode cX10_thirds 87 = .ok (.aload_n 0, 1) := by decide +kernel
theorem dX10_thirds_88 : decode cX10_thirds 88 = .ok (.getfield 99, 3) := by decide +kernel
theorem dX10_thirds_91 : decode cX10_thirds 91 = .ok (.aload_n 0, 1) := by decide +kernel
theorem dX10_thirds_92 : decode cX10_thirds 92 = .ok (.getfield 103, 3) := by decide +kernel
theorem dX10_thirds_95 : decode cX10_thirds 95 = .ok (.iconst 1, 1) := by decide +kernel
theorem dX10_thirds_96 : decode cX10_thirds 96 = .ok (.invokevirtual 245, 3) := by decide +kernel
theorem dX10_thirds_99 : decode cX10_thirds 99 = .ok (.aload_n 0, 1) := by decide +kernel
theorem dX10_thirds_100 : decode cX10_thirds 100 = .ok (.iconst 0, 1) := by decide +kernel
theorem dX10_thirds_101 : decode cX10_thirds 101 = .ok (.lload_n 2, 1) := by decide +kernel
theorem dX10_thirds_102 : decode cX10_thirds 102 = .ok (.lload 4, 2) := by decide +kernel
theorem dX10_thirds_104 : decode cX10_thirds 104 = .ok (.lload 14, 2) := by decide +kernel
theorem dX10_thirds_106 : decode cX10_thirds 106 = .ok (.lload 16, 2) := by decide +kernel
theorem dX10_thirds_108 : decode cX10_thirds 108 = .ok (.invokevirtual 284, 3) := by decide +kernel
theorem dX10_thirds_111 : decode cX10_thirds 111 = .ok (.aload_n 0, 1) := by decide +kernel
theorem dX10_thirds_112 : decode cX10_thirds 112 = .ok (.iconst 1, 1) := by decide +kernel
theorem dX10_thirds_113 : decode cX10_thirds 113 = .ok (.lload 14, 2) := by decide +kernel
theorem dX10_thirds_115 : decode cX10_thirds 115 = .ok (.lload 16, 2) := by decide +kernel
theorem dX10_thirds_117 : decode cX10_thirds 117 = .ok (.aload_n 0, 1) := by decide +kernel
theorem dX10_thirds_118 : decode cX10_thirds 118 = .ok (.getfield 25, 3) := by decide +kernel
theorem dX10_thirds_121 : decode cX10_thirds 121 = .ok (.iload_n 1, 1) := by decide +kernel
theorem dX10_thirds_122 : decode cX10_thirds 122 = .ok (.laload, 1) := by decide +kernel
theorem dX10_thirds_123 : decode cX10_thirds 123 = .ok (.aload_n 0, 1) := by decide +kernel
theorem dX10_thirds_124 : decode cX10_thirds 124 = .ok (.getfield 28, 3) := by decide +kernel
theorem dX10_thirds_127 : decode cX10_thirds 127 = .ok (.iload_n 1, 1) := by decide +kernel
theorem dX10_thirds_128 : decode cX10_thirds 128 = .ok (.laload, 1) := by decide +kernel
theorem dX10_thirds_129 : decode cX10_thirds 129 = .ok (.invokevirtual 284, 3) := by decide +kernel
theorem dX10_thirds_132 : decode cX10_thirds 132 = .ok (.aload_n 0, 1) := by decide +kernel
theorem dX10_thirds_133 : decode cX10_thirds 133 = .ok (.iconst 2, 1) := by decide +kernel
theorem dX10_thirds_134 : decode cX10_thirds 134 = .ok (.aload_n 0, 1) := by decide +kernel
theorem dX10_thirds_135 : decode cX10_thirds 135 = .ok (.getfield 25, 3) := by decide +kernel
theorem dX10_thirds_138 : decode cX10_thirds 138 = .ok (.iload_n 1, 1) := by decide +kernel
theorem dX10_thirds_139 : decode cX10_thirds 139 = .ok (.laload, 1) := by decide +kernel
theorem dX10_thirds_140 : decode cX10_thirds 140 = .ok (.aload_n 0, 1) := by decide +kernel
theorem dX10_thirds_141 : decode cX10_thirds 141 = .ok (.getfield 28, 3) := by decide +kernel
theorem dX10_thirds_144 : decode cX10_thirds 144 = .ok (.iload_n 1, 1) := by decide +kernel
theorem dX10_thirds_145 : decode cX10_thirds 145 = .ok (.laload, 1) := by decide +kernel
theorem dX10_thirds_146 : decode cX10_thirds 146 = .ok (.lload 6, 2) := by decide +kernel
theorem dX10_thirds_148 : decode cX10_thirds 148 = .ok (.lload 8, 2) := by decide +kernel
theorem dX10_thirds_150 : decode cX10_thirds 150 = .ok (.invokevirtual 284, 3) := by decide +kernel
theorem dX10_thirds_153 : decode cX10_thirds 153 = .ok (.return_, 1) := by decide +kernel
theorem dX10_trims_0 : decode cX10_trims 0 = .ok (.aload_n 0, 1) := by decide +kernel
theorem dX10_trims_1 : decode cX10_trims 1 = .ok (.iconst 0, 1) := by decide +kernel
theorem dX10_trims_2 : decode cX10_trims 2 = .ok (.invokevirtual 242, 3) := by decide +kernel
theorem dX10_trims_5 : decode cX10_trims 5 = .ok (.istore_n 1, 1) := by decide +kernel
theorem dX10_trims_6 : decode cX10_trims 6 = .ok (.aload_n 0, 1) := by decide +kernel
theorem dX10_trims_7 : decode cX10_trims 7 = .ok (.iconst 1, 1) := by decide +kernel
theorem dX10_trims_8 : decode cX10_trims 8 = .ok (.invokevirtual 242, 3) := by decide +kernel
theorem dX10_trims_11 : decode cX10_trims 11 = .ok (.istore_n 2, 1) := by decide +kernel
theorem dX10_trims_12 : decode cX10_trims 12 = .ok (.aload_n 0, 1) := by decide +kernel
theorem dX10_trims_13 : decode cX10_trims 13 = .ok (.iconst 2, 1) := by decide +kernel
theorem dX10_trims_14 : decode cX10_trims 14 = .ok (.invokevirtual 242, 3) := by decide +kernel
theorem dX10_trims_17 : decode cX10_trims 17 = .ok (.istore_n 3, 1) := by decide +kernel
theorem dX10_trims_18 : decode cX10_trims 18 = .ok (.aload_n 0, 1) := by decide +kernel
theorem dX10_trims_19 : decode cX10_trims 19 = .ok (.iload_n 1, 1) := by decide +kernel
theorem dX10_trims_20 : decode cX10_trims 20 = .ok (.lconst 0, 1) := by decide +kernel
theorem dX10_trims_21 : decode cX10_trims 21 = .ok (.lconst 1, 1) := by decide +kernel
theorem dX10_trims_22 : decode cX10_trims 22 = .ok (.aload_n 0, 1) := by decide +kernel
theorem dX10_trims_23 : decode cX10_trims 23 = .ok (.invokevirtual 249, 3) := by decide +kernel
theorem dX10_trims_26 : decode cX10_trims 26 = .ok (.lconst 1, 1) := by decide +kernel
theorem dX10_trims_27 : decode cX10_trims 27 = .ok (.invokevirtual 287, 3) := by decide +kernel
theorem dX10_trims_30 : decode cX10_trims 30 = .ok (.aload_n 0, 1) := by decide +kernel
theorem dX10_trims_31 : decode cX10_trims 31 = .ok (.getfield 219, 3) := by decide +kernel
theorem dX10_trims_34 : decode cX10_trims 34 = .ok (.ifCond .eq 4, 3) := by decide +kernel
theorem dX10_trims_37 : decode cX10_trims 37 = .ok (.return_, 1) := by decide +kernel
theorem dX10_trims_38 : decode cX10_trims 38 = .ok (.aload_n 0, 1) := by decide +kernel
theorem dX10_trims_39 : decode cX10_trims 39 = .ok (.iload_n 2, 1) := by decide +kernel
theorem dX10_trims_40 : decode cX10_trims 40 = .ok (.bipush 7, 2) := by decide +kernel
theorem dX10_trims_42 : decode cX10_trims 42 = .ok (.invokevirtual 290, 3) := by decide +kernel
theorem dX10_trims_45 : decode cX10_trims 45 = .ok (.istore 4, 2) := by decide +kernel
theorem dX10_trims_47 : decode cX10_trims 47 = .ok (.aload_n 0, 1) := by decide +kernel
theorem dX10_trims_48 : decode cX10_trims 48 = .ok (.iload_n 2, 1) := by decide +kernel
theorem dX10_trims_49 : decode cX10_trims 49 = .ok (.bipush 7, 2) := by decide +kernel
theorem dX10_trims_51 : decode cX10_trims 51 = .ok (.iconst 1, 1) := by decide +kernel
theorem dX10_trims_52 : decode cX10_trims 52 = .ok (.iload 4, 2) := by decide +kernel
theorem dX10_trims_54 : decode cX10_trims 54 = .ok (.ishl, 1) := by decide +kernel
theorem dX10_trims_55 : decode cX10_trims 55 = .ok (.iconst (-1), 1) := by decide +kernel
theorem dX10_trims_56 : decode cX10_trims 56 = .ok (.ixor, 1) := by decide +kernel
theorem dX10_trims_57 : decode cX10_trims 57 = .ok (.iand, 1) := by decide +kernel
theorem dX10_trims_58 : decode cX10_trims 58 = .ok (.invokevirtual 290, 3) := by decide +kernel
theorem dX10_trims_61 : decode cX10_trims 61 = .ok (.istore 5, 2) := by decide +kernel
theorem dX10_trims_63 : decode cX10_trims 63 = .ok (.aload_n 0, 1) := by decide +kernel
theorem dX10_trims_64 : decode cX10_trims 64 = .ok (.iload_n 2, 1) := by decide +kernel
theorem dX10_trims_65 : decode cX10_trims 65 = .ok (.iload 4, 2) := by decide +kernel
theorem dX10_trims_67 : decode cX10_trims 67 = .ok (.invokevirtual 281, 3) := by decide +kernel
theorem dX10_trims_70 : decode cX10_trims 70 = .ok (.aload_n 0, 1) := by decide +kernel
theorem dX10_trims_71 : decode cX10_trims 71 = .ok (.getfield 99, 3) := by decide +kernel
theorem dX10_trims_74 : decode cX10_trims 74 = .ok (.lstore 6, 2) := by decide +kernel
theorem dX10_trims_76 : decode cX10_trims 76 = .ok (.aload_n 0, 1) := by decide +kernel
theorem dX10_trims_77 : decode cX10_trims 77 = .ok (.getfield 103, 3) := by decide +kernel
theorem dX10_trims_80 : decode cX10_trims 80 = .ok (.lstore 8, 2) := by decide +kernel
theorem dX10_trims_82 : decode cX10_trims 82 = .ok (.aload_n 0, 1) := by decide +kernel
theorem dX10_trims_83 : decode cX10_trims 83 = .ok (.iload_n 2, 1) := by decide +kernel
theorem dX10_trims_84 : decode cX10_trims 84 = .ok (.iload 5, 2) := by decide +kernel
theorem dX10_trims_86 : decode cX10_trims 86 = .ok (.invokevirtual 281, 3) := by decide +kernel
theorem dX10_trims_89 : decode cX10_trims 89 = .ok (.aload_n 0, 1) := by decide +kernel
theorem dX10_trims_90 : decode cX10_trims 90 = .ok (.getfield 99, 3) := by decide +kernel
theorem dX10_trims_93 : decode cX10_trims 93 = .ok (.aload_n 0, 1) := by decide +kernel
theorem dX10_trims_94 : decode cX10_trims 94 = .ok (.getfield 103, 3) := by decide +kernel
theorem dX10_trims_97 : decode cX10_trims 97 = .ok (.lload 6, 2) := by decide +kernel
theorem dX10_trims_99 : decode cX10_trims 99 = .ok (.lload 8, 2) := by decide +kernel
theorem dX10_trims_101 : decode cX10_trims 101 = .ok (.invokestatic 199, 3) := by decide +kernel
theorem dX10_trims_104 : decode cX10_trims 104 = .ok (.istore 10, 2) := by decide +kernel
theorem dX10_trims_106 : decode cX10_trims 106 = .ok (.aload_n 0, 1) := by decide +kernel
theorem dX10_trims_107 : decode cX10_trims 107 = .ok (.getfield 37, 3) := by decide +kernel
theorem dX10_trims_110 : decode cX10_trims 110 = .ok (.iconst 4, 1) := by decide +kernel
theorem dX10_trims_111 : decode cX10_trims 111 = .ok (.iload 4, 2) := by decide +kernel
theorem dX10_trims_113 : decode cX10_trims 113 = .ok (.imul, 1) := by decide +kernel
theorem dX10_trims_114 : decode cX10_trims 114 = .ok (.iconst 2, 1) := by decide +kernel
theorem dX10_trims_115 : decode cX10_trims 115 = .ok (.iadd, 1) := by decide +kernel
theorem dX10_trims_116 : decode cX10_trims 116 = .ok (.laload, 1) := by decide +kernel
theorem dX10_trims_117 : decode cX10_trims 117 = .ok (.lstore 11, 2) := by decide +kernel
theorem dX10_trims_119 : decode cX10_trims 119 = .ok (.aload_n 0, 1) := by decide +kernel
theorem dX10_trims_120 : decode cX10_trims 120 = .ok (.getfield 37, 3) := by decide +kernel
theorem dX10_trims_123 : decode cX10_trims 123 = .ok (.iconst 4, 1) := by decide +kernel
theorem dX10_trims_124 : decode cX10_trims 124 = .ok (.iload 4, 2) := by decide +kernel
theorem dX10_trims_126 : decode cX10_trims 126 = .ok (.imul, 1) := by decide +kernel
theorem dX10_trims_127 : decode cX10_trims 127 = .ok (.iconst 3, 1) := by decide +kernel
theorem dX10_trims_128 : decode cX10_trims 128 = .ok (.iadd, 1) := by decide +kernel
theorem dX10_trims_129 : decode cX10_trims 129 = .ok (.laload, 1) := by decide +kernel
theorem dX10_trims_130 : decode cX10_trims 130 = .ok (.lstore 13, 2) := by decide +kernel
theorem dX10_trims_132 : decode cX10_trims 132 = .ok (.iload 10, 2) := by decide +kernel
theorem dX10_trims_134 : decode cX10_trims 134 = .ok (.ifCond .eq 104, 3) := by decide +kernel
theorem dX10_trims_137 : decode cX10_trims 137 = .ok (.aload_n 0, 1) := by decide +kernel
theorem dX10_trims_138 : decode cX10_trims 138 = .ok (.iload_n 2, 1) := by decide +kernel
theorem dX10_trims_139 : decode cX10_trims 139 = .ok (.aload_n 0, 1) := by decide +kernel
theorem dX10_trims_140 : decode cX10_trims 140 = .ok (.getfield 37, 3) := by decide +kernel
theorem dX10_trims_143 : decode cX10_trims 143 = .ok (.iconst 4, 1) := by decide +kernel
theorem dX10_trims_144 : decode cX10_trims 144 = .ok (.iload 4, 2) := by decide +kernel
theorem dX10_trims_146 : decode cX10_trims 146 = .ok (.imul, 1) := by decide +kernel
theorem dX10_trims_147 : decode cX10_trims 147 = .ok (.laload, 1) := by decide +kernel
theorem dX10_trims_148 : decode cX10_trims 148 = .ok (.aload_n 0, 1) := by decide +kernel
theorem dX10_trims_149 : decode cX10_trims 149 = .ok (.getfield 37, 3) := by decide +kernel
theorem dX10_trims_152 : decode cX10_trims 152 = .ok (.iconst 4, 1) := by decide +kernel
theorem dX10_trims_153 : decode cX10_trims 153 = .ok (.iload 4, 2) := by decide +kernel
theorem dX10_trims_155 : decode cX10_trims 155 = .ok (.imul, 1) := by decide +kernel
theorem dX10_trims_156 : decode cX10_trims 156 = .ok (.iconst 1, 1) := by decide +kernel
theorem dX10_trims_157 : decode cX10_trims 157 = .ok (.iadd, 1) := by decide +kernel
theorem dX10_trims_158 : decode cX10_trims 158 = .ok (.laload, 1) := by decide +kernel
theorem dX10_trims_159 : decode cX10_trims 159 = .ok (.aload_n 0, 1) := by decide +kernel
theorem dX10_trims_160 : decode cX10_trims 160 = .ok (.getfield 99, 3) := by decide +kernel
theorem dX10_trims_163 : decode cX10_trims 163 = .ok (.aload_n 0, 1) := by decide +kernel
theorem dX10_trims_164 : decode cX10_trims 164 = .ok (.getfield 103, 3) := by decide +kernel
theorem dX10_trims_167 : decode cX10_trims 167 = .ok (.iconst 0, 1) := by decide +kernel
theorem dX10_trims_168 : decode cX10_trims 168 = .ok (.invokevirtual 245, 3) := by decide +kernel
theorem dX10_trims_171 : decode cX10_trims 171 = .ok (.aload_n 0, 1) := by decide +kernel
theorem dX10_trims_172 : decode cX10_trims 172 = .ok (.getfield 219, 3) := by decide +kernel
theorem dX10_trims_175 : decode cX10_trims 175 = .ok (.ifCond .eq 4, 3) := by decide +kernel
theorem dX10_trims_178 : decode cX10_trims 178 = .ok (.return_, 1) := by decide +kernel
theorem dX10_trims_179 : decode cX10_trims 179 = .ok (.aload_n 0, 1) := by decide +kernel
theorem dX10_trims_180 : decode cX10_trims 180 = .ok (.iconst 1, 1) := by decide +kernel
theorem dX10_trims_181 : decode cX10_trims 181 = .ok (.iload_n 2, 1) := by decide +kernel
theorem dX10_trims_182 : decode cX10_trims 182 = .ok (.aload_n 0, 1) := by decide +kernel
theorem dX10_trims_183 : decode cX10_trims 183 = .ok (.getfield 25, 3) := by decide +kernel
theorem dX10_trims_186 : decode cX10_trims 186 = .ok (.iload_n 2, 1) := by decide +kernel
theorem dX10_trims_187 : decode cX10_trims 187 = .ok (.laload, 1) := by decide +kernel
theorem dX10_trims_188 : decode cX10_trims 188 = .ok (.aload_n 0, 1) := by decide +kernel
theorem dX10_trims_189 : decode cX10_trims 189 = .ok (.getfield 28, 3) := by decide +kernel
theorem dX10_trims_192 : decode cX10_trims 192 = .ok (.iload_n 2, 1) := by decide +kernel
theorem dX10_trims_193 : decode cX10_trims 193 = .ok (.laload, 1) := by decide +kernel
theorem dX10_trims_194 : decode cX10_trims 194 = .ok (.lload 11, 2) := by decide +kernel
theorem dX10_trims_196 : decode cX10_trims 196 = .ok (.lload 13, 2) := by decide +kernel
theorem dX10_trims_198 : decode cX10_trims 198 = .ok (.invokevirtual 239, 3) := by decide +kernel
theorem dX10_trims_201 : decode cX10_trims 201 = .ok (.aload_n 0, 1) := by decide +kernel
theorem dX10_trims_202 : decode cX10_trims 202 = .ok (.getfield 37, 3) := by decide +kernel
theorem dX10_trims_205 : decode cX10_trims 205 = .ok (.iconst 4, 1) := by decide +kernel
theorem dX10_trims_206 : decode cX10_trims 206 = .ok (.iload 4, 2) := by decide +kernel
theorem dX10_trims_208 : decode cX10_trims 208 = .ok (.imul, 1) := by decide +kernel
theorem dX10_trims_209 : decode cX10_trims 209 = .ok (.iconst 2, 1) := by decide +kernel
theorem dX10_trims_210 : decode cX10_trims 210 = .ok (.iadd, 1) := by decide +kernel
theorem dX10_trims_211 : decode cX10_trims 211 = .ok (.aload_n 0, 1) := by decide +kernel
theorem dX10_trims_212 : decode cX10_trims 212 = .ok (.getfield 25, 3) := by decide +kernel
theorem dX10_trims_215 : decode cX10_trims 215 = .ok (.iload_n 2, 1) := by decide +kernel
theorem dX10_trims_216 : decode cX10_trims 216 = .ok (.laload, 1) := by decide +kernel
theorem dX10_trims_217 : decode cX10_trims 217 = .ok (.lastore, 1) := by decide +kernel
theorem dX10_trims_218 : decode cX10_trims 218 = .ok (.aload_n 0, 1) := by decide +kernel
theorem dX10_trims_219 : decode cX10_trims 219 = .ok (.getfield 37, 3) := by decide +kernel
theorem dX10_trims_222 : decode cX10_trims 222 = .ok (.iconst 4, 1) := by decide +kernel
theorem dX10_trims_223 : decode cX10_trims 223 = .ok (.iload 4, 2) := by decide +kernel
theorem dX10_trims_225 : decode cX10_trims 225 = .ok (.imul, 1) := by decide +kernel
theorem dX10_trims_226 : decode cX10_trims 226 = .ok (.iconst 3, 1) := by decide +kernel
theorem dX10_trims_227 : decode cX10_trims 227 = .ok (.iadd, 1) := by decide +kernel
theorem dX10_trims_228 : decode cX10_trims 228 = .ok (.aload_n 0, 1) := by decide +kernel
theorem dX10_trims_229 : decode cX10_trims 229 = .ok (.getfield 28, 3) := by decide +kernel
theorem dX10_trims_232 : decode cX10_trims 232 = .ok (.iload_n 2, 1) := by decide +kernel
theorem dX10_trims_233 : decode cX10_trims 233 = .ok (.laload, 1) := by decide +kernel
theorem dX10_trims_234 : decode cX10_trims 234 = .ok (.lastore, 1) := by decide +kernel
theorem dX10_trims_235 : decode cX10_trims 235 = .ok (.goto 15, 3) := by decide +kernel
theorem dX10_trims_238 : decode cX10_trims 238 = .ok (.aload_n 0, 1) := by decide +kernel
theorem dX10_trims_239 : decode cX10_trims 239 = .ok (.iconst 2, 1) := by decide +kernel
theorem dX10_trims_240 : decode cX10_trims 240 = .ok (.iload_n 2, 1) := by decide +kernel
theorem dX10_trims_241 : decode cX10_trims 241 = .ok (.lload 11, 2) := by decide +kernel
theorem dX10_trims_243 : decode cX10_trims 243 = .ok (.lload 13, 2) := by decide +kernel
theorem dX10_trims_245 : decode cX10_trims 245 = .ok (.lconst 0, 1) := by decide +kernel
theorem dX10_trims_246 : decode cX10_trims 246 = .ok (.lconst 1, 1) := by decide +kernel
theorem dX10_trims_247 : decode cX10_trims 247 = .ok (.invokevirtual 239, 3) := by decide +kernel
theorem dX10_trims_250 : decode cX10_trims 250 = .ok (.aload_n 0, 1) := by decide +kernel
theorem dX10_trims_251 : decode cX10_trims 251 = .ok (.iload_n 3, 1) := by decide +kernel
theorem dX10_trims_252 : decode cX10_trims 252 = .ok (.bipush 7, 2) := by decide +kernel
theorem dX10_trims_254 : decode cX10_trims 254 = .ok (.invokevirtual 290, 3) := by decide +kernel
theorem dX10_trims_257 : decode cX10_trims 257 = .ok (.istore 15, 2) := by decide +kernel
theorem dX10_trims_259 : decode cX10_trims 259 = .ok (.aload_n 0, 1) := by decide +kernel
theorem dX10_trims_260 : decode cX10_trims 260 = .ok (.iload_n 3, 1) := by decide +kernel
theorem dX10_trims_261 : decode cX10_trims 261 = .ok (.iload 15, 2) := by decide +kernel
theorem dX10_trims_263 : decode cX10_trims 263 = .ok (.invokevirtual 294, 3) := by decide +kernel
theorem dX10_trims_266 : decode cX10_trims 266 = .ok (.bipush 7, 2) := by decide +kernel
theorem dX10_trims_268 : decode cX10_trims 268 = .ok (.iconst 1, 1) := by decide +kernel
theorem dX10_trims_269 : decode cX10_trims 269 = .ok (.iload 15, 2) := by decide +kernel
theorem dX10_trims_271 : decode cX10_trims 271 = .ok (.ishl, 1) := by decide +kernel
theorem dX10_trims_272 : decode cX10_trims 272 = .ok (.iconst (-1), 1) := by decide +kernel
theorem dX10_trims_273 : decode cX10_trims 273 = .ok (.ixor, 1) := by decide +kernel
theorem dX10_trims_274 : decode cX10_trims 274 = .ok (.iand, 1) := by decide +kernel
theorem dX10_trims_275 : decode cX10_trims 275 = .ok (.istore 16, 2) := by decide +kernel
theorem dX10_trims_277 : decode cX10_trims 277 = .ok (.iload 10, 2) := by decide +kernel
theorem dX10_trims_279 : decode cX10_trims 279 = .ok (.ifCond .eq 15, 3) := by decide +kernel
theorem dX10_trims_282 : decode cX10_trims 282 = .ok (.iload 15, 2) := by decide +kernel
theorem dX10_trims_284 : decode cX10_trims 284 = .ok (.iload 4, 2) := by decide +kernel
theorem dX10_trims_286 : decode cX10_trims 286 = .ok (.if_icmp .eq 8, 3) := by decide +kernel
theorem dX10_trims_289 : decode cX10_trims 289 = .ok (.iload 4, 2) := by decide +kernel
theorem dX10_trims_291 : decode cX10_trims 291 = .ok (.goto 10, 3) := by decide +kernel
theorem dX10_trims_294 : decode cX10_trims 294 = .ok (.aload_n 0, 1) := by decide +kernel
theorem dX10_trims_295 : decode cX10_trims 295 = .ok (.iload_n 2, 1) := by decide +kernel
theorem dX10_trims_296 : decode cX10_trims 296 = .ok (.iload 16, 2) := by decide +kernel
theorem dX10_trims_298 : decode cX10_trims 298 = .ok (.invokevirtual 290, 3) := by decide +kernel
theorem dX10_trims_301 : decode cX10_trims 301 = .ok (.istore 17, 2) := by decide +kernel
theorem dX10_trims_303 : decode cX10_trims 303 = .ok (.aload_n 0, 1) := by decide +kernel
theorem dX10_trims_304 : decode cX10_trims 304 = .ok (.iload_n 2, 1) := by decide +kernel
theorem dX10_trims_305 : decode cX10_trims 305 = .ok (.iload 17, 2) := by decide +kernel
theorem dX10_trims_307 : decode cX10_trims 307 = .ok (.invokevirtual 294, 3) := by decide +kernel
theorem dX10_trims_310 : decode cX10_trims 310 = .ok (.aload_n 0, 1) := by decide +kernel
theorem dX10_trims_311 : decode cX10_trims 311 = .ok (.iload_n 1, 1) := by decide +kernel
theorem dX10_trims_312 : decode cX10_trims 312 = .ok (.aload_n 0, 1) := by decide +kernel
theorem dX10_trims_313 : decode cX10_trims 313 = .ok (.iload_n 1, 1) := by decide +kernel
theorem dX10_trims_314 : decode cX10_trims 314 = .ok (.iload 16, 2) := by decide +kernel
theorem dX10_trims_316 : decode cX10_trims 316 = .ok (.iconst 1, 1) := by decide +kernel
theorem dX10_trims_317 : decode cX10_trims 317 = .ok (.iload 17, 2) := by decide +kernel
theorem dX10_trims_319 : decode cX10_trims 319 = .ok (.ishl, 1) := by decide +kernel
theorem dX10_trims_320 : decode cX10_trims 320 = .ok (.iconst (-1), 1) := by decide +kernel
theorem dX10_trims_321 : decode cX10_trims 321 = .ok (.ixor, 1) := by decide +kernel
theorem dX10_trims_322 : decode cX10_trims 322 = .ok (.iand, 1) := by decide +kernel
theorem dX10_trims_323 : decode cX10_trims 323 = .ok (.invokevirtual 290, 3) := by decide +kernel
theorem dX10_trims_326 : decode cX10_trims 326 = .ok (.invokevirtual 294, 3) := by decide +kernel
theorem dX10_trims_329 : decode cX10_trims 329 = .ok (.iload 10, 2) := by decide +kernel
theorem dX10_trims_331 : decode cX10_trims 331 = .ok (.ifCond .eq 58, 3) := by decide +kernel
theorem dX10_trims_334 : decode cX10_trims 334 = .ok (.aload_n 0, 1) := by decide +kernel
theorem dX10_trims_335 : decode cX10_trims 335 = .ok (.iload_n 1, 1) := by decide +kernel
theorem dX10_trims_336 : decode cX10_trims 336 = .ok (.iload 15, 2) := by decide +kernel
theorem dX10_trims_338 : decode cX10_trims 338 = .ok (.iload 4, 2) := by decide +kernel
theorem dX10_trims_340 : decode cX10_trims 340 = .ok (.if_icmp .ne 7, 3) := by decide +kernel
theorem dX10_trims_343 : decode cX10_trims 343 = .ok (.iload_n 3, 1) := by decide +kernel
theorem dX10_trims_344 : decode cX10_trims 344 = .ok (.goto 4, 3) := by decide +kernel
theorem dX10_trims_347 : decode cX10_trims 347 = .ok (.iload_n 2, 1) := by decide +kernel
theorem dX10_trims_348 : decode cX10_trims 348 = .ok (.iload 15, 2) := by decide +kernel
theorem dX10_trims_350 : decode cX10_trims 350 = .ok (.iload 4, 2) := by decide +kernel
theorem dX10_trims_352 : decode cX10_trims 352 = .ok (.if_icmp .ne 7, 3) := by decide +kernel
theorem dX10_trims_355 : decode cX10_trims 355 = .ok (.iload_n 2, 1) := by decide +kernel
theorem dX10_trims_356 : decode cX10_trims 356 = .ok (.goto 4, 3) := by decide +kernel
theorem dX10_trims_359 : decode cX10_trims 359 = .ok (.iload_n 3, 1) := by decide +kernel
theorem dX10_trims_360 : decode cX10_trims 360 = .ok (.aload_n 0, 1) := by decide +kernel
theorem dX10_trims_361 : decode cX10_trims 361 = .ok (.getfield 37, 3) := by decide +kernel
theorem dX10_trims_364 : decode cX10_trims 364 = .ok (.iconst 4, 1) := by decide +kernel
theorem dX10_trims_365 : decode cX10_trims 365 = .ok (.iload 4, 2) := by decide +kernel
theorem dX10_trims_367 : decode cX10_trims 367 = .ok (.imul, 1) := by decide +kernel
theorem dX10_trims_368 : decode cX10_trims 368 = .ok (.iconst 2, 1) := by decide +kernel
theorem dX10_trims_369 : decode cX10_trims 369 = .ok (.iadd, 1) := by decide +kernel
theorem dX10_trims_370 : decode cX10_trims 370 = .ok (.laload, 1) := by decide +kernel
theorem dX10_trims_371 : decode cX10_trims 371 = .ok (.aload_n 0, 1) := by decide +kernel
theorem dX10_trims_372 : decode cX10_trims 372 = .ok (.getfield 37, 3) := by decide +kernel
theorem dX10_trims_375 : decode cX10_trims 375 = .ok (.iconst 4, 1) := by decide +kernel
theorem dX10_trims_376 : decode cX10_trims 376 = .ok (.iload 4, 2) := by decide +kernel
theorem dX10_trims_378 : decode cX10_trims 378 = .ok (.imul, 1) := by decide +kernel
theorem dX10_trims_379 : decode cX10_trims 379 = .ok (.iconst 3, 1) := by decide +kernel
theorem dX10_trims_380 : decode cX10_trims 380 = .ok (.iadd, 1) := by decide +kernel
theorem dX10_trims_381 : decode cX10_trims 381 = .ok (.laload, 1) := by decide +kernel
theorem dX10_trims_382 : decode cX10_trims 382 = .ok (.lload 11, 2) := by decide +kernel
theorem dX10_trims_384 : decode cX10_trims 384 = .ok (.lload 13, 2) := by decide +kernel
theorem dX10_trims_386 : decode cX10_trims 386 = .ok (.invokevirtual 297, 3) := by decide +kernel
theorem dX10_trims_389 : decode cX10_trims 389 = .ok (.return_, 1) := by decide +kernel
theorem dX10_sharesTrimmings_0 : decode cX10_sharesTrimmings 0 = .ok (.aload_n 0, 1) := by decide +kernel
theorem dX10_sharesTrimmings_1 : decode cX10_sharesTrimmings 1 = .ok (.iload_n 3, 1) := by decide +kernel
theorem dX10_sharesTrimmings_2 : decode cX10_sharesTrimmings 2 = .ok (.lload 4, 2) := by decide +kernel
theorem dX10_sharesTrimmings_4 : decode cX10_sharesTrimmings 4 = .ok (.lload 6, 2) := by decide +kernel
theorem dX10_sharesTrimmings_6 : decode cX10_sharesTrimmings 6 = .ok (.lload 8, 2) := by decide +kernel
theorem dX10_sharesTrimmings_8 : decode cX10_sharesTrimmings 8 = .ok (.lload 10, 2) := by decide +kernel
theorem dX10_sharesTrimmings_10 : decode cX10_sharesTrimmings 10 = .ok (.invokevirtual 287, 3) := by decide +kernel
theorem dX10_sharesTrimmings_13 : decode cX10_sharesTrimmings 13 = .ok (.aload_n 0, 1) := by decide +kernel
theorem dX10_sharesTrimmings_14 : decode cX10_sharesTrimmings 14 = .ok (.getfield 219, 3) := by decide +kernel
theorem dX10_sharesTrimmings_17 : decode cX10_sharesTrimmings 17 = .ok (.ifCond .eq 4, 3) := by decide +kernel
theorem dX10_sharesTrimmings_20 : decode cX10_sharesTrimmings 20 = .ok (.return_, 1) := by decide +kernel
theorem dX10_sharesTrimmings_21 : decode cX10_sharesTrimmings 21 = .ok (.aload_n 0, 1) := by decide +kernel
theorem dX10_sharesTrimmings_22 : decode cX10_sharesTrimmings 22 = .ok (.iload_n 2, 1) := by decide +kernel
theorem dX10_sharesTrimmings_23 : decode cX10_sharesTrimmings 23 = .ok (.bipush 7, 2) := by decide +kernel
theorem dX10_sharesTrimmings_25 : decode cX10_sharesTrimmings 25 = .ok (.invokevirtual 290, 3) := by decide +kernel
theorem dX10_sharesTrimmings_28 : decode cX10_sharesTrimmings 28 = .ok (.istore 12, 2) := by decide +kernel
theorem dX10_sharesTrimmings_30 : decode cX10_sharesTrimmings 30 = .ok (.aload_n 0, 1) := by decide +kernel
theorem dX10_sharesTrimmings_31 : decode cX10_sharesTrimmings 31 = .ok (.iload_n 2, 1) := by decide +kernel
theorem dX10_sharesTrimmings_32 : decode cX10_sharesTrimmings 32 = .ok (.iload 12, 2) := by decide +kernel
theorem dX10_sharesTrimmings_34 : decode cX10_sharesTrimmings 34 = .ok (.invokevirtual 294, 3) := by decide +kernel
theorem dX10_sharesTrimmings_37 : decode cX10_sharesTrimmings 37 = .ok (.aload_n 0, 1) := by decide +kernel
theorem dX10_sharesTrimmings_38 : decode cX10_sharesTrimmings 38 = .ok (.iload_n 1, 1) := by decide +kernel
theorem dX10_sharesTrimmings_39 : decode cX10_sharesTrimmings 39 = .ok (.bipush 7, 2) := by decide +kernel
theorem dX10_sharesTrimmings_41 : decode cX10_sharesTrimmings 41 = .ok (.iconst 1, 1) := by decide +kernel
theorem dX10_sharesTrimmings_42 : decode cX10_sharesTrimmings 42 = .ok (.iload 12, 2) := by decide +kernel
theorem dX10_sharesTrimmings_44 : decode cX10_sharesTrimmings 44 = .ok (.ishl, 1) := by decide +kernel
theorem dX10_sharesTrimmings_45 : decode cX10_sharesTrimmings 45 = .ok (.iconst (-1), 1) := by decide +kernel
theorem dX10_sharesTrimmings_46 : decode cX10_sharesTrimmings 46 = .ok (.ixor, 1) := by decide +kernel
theorem dX10_sharesTrimmings_47 : decode cX10_sharesTrimmings 47 = .ok (.iand, 1) := by decide +kernel
theorem dX10_sharesTrimmings_48 : decode cX10_sharesTrimmings 48 = .ok (.invokevirtual 290, 3) := by decide +kernel
theorem dX10_sharesTrimmings_51 : decode cX10_sharesTrimmings 51 = .ok (.istore 13, 2) := by decide +kernel
theorem dX10_sharesTrimmings_53 : decode cX10_sharesTrimmings 53 = .ok (.aload_n 0, 1) := by decide +kernel
theorem dX10_sharesTrimmings_54 : decode cX10_sharesTrimmings 54 = .ok (.iload_n 1, 1) := by decide +kernel
theorem dX10_sharesTrimmings_55 : decode cX10_sharesTrimmings 55 = .ok (.iload 13, 2) := by decide +kernel
theorem dX10_sharesTrimmings_57 : decode cX10_sharesTrimmings 57 = .ok (.invokevirtual 294, 3) := by decide +kernel
theorem dX10_sharesTrimmings_60 : decode cX10_sharesTrimmings 60 = .ok (.aload_n 0, 1) := by decide +kernel
theorem dX10_sharesTrimmings_61 : decode cX10_sharesTrimmings 61 = .ok (.iload_n 3, 1) := by decide +kernel
theorem dX10_sharesTrimmings_62 : decode cX10_sharesTrimmings 62 = .ok (.iconst 3, 1) := by decide +kernel
theorem dX10_sharesTrimmings_63 : decode cX10_sharesTrimmings 63 = .ok (.iload 12, 2) := by decide +kernel
theorem dX10_sharesTrimmings_65 : decode cX10_sharesTrimmings 65 = .ok (.isub, 1) := by decide +kernel
theorem dX10_sharesTrimmings_66 : decode cX10_sharesTrimmings 66 = .ok (.iload 13, 2) := by decide +kernel
theorem dX10_sharesTrimmings_68 : decode cX10_sharesTrimmings 68 = .ok (.isub, 1) := by decide +kernel
theorem dX10_sharesTrimmings_69 : decode cX10_sharesTrimmings 69 = .ok (.invokevirtual 294, 3) := by decide +kernel
theorem dX10_sharesTrimmings_72 : decode cX10_sharesTrimmings 72 = .ok (.return_, 1) := by decide +kernel
theorem dX10_mayWay_0 : decode cX10_mayWay 0 = .ok (.iload_n 1, 1) := by decide +kernel
theorem dX10_mayWay_1 : decode cX10_mayWay 1 = .ok (.i2l, 1) := by decide +kernel
theorem dX10_mayWay_2 : decode cX10_mayWay 2 = .ok (.lconst 0, 1) := by decide +kernel
theorem dX10_mayWay_3 : decode cX10_mayWay 3 = .ok (.ldc2_w 301, 3) := by decide +kernel
theorem dX10_mayWay_6 : decode cX10_mayWay 6 = .ok (.invokestatic 65, 3) := by decide +kernel
theorem dX10_mayWay_9 : decode cX10_mayWay 9 = .ok (.ifCond .eq 11, 3) := by decide +kernel
theorem dX10_mayWay_12 : decode cX10_mayWay 12 = .ok (.aload_n 0, 1) := by decide +kernel
theorem dX10_mayWay_13 : decode cX10_mayWay 13 = .ok (.iload_n 2, 1) := by decide +kernel
theorem dX10_mayWay_14 : decode cX10_mayWay 14 = .ok (.invokevirtual 79, 3) := by decide +kernel
theorem dX10_mayWay_17 : decode cX10_mayWay 17 = .ok (.ifCond .ne 5, 3) := by decide +kernel
theorem dX10_mayWay_20 : decode cX10_mayWay 20 = .ok (.iconst (-1), 1) := by decide +kernel
theorem dX10_mayWay_21 : decode cX10_mayWay 21 = .ok (.ireturn, 1) := by decide +kernel
theorem dX10_mayWay_22 : decode cX10_mayWay 22 = .ok (.iload_n 1, 1) := by decide +kernel
theorem dX10_mayWay_23 : decode cX10_mayWay 23 = .ok (.ifCond .ne 11, 3) := by decide +kernel
theorem dX10_mayWay_26 : decode cX10_mayWay 26 = .ok (.aload_n 0, 1) := by decide +kernel
theorem dX10_mayWay_27 : decode cX10_mayWay 27 = .ok (.invokevirtual 75, 3) := by decide +kernel
theorem dX10_mayWay_30 : decode cX10_mayWay 30 = .ok (.iconst 2, 1) := by decide +kernel
theorem dX10_mayWay_31 : decode cX10_mayWay 31 = .ok (.if_icmp .ne 16, 3) := by decide +kernel
theorem dX10_mayWay_34 : decode cX10_mayWay 34 = .ok (.iload_n 1, 1) := by decide +kernel
theorem dX10_mayWay_35 : decode cX10_mayWay 35 = .ok (.iconst 4, 1) := by decide +kernel
theorem dX10_mayWay_36 : decode cX10_mayWay 36 = .ok (.if_icmp .ne 16, 3) := by decide +kernel
theorem dX10_mayWay_39 : decode cX10_mayWay 39 = .ok (.aload_n 0, 1) := by decide +kernel
theorem dX10_mayWay_40 : decode cX10_mayWay 40 = .ok (.invokevirtual 75, 3) := by decide +kernel
theorem dX10_mayWay_43 : decode cX10_mayWay 43 = .ok (.iconst 3, 1) := by decide +kernel
theorem dX10_mayWay_44 : decode cX10_mayWay 44 = .ok (.if_icmp .eq 8, 3) := by decide +kernel
theorem dX10_mayWay_47 : decode cX10_mayWay 47 = .ok (.bipush (-5), 2) := by decide +kernel
theorem dX10_mayWay_49 : decode cX10_mayWay 49 = .ok (.goto 4, 3) := by decide +kernel
theorem dX10_mayWay_52 : decode cX10_mayWay 52 = .ok (.iconst 0, 1) := by decide +kernel
theorem dX10_mayWay_53 : decode cX10_mayWay 53 = .ok (.ireturn, 1) := by decide +kernel
theorem dX10_goes_0 : decode cX10_goes 0 = .ok (.aload_n 0, 1) := by decide +kernel
theorem dX10_goes_1 : decode cX10_goes 1 = .ok (.invokevirtual 226, 3) := by decide +kernel
theorem dX10_goes_4 : decode cX10_goes 4 = .ok (.aload_n 0, 1) := by decide +kernel
theorem dX10_goes_5 : decode cX10_goes 5 = .ok (.getfield 9, 3) := by decide +kernel
theorem dX10_goes_8 : decode cX10_goes 8 = .ok (.iconst 2, 1) := by decide +kernel
theorem dX10_goes_9 : decode cX10_goes 9 = .ok (.lconst 1, 1) := by decide +kernel
theorem dX10_goes_10 : decode cX10_goes 10 = .ok (.lastore, 1) := by decide +kernel
theorem dX10_goes_11 : decode cX10_goes 11 = .ok (.aload_n 0, 1) := by decide +kernel
theorem dX10_goes_12 : decode cX10_goes 12 = .ok (.iconst 0, 1) := by decide +kernel
theorem dX10_goes_13 : decode cX10_goes 13 = .ok (.putfield 219, 3) := by decide +kernel
theorem dX10_goes_16 : decode cX10_goes 16 = .ok (.aload_n 0, 1) := by decide +kernel
theorem dX10_goes_17 : decode cX10_goes 17 = .ok (.iload_n 2, 1) := by decide +kernel
theorem dX10_goes_18 : decode cX10_goes 18 = .ok (.putfield 236, 3) := by decide +kernel
theorem dX10_goes_21 : decode cX10_goes 21 = .ok (.iload_n 1, 1) := by decide +kernel
theorem dX10_goes_22 : decode cX10_goes 22 = .ok (.tableswitch 58 0 3 #[30, 37, 44, 51], 30) := by decide +kernel
theorem dX10_goes_52 : decode cX10_goes 52 = .ok (.aload_n 0, 1) := by decide +kernel
theorem dX10_goes_53 : decode cX10_goes 53 = .ok (.invokevirtual 303, 3) := by decide +kernel
theorem dX10_goes_56 : decode cX10_goes 56 = .ok (.goto 28, 3) := by decide +kernel
theorem dX10_goes_59 : decode cX10_goes 59 = .ok (.aload_n 0, 1) := by decide +kernel
theorem dX10_goes_60 : decode cX10_goes 60 = .ok (.invokevirtual 306, 3) := by decide +kernel
theorem dX10_goes_63 : decode cX10_goes 63 = .ok (.goto 21, 3) := by decide +kernel
theorem dX10_goes_66 : decode cX10_goes 66 = .ok (.aload_n 0, 1) := by decide +kernel
theorem dX10_goes_67 : decode cX10_goes 67 = .ok (.invokevirtual 309, 3) := by decide +kernel
theorem dX10_goes_70 : decode cX10_goes 70 = .ok (.goto 14, 3) := by decide +kernel
theorem dX10_goes_73 : decode cX10_goes 73 = .ok (.aload_n 0, 1) := by decide +kernel
theorem dX10_goes_74 : decode cX10_goes 74 = .ok (.invokevirtual 312, 3) := by decide +kernel
theorem dX10_goes_77 : decode cX10_goes 77 = .ok (.goto 7, 3) := by decide +kernel
theorem dX10_goes_80 : decode cX10_goes 80 = .ok (.aload_n 0, 1) := by decide +kernel
theorem dX10_goes_81 : decode cX10_goes 81 = .ok (.invokevirtual 315, 3) := by decide +kernel
theorem dX10_goes_84 : decode cX10_goes 84 = .ok (.aload_n 0, 1) := by decide +kernel
theorem dX10_goes_85 : decode cX10_goes 85 = .ok (.getfield 219, 3) := by decide +kernel
theorem dX10_goes_88 : decode cX10_goes 88 = .ok (.ifCond .ne 7, 3) := by decide +kernel
theorem dX10_goes_91 : decode cX10_goes 91 = .ok (.iconst 1, 1) := by decide +kernel
theorem dX10_goes_92 : decode cX10_goes 92 = .ok (.goto 4, 3) := by decide +kernel
theorem dX10_goes_95 : decode cX10_goes 95 = .ok (.iconst 0, 1) := by decide +kernel
theorem dX10_goes_96 : decode cX10_goes 96 = .ok (.ireturn, 1) := by decide +kernel
theorem dX10_shares_0 : decode cX10_shares 0 = .ok (.aload_n 0, 1) := by decide +kernel
theorem dX10_shares_1 : decode cX10_shares 1 = .ok (.iload_n 1, 1) := by decide +kernel
theorem dX10_shares_2 : decode cX10_shares 2 = .ok (.iload_n 2, 1) := by decide +kernel
theorem dX10_shares_3 : decode cX10_shares 3 = .ok (.invokevirtual 318, 3) := by decide +kernel
theorem dX10_shares_6 : decode cX10_shares 6 = .ok (.istore_n 3, 1) := by decide +kernel
theorem dX10_shares_7 : decode cX10_shares 7 = .ok (.iload_n 3, 1) := by decide +kernel
theorem dX10_shares_8 : decode cX10_shares 8 = .ok (.ifCond .eq 5, 3) := by decide +kernel
theorem dX10_shares_11 : decode cX10_shares 11 = .ok (.iload_n 3, 1) := by decide +kernel
theorem dX10_shares_12 : decode cX10_shares 12 = .ok (.ireturn, 1) := by decide +kernel
theorem dX10_shares_13 : decode cX10_shares 13 = .ok (.aload_n 0, 1) := by decide +kernel
theorem dX10_shares_14 : decode cX10_shares 14 = .ok (.getfield 9, 3) := by decide +kernel
theorem dX10_shares_17 : decode cX10_shares 17 = .ok (.aload_n 0, 1) := by decide +kernel
theorem dX10_shares_18 : decode cX10_shares 18 = .ok (.getfield 15, 3) := by decide +kernel
theorem dX10_shares_21 : decode cX10_shares 21 = .ok (.invokestatic 189, 3) := by decide +kernel
theorem dX10_shares_24 : decode cX10_shares 24 = .ok (.aload_n 0, 1) := by decide +kernel
theorem dX10_shares_25 : decode cX10_shares 25 = .ok (.iload_n 1, 1) := by decide +kernel
theorem dX10_shares_26 : decode cX10_shares 26 = .ok (.iload_n 2, 1) := by decide +kernel
theorem dX10_shares_27 : decode cX10_shares 27 = .ok (.invokevirtual 321, 3) := by decide +kernel
theorem dX10_shares_30 : decode cX10_shares 30 = .ok (.ifCond .ne 17, 3) := by decide +kernel
theorem dX10_shares_33 : decode cX10_shares 33 = .ok (.aload_n 0, 1) := by decide +kernel
theorem dX10_shares_34 : decode cX10_shares 34 = .ok (.getfield 15, 3) := by decide +kernel
theorem dX10_shares_37 : decode cX10_shares 37 = .ok (.aload_n 0, 1) := by decide +kernel
theorem dX10_shares_38 : decode cX10_shares 38 = .ok (.getfield 9, 3) := by decide +kernel
theorem dX10_shares_41 : decode cX10_shares 41 = .ok (.invokestatic 189, 3) := by decide +kernel
theorem dX10_shares_44 : decode cX10_shares 44 = .ok (.bipush (-3), 2) := by decide +kernel
theorem dX10_shares_46 : decode cX10_shares 46 = .ok (.ireturn, 1) := by decide +kernel
theorem dX10_shares_47 : decode cX10_shares 47 = .ok (.aload_n 0, 1) := by decide +kernel
theorem dX10_shares_48 : decode cX10_shares 48 = .ok (.getfield 9, 3) := by decide +kernel
theorem dX10_shares_51 : decode cX10_shares 51 = .ok (.iconst 4, 1) := by decide +kernel
theorem dX10_shares_52 : decode cX10_shares 52 = .ok (.laload, 1) := by decide +kernel
theorem dX10_shares_53 : decode cX10_shares 53 = .ok (.l2i, 1) := by decide +kernel
theorem dX10_shares_54 : decode cX10_shares 54 = .ok (.ireturn, 1) := by decide +kernel
theorem dX10_isDivided_0 : decode cX10_isDivided 0 = .ok (.aload_n 0, 1) := by decide +kernel
theorem dX10_isDivided_1 : decode cX10_isDivided 1 = .ok (.getfield 9, 3) := by decide +kernel
theorem dX10_isDivided_4 : decode cX10_isDivided 4 = .ok (.iconst 2, 1) := by decide +kernel
theorem dX10_isDivided_5 : decode cX10_isDivided 5 = .ok (.laload, 1) := by decide +kernel
theorem dX10_isDivided_6 : decode cX10_isDivided 6 = .ok (.lconst 1, 1) := by decide +kernel
theorem dX10_isDivided_7 : decode cX10_isDivided 7 = .ok (.lcmp, 1) := by decide +kernel
theorem dX10_isDivided_8 : decode cX10_isDivided 8 = .ok (.ifCond .ne 7, 3) := by decide +kernel
theorem dX10_isDivided_11 : decode cX10_isDivided 11 = .ok (.iconst 1, 1) := by decide +kernel
theorem dX10_isDivided_12 : decode cX10_isDivided 12 = .ok (.goto 4, 3) := by decide +kernel
theorem dX10_isDivided_15 : decode cX10_isDivided 15 = .ok (.iconst 0, 1) := by decide +kernel
theorem dX10_isDivided_16 : decode cX10_isDivided 16 = .ok (.ireturn, 1) := by decide +kernel
theorem dX10_event_0 : decode cX10_event 0 = .ok (.iload_n 1, 1) := by decide +kernel
theorem dX10_event_1 : decode cX10_event 1 = .ok (.iconst (-1), 1) := by decide +kernel
theorem dX10_event_2 : decode cX10_event 2 = .ok (.if_icmp .ne 27, 3) := by decide +kernel
theorem dX10_event_5 : decode cX10_event 5 = .ok (.aload_n 0, 1) := by decide +kernel
theorem dX10_event_6 : decode cX10_event 6 = .ok (.invokevirtual 325, 3) := by decide +kernel
theorem dX10_event_9 : decode cX10_event 9 = .ok (.ifCond .eq 16, 3) := by decide +kernel
theorem dX10_event_12 : decode cX10_event 12 = .ok (.iload_n 2, 1) := by decide +kernel
theorem dX10_event_13 : decode cX10_event 13 = .ok (.ifCond .ne 12, 3) := by decide +kernel
theorem dX10_event_16 : decode cX10_event 16 = .ok (.aload_n 0, 1) := by decide +kernel
theorem dX10_event_17 : decode cX10_event 17 = .ok (.getfield 9, 3) := by decide +kernel
theorem dX10_event_20 : decode cX10_event 20 = .ok (.iconst 4, 1) := by decide +kernel
theorem dX10_event_21 : decode cX10_event 21 = .ok (.laload, 1) := by decide +kernel
theorem dX10_event_22 : decode cX10_event 22 = .ok (.goto 6, 3) := by decide +kernel
theorem dX10_event_25 : decode cX10_event 25 = .ok (.ldc2_w 116, 3) := by decide +kernel
theorem dX10_event_28 : decode cX10_event 28 = .ok (.lreturn, 1) := by decide +kernel
theorem dX10_event_29 : decode cX10_event 29 = .ok (.aload_n 0, 1) := by decide +kernel
theorem dX10_event_30 : decode cX10_event 30 = .ok (.invokevirtual 325, 3) := by decide +kernel
theorem dX10_event_33 : decode cX10_event 33 = .ok (.ifCond .eq 50, 3) := by decide +kernel
theorem dX10_event_36 : decode cX10_event 36 = .ok (.iload_n 1, 1) := by decide +kernel
theorem dX10_event_37 : decode cX10_event 37 = .ok (.i2l, 1) := by decide +kernel
theorem dX10_event_38 : decode cX10_event 38 = .ok (.lconst 0, 1) := by decide +kernel
theorem dX10_event_39 : decode cX10_event 39 = .ok (.aload_n 0, 1) := by decide +kernel
theorem dX10_event_40 : decode cX10_event 40 = .ok (.getfield 9, 3) := by decide +kernel
theorem dX10_event_43 : decode cX10_event 43 = .ok (.iconst 4, 1) := by decide +kernel
theorem dX10_event_44 : decode cX10_event 44 = .ok (.laload, 1) := by decide +kernel
theorem dX10_event_45 : decode cX10_event 45 = .ok (.lconst 1, 1) := by decide +kernel
theorem dX10_event_46 : decode cX10_event 46 = .ok (.lsub, 1) := by decide +kernel
theorem dX10_event_47 : decode cX10_event 47 = .ok (.invokestatic 65, 3) := by decide +kernel
theorem dX10_event_50 : decode cX10_event 50 = .ok (.ifCond .eq 33, 3) := by decide +kernel
theorem dX10_event_53 : decode cX10_event 53 = .ok (.iload_n 2, 1) := by decide +kernel
theorem dX10_event_54 : decode cX10_event 54 = .ok (.i2l, 1) := by decide +kernel
theorem dX10_event_55 : decode cX10_event 55 = .ok (.lconst 0, 1) := by decide +kernel
theorem dX10_event_56 : decode cX10_event 56 = .ok (.ldc2_w 73, 3) := by decide +kernel
theorem dX10_event_59 : decode cX10_event 59 = .ok (.invokestatic 65, 3) := by decide +kernel
theorem dX10_event_62 : decode cX10_event 62 = .ok (.ifCond .eq 21, 3) := by decide +kernel
theorem dX10_event_65 : decode cX10_event 65 = .ok (.aload_n 0, 1) := by decide +kernel
theorem dX10_event_66 : decode cX10_event 66 = .ok (.getfield 9, 3) := by decide +kernel
theorem dX10_event_69 : decode cX10_event 69 = .ok (.sipush 210, 3) := by decide +kernel
theorem dX10_event_72 : decode cX10_event 72 = .ok (.bipush 6, 2) := by decide +kernel
theorem dX10_event_74 : decode cX10_event 74 = .ok (.iload_n 1, 1) := by decide +kernel
theorem dX10_event_75 : decode cX10_event 75 = .ok (.imul, 1) := by decide +kernel
theorem dX10_event_76 : decode cX10_event 76 = .ok (.iadd, 1) := by decide +kernel
theorem dX10_event_77 : decode cX10_event 77 = .ok (.iload_n 2, 1) := by decide +kernel
theorem dX10_event_78 : decode cX10_event 78 = .ok (.iadd, 1) := by decide +kernel
theorem dX10_event_79 : decode cX10_event 79 = .ok (.laload, 1) := by decide +kernel
theorem dX10_event_80 : decode cX10_event 80 = .ok (.goto 6, 3) := by decide +kernel
theorem dX10_event_83 : decode cX10_event 83 = .ok (.ldc2_w 116, 3) := by decide +kernel
theorem dX10_event_86 : decode cX10_event 86 = .ok (.lreturn, 1) := by decide +kernel
theorem dX10_share_0 : decode cX10_share 0 = .ok (.aload_n 0, 1) := by decide +kernel
theorem dX10_share_1 : decode cX10_share 1 = .ok (.iload_n 1, 1) := by decide +kernel
theorem dX10_share_2 : decode cX10_share 2 = .ok (.invokevirtual 79, 3) := by decide +kernel
theorem dX10_share_5 : decode cX10_share 5 = .ok (.ifCond .eq 10, 3) := by decide +kernel
theorem dX10_share_8 : decode cX10_share 8 = .ok (.aload_n 0, 1) := by decide +kernel
theorem dX10_share_9 : decode cX10_share 9 = .ok (.invokevirtual 325, 3) := by decide +kernel
theorem dX10_share_12 : decode cX10_share 12 = .ok (.ifCond .ne 7, 3) := by decide +kernel
theorem dX10_share_15 : decode cX10_share 15 = .ok (.ldc2_w 116, 3) := by decide +kernel
theorem dX10_share_18 : decode cX10_share 18 = .ok (.lreturn, 1) := by decide +kernel
theorem dX10_share_19 : decode cX10_share 19 = .ok (.iload_n 2, 1) := by decide +kernel
theorem dX10_share_20 : decode cX10_share 20 = .ok (.iconst (-1), 1) := by decide +kernel
theorem dX10_share_21 : decode cX10_share 21 = .ok (.if_icmp .ne 24, 3) := by decide +kernel
theorem dX10_share_24 : decode cX10_share 24 = .ok (.iload_n 3, 1) := by decide +kernel
theorem dX10_share_25 : decode cX10_share 25 = .ok (.ifCond .ne 16, 3) := by decide +kernel
theorem dX10_share_28 : decode cX10_share 28 = .ok (.aload_n 0, 1) := by decide +kernel
theorem dX10_share_29 : decode cX10_share 29 = .ok (.getfield 9, 3) := by decide +kernel
theorem dX10_share_32 : decode cX10_share 32 = .ok (.sipush 165, 3) := by decide +kernel
theorem dX10_share_35 : decode cX10_share 35 = .ok (.iload_n 1, 1) := by decide +kernel
theorem dX10_share_36 : decode cX10_share 36 = .ok (.iadd, 1) := by decide +kernel
theorem dX10_share_37 : decode cX10_share 37 = .ok (.laload, 1) := by decide +kernel
theorem dX10_share_38 : decode cX10_share 38 = .ok (.goto 6, 3) := by decide +kernel
theorem dX10_share_41 : decode cX10_share 41 = .ok (.ldc2_w 116, 3) := by decide +kernel
theorem dX10_share_44 : decode cX10_share 44 = .ok (.lreturn, 1) := by decide +kernel
theorem dX10_share_45 : decode cX10_share 45 = .ok (.iload_n 2, 1) := by decide +kernel
theorem dX10_share_46 : decode cX10_share 46 = .ok (.i2l, 1) := by decide +kernel
theorem dX10_share_47 : decode cX10_share 47 = .ok (.lconst 0, 1) := by decide +kernel
theorem dX10_share_48 : decode cX10_share 48 = .ok (.aload_n 0, 1) := by decide +kernel
theorem dX10_share_49 : decode cX10_share 49 = .ok (.getfield 9, 3) := by decide +kernel
theorem dX10_share_52 : decode cX10_share 52 = .ok (.sipush 165, 3) := by decide +kernel
theorem dX10_share_55 : decode cX10_share 55 = .ok (.iload_n 1, 1) := by decide +kernel
theorem dX10_share_56 : decode cX10_share 56 = .ok (.iadd, 1) := by decide +kernel
theorem dX10_share_57 : decode cX10_share 57 = .ok (.laload, 1) := by decide +kernel
theorem dX10_share_58 : decode cX10_share 58 = .ok (.lconst 1, 1) := by decide +kernel
theorem dX10_share_59 : decode cX10_share 59 = .ok (.lsub, 1) := by decide +kernel
theorem dX10_share_60 : decode cX10_share 60 = .ok (.invokestatic 65, 3) := by decide +kernel
theorem dX10_share_63 : decode cX10_share 63 = .ok (.ifCond .eq 37, 3) := by decide +kernel
theorem dX10_share_66 : decode cX10_share 66 = .ok (.iload_n 3, 1) := by decide +kernel
theorem dX10_share_67 : decode cX10_share 67 = .ok (.i2l, 1) := by decide +kernel
theorem dX10_share_68 : decode cX10_share 68 = .ok (.lconst 0, 1) := by decide +kernel
theorem dX10_share_69 : decode cX10_share 69 = .ok (.ldc2_w 136, 3) := by decide +kernel
theorem dX10_share_72 : decode cX10_share 72 = .ok (.invokestatic 65, 3) := by decide +kernel
theorem dX10_share_75 : decode cX10_share 75 = .ok (.ifCond .eq 25, 3) := by decide +kernel
theorem dX10_share_78 : decode cX10_share 78 = .ok (.aload_n 0, 1) := by decide +kernel
theorem dX10_share_79 : decode cX10_share 79 = .ok (.getfield 9, 3) := by decide +kernel
theorem dX10_share_82 : decode cX10_share 82 = .ok (.sipush 170, 3) := by decide +kernel
theorem dX10_share_85 : decode cX10_share 85 = .ok (.bipush 8, 2) := by decide +kernel
theorem dX10_share_87 : decode cX10_share 87 = .ok (.iload_n 1, 1) := by decide +kernel
theorem dX10_share_88 : decode cX10_share 88 = .ok (.imul, 1) := by decide +kernel
theorem dX10_share_89 : decode cX10_share 89 = .ok (.iadd, 1) := by decide +kernel
theorem dX10_share_90 : decode cX10_share 90 = .ok (.iconst 4, 1) := by decide +kernel
theorem dX10_share_91 : decode cX10_share 91 = .ok (.iload_n 2, 1) := by decide +kernel
theorem dX10_share_92 : decode cX10_share 92 = .ok (.imul, 1) := by decide +kernel
theorem dX10_share_93 : decode cX10_share 93 = .ok (.iadd, 1) := by decide +kernel
theorem dX10_share_94 : decode cX10_share 94 = .ok (.iload_n 3, 1) := by decide +kernel
theorem dX10_share_95 : decode cX10_share 95 = .ok (.iadd, 1) := by decide +kernel
theorem dX10_share_96 : decode cX10_share 96 = .ok (.laload, 1) := by decide +kernel
theorem dX10_share_97 : decode cX10_share 97 = .ok (.goto 6, 3) := by decide +kernel
theorem dX10_share_100 : decode cX10_share 100 = .ok (.ldc2_w 116, 3) := by decide +kernel
theorem dX10_share_103 : decode cX10_share 103 = .ok (.lreturn, 1) := by decide +kernel
theorem dX10_prints_0 : decode cX10_prints 0 = .ok (.aload_n 0, 1) := by decide +kernel
theorem dX10_prints_1 : decode cX10_prints 1 = .ok (.getfield 40, 3) := by decide +kernel
theorem dX10_prints_4 : decode cX10_prints 4 = .ok (.aload_n 0, 1) := by decide +kernel
theorem dX10_prints_5 : decode cX10_prints 5 = .ok (.getfield 328, 3) := by decide +kernel
theorem dX10_prints_8 : decode cX10_prints 8 = .ok (.iload_n 1, 1) := by decide +kernel
theorem dX10_prints_9 : decode cX10_prints 9 = .ok (.iastore, 1) := by decide +kernel
theorem dX10_prints_10 : decode cX10_prints 10 = .ok (.aload_n 0, 1) := by decide +kernel
theorem dX10_prints_11 : decode cX10_prints 11 = .ok (.dup, 1) := by decide +kernel
theorem dX10_prints_12 : decode cX10_prints 12 = .ok (.getfield 328, 3) := by decide +kernel
theorem dX10_prints_15 : decode cX10_prints 15 = .ok (.iconst 1, 1) := by decide +kernel
theorem dX10_prints_16 : decode cX10_prints 16 = .ok (.iadd, 1) := by decide +kernel
theorem dX10_prints_17 : decode cX10_prints 17 = .ok (.putfield 328, 3) := by decide +kernel
theorem dX10_prints_20 : decode cX10_prints 20 = .ok (.return_, 1) := by decide +kernel
theorem dX10_printsNumber_0 : decode cX10_printsNumber 0 = .ok (.iconst 0, 1) := by decide +kernel
theorem dX10_printsNumber_1 : decode cX10_printsNumber 1 = .ok (.istore_n 3, 1) := by decide +kernel
theorem dX10_printsNumber_2 : decode cX10_printsNumber 2 = .ok (.lload_n 1, 1) := by decide +kernel
theorem dX10_printsNumber_3 : decode cX10_printsNumber 3 = .ok (.lstore 4, 2) := by decide +kernel
theorem dX10_printsNumber_5 : decode cX10_printsNumber 5 = .ok (.iload_n 3, 1) := by decide +kernel
theorem dX10_printsNumber_6 : decode cX10_printsNumber 6 = .ok (.ifCond .eq 10, 3) := by decide +kernel
theorem dX10_printsNumber_9 : decode cX10_printsNumber 9 = .ok (.lload 4, 2) := by decide +kernel
theorem dX10_printsNumber_11 : decode cX10_printsNumber 11 = .ok (.lconst 0, 1) := by decide +kernel
theorem dX10_printsNumber_12 : decode cX10_printsNumber 12 = .ok (.lcmp, 1) := by decide +kernel
theorem dX10_printsNumber_13 : decode cX10_printsNumber 13 = .ok (.ifCond .le 30, 3) := by decide +kernel
theorem dX10_printsNumber_16 : decode cX10_printsNumber 16 = .ok (.aload_n 0, 1) := by decide +kernel
theorem dX10_printsNumber_17 : decode cX10_printsNumber 17 = .ok (.getfield 43, 3) := by decide +kernel
theorem dX10_printsNumber_20 : decode cX10_printsNumber 20 = .ok (.iload_n 3, 1) := by decide +kernel
theorem dX10_printsNumber_21 : decode cX10_printsNumber 21 = .ok (.lload 4, 2) := by decide +kernel
theorem dX10_printsNumber_23 : decode cX10_printsNumber 23 = .ok (.ldc2_w 331, 3) := by decide +kernel
theorem dX10_printsNumber_26 : decode cX10_printsNumber 26 = .ok (.lrem, 1) := by decide +kernel
theorem dX10_printsNumber_27 : decode cX10_printsNumber 27 = .ok (.l2i, 1) := by decide +kernel
theorem dX10_printsNumber_28 : decode cX10_printsNumber 28 = .ok (.iastore, 1) := by decide +kernel
theorem dX10_printsNumber_29 : decode cX10_printsNumber 29 = .ok (.lload 4, 2) := by decide +kernel
theorem dX10_printsNumber_31 : decode cX10_printsNumber 31 = .ok (.ldc2_w 331, 3) := by decide +kernel
theorem dX10_printsNumber_34 : decode cX10_printsNumber 34 = .ok (.ldiv, 1) := by decide +kernel
theorem dX10_printsNumber_35 : decode cX10_printsNumber 35 = .ok (.lstore 4, 2) := by decide +kernel
theorem dX10_printsNumber_37 : decode cX10_printsNumber 37 = .ok (.iinc 3 1, 3) := by decide +kernel
theorem dX10_printsNumber_40 : decode cX10_printsNumber 40 = .ok (.goto (-35), 3) := by decide +kernel
theorem dX10_printsNumber_43 : decode cX10_printsNumber 43 = .ok (.iload_n 3, 1) := by decide +kernel
theorem dX10_printsNumber_44 : decode cX10_printsNumber 44 = .ok (.ifCond .le 22, 3) := by decide +kernel
theorem dX10_printsNumber_47 : decode cX10_printsNumber 47 = .ok (.iinc 3 (-1), 3) := by decide +kernel
theorem dX10_printsNumber_50 : decode cX10_printsNumber 50 = .ok (.aload_n 0, 1) := by decide +kernel
theorem dX10_printsNumber_51 : decode cX10_printsNumber 51 = .ok (.bipush 48, 2) := by decide +kernel
theorem dX10_printsNumber_53 : decode cX10_printsNumber 53 = .ok (.aload_n 0, 1) := by decide +kernel
theorem dX10_printsNumber_54 : decode cX10_printsNumber 54 = .ok (.getfield 43, 3) := by decide +kernel
theorem dX10_printsNumber_57 : decode cX10_printsNumber 57 = .ok (.iload_n 3, 1) := by decide +kernel
theorem dX10_printsNumber_58 : decode cX10_printsNumber 58 = .ok (.iaload, 1) := by decide +kernel
theorem dX10_printsNumber_59 : decode cX10_printsNumber 59 = .ok (.iadd, 1) := by decide +kernel
theorem dX10_printsNumber_60 : decode cX10_printsNumber 60 = .ok (.invokevirtual 333, 3) := by decide +kernel
theorem dX10_printsNumber_63 : decode cX10_printsNumber 63 = .ok (.goto (-20), 3) := by decide +kernel
theorem dX10_printsNumber_66 : decode cX10_printsNumber 66 = .ok (.return_, 1) := by decide +kernel
theorem dX10_printsPoint_0 : decode cX10_printsPoint 0 = .ok (.aload_n 0, 1) := by decide +kernel
theorem dX10_printsPoint_1 : decode cX10_printsPoint 1 = .ok (.aload_n 0, 1) := by decide +kernel
theorem dX10_printsPoint_2 : decode cX10_printsPoint 2 = .ok (.getfield 9, 3) := by decide +kernel
theorem dX10_printsPoint_5 : decode cX10_printsPoint 5 = .ok (.iload_n 1, 1) := by decide +kernel
theorem dX10_printsPoint_6 : decode cX10_printsPoint 6 = .ok (.laload, 1) := by decide +kernel
theorem dX10_printsPoint_7 : decode cX10_printsPoint 7 = .ok (.invokevirtual 336, 3) := by decide +kernel
theorem dX10_printsPoint_10 : decode cX10_printsPoint 10 = .ok (.aload_n 0, 1) := by decide +kernel
theorem dX10_printsPoint_11 : decode cX10_printsPoint 11 = .ok (.getfield 9, 3) := by decide +kernel
theorem dX10_printsPoint_14 : decode cX10_printsPoint 14 = .ok (.iload_n 1, 1) := by decide +kernel
theorem dX10_printsPoint_15 : decode cX10_printsPoint 15 = .ok (.iconst 1, 1) := by decide +kernel
theorem dX10_printsPoint_16 : decode cX10_printsPoint 16 = .ok (.iadd, 1) := by decide +kernel
theorem dX10_printsPoint_17 : decode cX10_printsPoint 17 = .ok (.laload, 1) := by decide +kernel
theorem dX10_printsPoint_18 : decode cX10_printsPoint 18 = .ok (.lconst 1, 1) := by decide +kernel
theorem dX10_printsPoint_19 : decode cX10_printsPoint 19 = .ok (.lcmp, 1) := by decide +kernel
theorem dX10_printsPoint_20 : decode cX10_printsPoint 20 = .ok (.ifCond .eq 21, 3) := by decide +kernel
theorem dX10_printsPoint_23 : decode cX10_printsPoint 23 = .ok (.aload_n 0, 1) := by decide +kernel
theorem dX10_printsPoint_24 : decode cX10_printsPoint 24 = .ok (.bipush 47, 2) := by decide +kernel
theorem dX10_printsPoint_26 : decode cX10_printsPoint 26 = .ok (.invokevirtual 333, 3) := by decide +kernel
theorem dX10_printsPoint_29 : decode cX10_printsPoint 29 = .ok (.aload_n 0, 1) := by decide +kernel
theorem dX10_printsPoint_30 : decode cX10_printsPoint 30 = .ok (.aload_n 0, 1) := by decide +kernel
theorem dX10_printsPoint_31 : decode cX10_printsPoint 31 = .ok (.getfield 9, 3) := by decide +kernel
theorem dX10_printsPoint_34 : decode cX10_printsPoint 34 = .ok (.iload_n 1, 1) := by decide +kernel
theorem dX10_printsPoint_35 : decode cX10_printsPoint 35 = .ok (.iconst 1, 1) := by decide +kernel
theorem dX10_printsPoint_36 : decode cX10_printsPoint 36 = .ok (.iadd, 1) := by decide +kernel
theorem dX10_printsPoint_37 : decode cX10_printsPoint 37 = .ok (.laload, 1) := by decide +kernel
theorem dX10_printsPoint_38 : decode cX10_printsPoint 38 = .ok (.invokevirtual 336, 3) := by decide +kernel
theorem dX10_printsPoint_41 : decode cX10_printsPoint 41 = .ok (.return_, 1) := by decide +kernel
theorem dX10_prints__0 : decode cX10_prints_ 0 = .ok (.aload_n 0, 1) := by decide +kernel
theorem dX10_prints__1 : decode cX10_prints_ 1 = .ok (.invokevirtual 325, 3) := by decide +kernel
theorem dX10_prints__4 : decode cX10_prints_ 4 = .ok (.ifCond .ne 6, 3) := by decide +kernel
theorem dX10_prints__7 : decode cX10_prints_ 7 = .ok (.bipush (-5), 2) := by decide +kernel
theorem dX10_prints__9 : decode cX10_prints_ 9 = .ok (.ireturn, 1) := by decide +kernel
theorem dX10_prints__10 : decode cX10_prints_ 10 = .ok (.aload_n 0, 1) := by decide +kernel
theorem dX10_prints__11 : decode cX10_prints_ 11 = .ok (.iconst 0, 1) := by decide +kernel
theorem dX10_prints__12 : decode cX10_prints_ 12 = .ok (.putfield 328, 3) := by decide +kernel
theorem dX10_prints__15 : decode cX10_prints_ 15 = .ok (.iconst 0, 1) := by decide +kernel
theorem dX10_prints__16 : decode cX10_prints_ 16 = .ok (.istore_n 1, 1) := by decide +kernel
theorem dX10_prints__17 : decode cX10_prints_ 17 = .ok (.iload_n 1, 1) := by decide +kernel
theorem dX10_prints__18 : decode cX10_prints_ 18 = .ok (.i2l, 1) := by decide +kernel
theorem dX10_prints__19 : decode cX10_prints_ 19 = .ok (.aload_n 0, 1) := by decide +kernel
theorem dX10_prints__20 : decode cX10_prints_ 20 = .ok (.getfield 9, 3) := by decide +kernel
theorem dX10_prints__23 : decode cX10_prints_ 23 = .ok (.iconst 4, 1) := by decide +kernel
theorem dX10_prints__24 : decode cX10_prints_ 24 = .ok (.laload, 1) := by decide +kernel
theorem dX10_prints__25 : decode cX10_prints_ 25 = .ok (.lcmp, 1) := by decide +kernel
theorem dX10_prints__26 : decode cX10_prints_ 26 = .ok (.ifCond .ge 115, 3) := by decide +kernel
theorem dX10_prints__29 : decode cX10_prints_ 29 = .ok (.sipush 210, 3) := by decide +kernel
theorem dX10_prints__32 : decode cX10_prints_ 32 = .ok (.bipush 6, 2) := by decide +kernel
theorem dX10_prints__34 : decode cX10_prints_ 34 = .ok (.iload_n 1, 1) := by decide +kernel
theorem dX10_prints__35 : decode cX10_prints_ 35 = .ok (.imul, 1) := by decide +kernel
theorem dX10_prints__36 : decode cX10_prints_ 36 = .ok (.iadd, 1) := by decide +kernel
theorem dX10_prints__37 : decode cX10_prints_ 37 = .ok (.istore_n 2, 1) := by decide +kernel
theorem dX10_prints__38 : decode cX10_prints_ 38 = .ok (.aload_n 0, 1) := by decide +kernel
theorem dX10_prints__39 : decode cX10_prints_ 39 = .ok (.getfield 9, 3) := by decide +kernel
theorem dX10_prints__42 : decode cX10_prints_ 42 = .ok (.iload_n 2, 1) := by decide +kernel
theorem dX10_prints__43 : decode cX10_prints_ 43 = .ok (.laload, 1) := by decide +kernel
theorem dX10_prints__44 : decode cX10_prints_ 44 = .ok (.l2i, 1) := by decide +kernel
theorem dX10_prints__45 : decode cX10_prints_ 45 = .ok (.istore_n 3, 1) := by decide +kernel
theorem dX10_prints__46 : decode cX10_prints_ 46 = .ok (.aload_n 0, 1) := by decide +kernel
theorem dX10_prints__47 : decode cX10_prints_ 47 = .ok (.iload_n 3, 1) := by decide +kernel
theorem dX10_prints__48 : decode cX10_prints_ 48 = .ok (.ifCond .ne 8, 3) := by decide +kernel
theorem dX10_prints__51 : decode cX10_prints_ 51 = .ok (.bipush 109, 2) := by decide +kernel
theorem dX10_prints__53 : decode cX10_prints_ 53 = .ok (.goto 25, 3) := by decide +kernel
theorem dX10_prints__56 : decode cX10_prints_ 56 = .ok (.iload_n 3, 1) := by decide +kernel
theorem dX10_prints__57 : decode cX10_prints_ 57 = .ok (.iconst 1, 1) := by decide +kernel
theorem dX10_prints__58 : decode cX10_prints_ 58 = .ok (.if_icmp .ne 8, 3) := by decide +kernel
theorem dX10_prints__61 : decode cX10_prints_ 61 = .ok (.bipush 116, 2) := by decide +kernel
theorem dX10_prints__63 : decode cX10_prints_ 63 = .ok (.goto 15, 3) := by decide +kernel
theorem dX10_prints__66 : decode cX10_prints_ 66 = .ok (.iload_n 3, 1) := by decide +kernel
theorem dX10_prints__67 : decode cX10_prints_ 67 = .ok (.iconst 2, 1) := by decide +kernel
theorem dX10_prints__68 : decode cX10_prints_ 68 = .ok (.if_icmp .ne 8, 3) := by decide +kernel
theorem dX10_prints__71 : decode cX10_prints_ 71 = .ok (.bipush 112, 2) := by decide +kernel
theorem dX10_prints__73 : decode cX10_prints_ 73 = .ok (.goto 5, 3) := by decide +kernel
theorem dX10_prints__76 : decode cX10_prints_ 76 = .ok (.bipush 103, 2) := by decide +kernel
theorem dX10_prints__78 : decode cX10_prints_ 78 = .ok (.invokevirtual 333, 3) := by decide +kernel
theorem dX10_prints__81 : decode cX10_prints_ 81 = .ok (.aload_n 0, 1) := by decide +kernel
theorem dX10_prints__82 : decode cX10_prints_ 82 = .ok (.aload_n 0, 1) := by decide +kernel
theorem dX10_prints__83 : decode cX10_prints_ 83 = .ok (.getfield 9, 3) := by decide +kernel
theorem dX10_prints__86 : decode cX10_prints_ 86 = .ok (.iload_n 2, 1) := by decide +kernel
theorem dX10_prints__87 : decode cX10_prints_ 87 = .ok (.iconst 1, 1) := by decide +kernel
theorem dX10_prints__88 : decode cX10_prints_ 88 = .ok (.iadd, 1) := by decide +kernel
theorem dX10_prints__89 : decode cX10_prints_ 89 = .ok (.laload, 1) := by decide +kernel
theorem dX10_prints__90 : decode cX10_prints_ 90 = .ok (.invokevirtual 336, 3) := by decide +kernel
theorem dX10_prints__93 : decode cX10_prints_ 93 = .ok (.iload_n 3, 1) := by decide +kernel
theorem dX10_prints__94 : decode cX10_prints_ 94 = .ok (.iconst 2, 1) := by decide +kernel
theorem dX10_prints__95 : decode cX10_prints_ 95 = .ok (.if_icmp .eq 16, 3) := by decide +kernel
theorem dX10_prints__98 : decode cX10_prints_ 98 = .ok (.aload_n 0, 1) := by decide +kernel
theorem dX10_prints__99 : decode cX10_prints_ 99 = .ok (.bipush 32, 2) := by decide +kernel
theorem dX10_prints__101 : decode cX10_prints_ 101 = .ok (.invokevirtual 333, 3) := by decide +kernel
theorem dX10_prints__104 : decode cX10_prints_ 104 = .ok (.aload_n 0, 1) := by decide +kernel
theorem dX10_prints__105 : decode cX10_prints_ 105 = .ok (.iload_n 2, 1) := by decide +kernel
theorem dX10_prints__106 : decode cX10_prints_ 106 = .ok (.iconst 2, 1) := by decide +kernel
theorem dX10_prints__107 : decode cX10_prints_ 107 = .ok (.iadd, 1) := by decide +kernel
theorem dX10_prints__108 : decode cX10_prints_ 108 = .ok (.invokevirtual 339, 3) := by decide +kernel
theorem dX10_prints__111 : decode cX10_prints_ 111 = .ok (.iload_n 3, 1) := by decide +kernel
theorem dX10_prints__112 : decode cX10_prints_ 112 = .ok (.iconst 3, 1) := by decide +kernel
theorem dX10_prints__113 : decode cX10_prints_ 113 = .ok (.if_icmp .ne 16, 3) := by decide +kernel
theorem dX10_prints__116 : decode cX10_prints_ 116 = .ok (.aload_n 0, 1) := by decide +kernel
theorem dX10_prints__117 : decode cX10_prints_ 117 = .ok (.bipush 45, 2) := by decide +kernel
theorem dX10_prints__119 : decode cX10_prints_ 119 = .ok (.invokevirtual 333, 3) := by decide +kernel
theorem dX10_prints__122 : decode cX10_prints_ 122 = .ok (.aload_n 0, 1) := by decide +kernel
theorem dX10_prints__123 : decode cX10_prints_ 123 = .ok (.iload_n 2, 1) := by decide +kernel
theorem dX10_prints__124 : decode cX10_prints_ 124 = .ok (.iconst 4, 1) := by decide +kernel
theorem dX10_prints__125 : decode cX10_prints_ 125 = .ok (.iadd, 1) := by decide +kernel
theorem dX10_prints__126 : decode cX10_prints_ 126 = .ok (.invokevirtual 339, 3) := by decide +kernel
theorem dX10_prints__129 : decode cX10_prints_ 129 = .ok (.aload_n 0, 1) := by decide +kernel
theorem dX10_prints__130 : decode cX10_prints_ 130 = .ok (.bipush 59, 2) := by decide +kernel
theorem dX10_prints__132 : decode cX10_prints_ 132 = .ok (.invokevirtual 333, 3) := by decide +kernel
theorem dX10_prints__135 : decode cX10_prints_ 135 = .ok (.iinc 1 1, 3) := by decide +kernel
theorem dX10_prints__138 : decode cX10_prints_ 138 = .ok (.goto (-121), 3) := by decide +kernel
theorem dX10_prints__141 : decode cX10_prints_ 141 = .ok (.aload_n 0, 1) := by decide +kernel
theorem dX10_prints__142 : decode cX10_prints_ 142 = .ok (.getfield 328, 3) := by decide +kernel
theorem dX10_prints__145 : decode cX10_prints_ 145 = .ok (.ireturn, 1) := by decide +kernel
theorem dX10_paper_0 : decode cX10_paper 0 = .ok (.iload_n 1, 1) := by decide +kernel
theorem dX10_paper_1 : decode cX10_paper 1 = .ok (.iconst (-1), 1) := by decide +kernel
theorem dX10_paper_2 : decode cX10_paper 2 = .ok (.if_icmp .ge 5, 3) := by decide +kernel
theorem dX10_paper_5 : decode cX10_paper 5 = .ok (.iconst (-1), 1) := by decide +kernel
theorem dX10_paper_6 : decode cX10_paper 6 = .ok (.ireturn, 1) := by decide +kernel
theorem dX10_paper_7 : decode cX10_paper 7 = .ok (.iload_n 1, 1) := by decide +kernel
theorem dX10_paper_8 : decode cX10_paper 8 = .ok (.iconst (-1), 1) := by decide +kernel
theorem dX10_paper_9 : decode cX10_paper 9 = .ok (.if_icmp .ne 10, 3) := by decide +kernel
theorem dX10_paper_12 : decode cX10_paper 12 = .ok (.aload_n 0, 1) := by decide +kernel
theorem dX10_paper_13 : decode cX10_paper 13 = .ok (.getfield 328, 3) := by decide +kernel
theorem dX10_paper_16 : decode cX10_paper 16 = .ok (.goto 22, 3) := by decide +kernel
theorem dX10_paper_19 : decode cX10_paper 19 = .ok (.iload_n 1, 1) := by decide +kernel
theorem dX10_paper_20 : decode cX10_paper 20 = .ok (.aload_n 0, 1) := by decide +kernel
theorem dX10_paper_21 : decode cX10_paper 21 = .ok (.getfield 328, 3) := by decide +kernel
theorem dX10_paper_24 : decode cX10_paper 24 = .ok (.if_icmp .ge 12, 3) := by decide +kernel
theorem dX10_paper_27 : decode cX10_paper 27 = .ok (.aload_n 0, 1) := by decide +kernel
theorem dX10_paper_28 : decode cX10_paper 28 = .ok (.getfield 40, 3) := by decide +kernel
theorem dX10_paper_31 : decode cX10_paper 31 = .ok (.iload_n 1, 1) := by decide +kernel
theorem dX10_paper_32 : decode cX10_paper 32 = .ok (.iaload, 1) := by decide +kernel
theorem dX10_paper_33 : decode cX10_paper 33 = .ok (.goto 5, 3) := by decide +kernel
theorem dX10_paper_36 : decode cX10_paper 36 = .ok (.bipush (-2), 2) := by decide +kernel
theorem dX10_paper_38 : decode cX10_paper 38 = .ok (.ireturn, 1) := by decide +kernel
theorem dX10_scaled_0 : decode cX10_scaled 0 = .ok (.aload_n 0, 1) := by decide +kernel
theorem dX10_scaled_1 : decode cX10_scaled 1 = .ok (.iload_n 1, 1) := by decide +kernel
theorem dX10_scaled_2 : decode cX10_scaled 2 = .ok (.iload_n 2, 1) := by decide +kernel
theorem dX10_scaled_3 : decode cX10_scaled 3 = .ok (.aload_n 0, 1) := by decide +kernel
theorem dX10_scaled_4 : decode cX10_scaled 4 = .ok (.getfield 9, 3) := by decide +kernel
theorem dX10_scaled_7 : decode cX10_scaled 7 = .ok (.iload_n 3, 1) := by decide +kernel
theorem dX10_scaled_8 : decode cX10_scaled 8 = .ok (.laload, 1) := by decide +kernel
theorem dX10_scaled_9 : decode cX10_scaled 9 = .ok (.aload_n 0, 1) := by decide +kernel
theorem dX10_scaled_10 : decode cX10_scaled 10 = .ok (.getfield 9, 3) := by decide +kernel
theorem dX10_scaled_13 : decode cX10_scaled 13 = .ok (.iload_n 3, 1) := by decide +kernel
theorem dX10_scaled_14 : decode cX10_scaled 14 = .ok (.iconst 1, 1) := by decide +kernel
theorem dX10_scaled_15 : decode cX10_scaled 15 = .ok (.iadd, 1) := by decide +kernel
theorem dX10_scaled_16 : decode cX10_scaled 16 = .ok (.laload, 1) := by decide +kernel
theorem dX10_scaled_17 : decode cX10_scaled 17 = .ok (.aload_n 0, 1) := by decide +kernel
theorem dX10_scaled_18 : decode cX10_scaled 18 = .ok (.getfield 9, 3) := by decide +kernel
theorem dX10_scaled_21 : decode cX10_scaled 21 = .ok (.iload_n 3, 1) := by decide +kernel
theorem dX10_scaled_22 : decode cX10_scaled 22 = .ok (.iconst 2, 1) := by decide +kernel
theorem dX10_scaled_23 : decode cX10_scaled 23 = .ok (.iadd, 1) := by decide +kernel
theorem dX10_scaled_24 : decode cX10_scaled 24 = .ok (.laload, 1) := by decide +kernel
theorem dX10_scaled_25 : decode cX10_scaled 25 = .ok (.aload_n 0, 1) := by decide +kernel
theorem dX10_scaled_26 : decode cX10_scaled 26 = .ok (.getfield 9, 3) := by decide +kernel
theorem dX10_scaled_29 : decode cX10_scaled 29 = .ok (.iload_n 3, 1) := by decide +kernel
theorem dX10_scaled_30 : decode cX10_scaled 30 = .ok (.iconst 3, 1) := by decide +kernel
theorem dX10_scaled_31 : decode cX10_scaled 31 = .ok (.iadd, 1) := by decide +kernel
theorem dX10_scaled_32 : decode cX10_scaled 32 = .ok (.laload, 1) := by decide +kernel
theorem dX10_scaled_33 : decode cX10_scaled 33 = .ok (.invokevirtual 118, 3) := by decide +kernel
theorem dX10_scaled_36 : decode cX10_scaled 36 = .ok (.aload_n 0, 1) := by decide +kernel
theorem dX10_scaled_37 : decode cX10_scaled 37 = .ok (.getfield 99, 3) := by decide +kernel
theorem dX10_scaled_40 : decode cX10_scaled 40 = .ok (.aload_n 0, 1) := by decide +kernel
theorem dX10_scaled_41 : decode cX10_scaled 41 = .ok (.getfield 9, 3) := by decide +kernel
theorem dX10_scaled_44 : decode cX10_scaled 44 = .ok (.iconst 3, 1) := by decide +kernel
theorem dX10_scaled_45 : decode cX10_scaled 45 = .ok (.laload, 1) := by decide +kernel
theorem dX10_scaled_46 : decode cX10_scaled 46 = .ok (.aload_n 0, 1) := by decide +kernel
theorem dX10_scaled_47 : decode cX10_scaled 47 = .ok (.getfield 103, 3) := by decide +kernel
theorem dX10_scaled_50 : decode cX10_scaled 50 = .ok (.ldiv, 1) := by decide +kernel
theorem dX10_scaled_51 : decode cX10_scaled 51 = .ok (.lmul, 1) := by decide +kernel
theorem dX10_scaled_52 : decode cX10_scaled 52 = .ok (.lreturn, 1) := by decide +kernel
theorem dX10_worthOfShare_0 : decode cX10_worthOfShare 0 = .ok (.lconst 0, 1) := by decide +kernel
theorem dX10_worthOfShare_1 : decode cX10_worthOfShare 1 = .ok (.lstore 4, 2) := by decide +kernel
theorem dX10_worthOfShare_3 : decode cX10_worthOfShare 3 = .ok (.iconst 0, 1) := by decide +kernel
theorem dX10_worthOfShare_4 : decode cX10_worthOfShare 4 = .ok (.istore 6, 2) := by decide +kernel
theorem dX10_worthOfShare_6 : decode cX10_worthOfShare 6 = .ok (.iload 6, 2) := by decide +kernel
theorem dX10_worthOfShare_8 : decode cX10_worthOfShare 8 = .ok (.i2l, 1) := by decide +kernel
theorem dX10_worthOfShare_9 : decode cX10_worthOfShare 9 = .ok (.aload_n 0, 1) := by decide +kernel
theorem dX10_worthOfShare_10 : decode cX10_worthOfShare 10 = .ok (.getfield 9, 3) := by decide +kernel
theorem dX10_worthOfShare_13 : decode cX10_worthOfShare 13 = .ok (.sipush 165, 3) := by decide +kernel
theorem dX10_worthOfShare_16 : decode cX10_worthOfShare 16 = .ok (.iload_n 2, 1) := by decide +kernel
theorem dX10_worthOfShare_17 : decode cX10_worthOfShare 17 = .ok (.iadd, 1) := by decide +kernel
theorem dX10_worthOfShare_18 : decode cX10_worthOfShare 18 = .ok (.laload, 1) := by decide +kernel
theorem dX10_worthOfShare_19 : decode cX10_worthOfShare 19 = .ok (.lcmp, 1) := by decide +kernel
theorem dX10_worthOfShare_20 : decode cX10_worthOfShare 20 = .ok (.ifCond .ge 33, 3) := by decide +kernel
theorem dX10_worthOfShare_23 : decode cX10_worthOfShare 23 = .ok (.lload 4, 2) := by decide +kernel
theorem dX10_worthOfShare_25 : decode cX10_worthOfShare 25 = .ok (.aload_n 0, 1) := by decide +kernel
theorem dX10_worthOfShare_26 : decode cX10_worthOfShare 26 = .ok (.iload_n 1, 1) := by decide +kernel
theorem dX10_worthOfShare_27 : decode cX10_worthOfShare 27 = .ok (.iload_n 3, 1) := by decide +kernel
theorem dX10_worthOfShare_28 : decode cX10_worthOfShare 28 = .ok (.sipush 170, 3) := by decide +kernel
theorem dX10_worthOfShare_31 : decode cX10_worthOfShare 31 = .ok (.bipush 8, 2) := by decide +kernel
theorem dX10_worthOfShare_33 : decode cX10_worthOfShare 33 = .ok (.iload_n 2, 1) := by decide +kernel
theorem dX10_worthOfShare_34 : decode cX10_worthOfShare 34 = .ok (.imul, 1) := by decide +kernel
theorem dX10_worthOfShare_35 : decode cX10_worthOfShare 35 = .ok (.iadd, 1) := by decide +kernel
theorem dX10_worthOfShare_36 : decode cX10_worthOfShare 36 = .ok (.iconst 4, 1) := by decide +kernel
theorem dX10_worthOfShare_37 : decode cX10_worthOfShare 37 = .ok (.iload 6, 2) := by decide +kernel
theorem dX10_worthOfShare_39 : decode cX10_worthOfShare 39 = .ok (.imul, 1) := by decide +kernel
theorem dX10_worthOfShare_40 : decode cX10_worthOfShare 40 = .ok (.iadd, 1) := by decide +kernel
theorem dX10_worthOfShare_41 : decode cX10_worthOfShare 41 = .ok (.invokevirtual 342, 3) := by decide +kernel
theorem dX10_worthOfShare_44 : decode cX10_worthOfShare 44 = .ok (.ladd, 1) := by decide +kernel
theorem dX10_worthOfShare_45 : decode cX10_worthOfShare 45 = .ok (.lstore 4, 2) := by decide +kernel
theorem dX10_worthOfShare_47 : decode cX10_worthOfShare 47 = .ok (.iinc 6 1, 3) := by decide +kernel
theorem dX10_worthOfShare_50 : decode cX10_worthOfShare 50 = .ok (.goto (-44), 3) := by decide +kernel
theorem dX10_worthOfShare_53 : decode cX10_worthOfShare 53 = .ok (.lload 4, 2) := by decide +kernel
theorem dX10_worthOfShare_55 : decode cX10_worthOfShare 55 = .ok (.lreturn, 1) := by decide +kernel
theorem dX10_gets_0 : decode cX10_gets 0 = .ok (.aload_n 0, 1) := by decide +kernel
theorem dX10_gets_1 : decode cX10_gets 1 = .ok (.iload_n 1, 1) := by decide +kernel
theorem dX10_gets_2 : decode cX10_gets 2 = .ok (.invokevirtual 79, 3) := by decide +kernel
theorem dX10_gets_5 : decode cX10_gets 5 = .ok (.ifCond .eq 39, 3) := by decide +kernel
theorem dX10_gets_8 : decode cX10_gets 8 = .ok (.aload_n 0, 1) := by decide +kernel
theorem dX10_gets_9 : decode cX10_gets 9 = .ok (.iload_n 2, 1) := by decide +kernel
theorem dX10_gets_10 : decode cX10_gets 10 = .ok (.invokevirtual 79, 3) := by decide +kernel
theorem dX10_gets_13 : decode cX10_gets 13 = .ok (.ifCond .eq 31, 3) := by decide +kernel
theorem dX10_gets_16 : decode cX10_gets 16 = .ok (.iload_n 3, 1) := by decide +kernel
theorem dX10_gets_17 : decode cX10_gets 17 = .ok (.i2l, 1) := by decide +kernel
theorem dX10_gets_18 : decode cX10_gets 18 = .ok (.lconst 0, 1) := by decide +kernel
theorem dX10_gets_19 : decode cX10_gets 19 = .ok (.lconst 1, 1) := by decide +kernel
theorem dX10_gets_20 : decode cX10_gets 20 = .ok (.invokestatic 65, 3) := by decide +kernel
theorem dX10_gets_23 : decode cX10_gets 23 = .ok (.ifCond .eq 21, 3) := by decide +kernel
theorem dX10_gets_26 : decode cX10_gets 26 = .ok (.iload 4, 2) := by decide +kernel
theorem dX10_gets_28 : decode cX10_gets 28 = .ok (.i2l, 1) := by decide +kernel
theorem dX10_gets_29 : decode cX10_gets 29 = .ok (.lconst 0, 1) := by decide +kernel
theorem dX10_gets_30 : decode cX10_gets 30 = .ok (.lconst 1, 1) := by decide +kernel
theorem dX10_gets_31 : decode cX10_gets 31 = .ok (.invokestatic 65, 3) := by decide +kernel
theorem dX10_gets_34 : decode cX10_gets 34 = .ok (.ifCond .eq 10, 3) := by decide +kernel
theorem dX10_gets_37 : decode cX10_gets 37 = .ok (.aload_n 0, 1) := by decide +kernel
theorem dX10_gets_38 : decode cX10_gets 38 = .ok (.invokevirtual 325, 3) := by decide +kernel
theorem dX10_gets_41 : decode cX10_gets 41 = .ok (.ifCond .ne 7, 3) := by decide +kernel
theorem dX10_gets_44 : decode cX10_gets 44 = .ok (.ldc2_w 116, 3) := by decide +kernel
theorem dX10_gets_47 : decode cX10_gets 47 = .ok (.lreturn, 1) := by decide +kernel
theorem dX10_gets_48 : decode cX10_gets 48 = .ok (.aload_n 0, 1) := by decide +kernel
theorem dX10_gets_49 : decode cX10_gets 49 = .ok (.aload_n 0, 1) := by decide +kernel
theorem dX10_gets_50 : decode cX10_gets 50 = .ok (.iload_n 1, 1) := by decide +kernel
theorem dX10_gets_51 : decode cX10_gets 51 = .ok (.iload_n 2, 1) := by decide +kernel
theorem dX10_gets_52 : decode cX10_gets 52 = .ok (.iload_n 3, 1) := by decide +kernel
theorem dX10_gets_53 : decode cX10_gets 53 = .ok (.invokevirtual 345, 3) := by decide +kernel
theorem dX10_gets_56 : decode cX10_gets 56 = .ok (.aload_n 0, 1) := by decide +kernel
theorem dX10_gets_57 : decode cX10_gets 57 = .ok (.getfield 9, 3) := by decide +kernel
theorem dX10_gets_60 : decode cX10_gets 60 = .ok (.iconst 3, 1) := by decide +kernel
theorem dX10_gets_61 : decode cX10_gets 61 = .ok (.laload, 1) := by decide +kernel
theorem dX10_gets_62 : decode cX10_gets 62 = .ok (.invokevirtual 110, 3) := by decide +kernel
theorem dX10_gets_65 : decode cX10_gets 65 = .ok (.aload_n 0, 1) := by decide +kernel
theorem dX10_gets_66 : decode cX10_gets 66 = .ok (.iload 4, 2) := by decide +kernel
theorem dX10_gets_68 : decode cX10_gets 68 = .ok (.invokevirtual 122, 3) := by decide +kernel
theorem dX10_gets_71 : decode cX10_gets 71 = .ok (.lreturn, 1) := by decide +kernel
theorem dX10_envies_0 : decode cX10_envies 0 = .ok (.aload_n 0, 1) := by decide +kernel
theorem dX10_envies_1 : decode cX10_envies 1 = .ok (.iload_n 1, 1) := by decide +kernel
theorem dX10_envies_2 : decode cX10_envies 2 = .ok (.invokevirtual 79, 3) := by decide +kernel
theorem dX10_envies_5 : decode cX10_envies 5 = .ok (.ifCond .eq 13, 3) := by decide +kernel
theorem dX10_envies_8 : decode cX10_envies 8 = .ok (.iload_n 2, 1) := by decide +kernel
theorem dX10_envies_9 : decode cX10_envies 9 = .ok (.i2l, 1) := by decide +kernel
theorem dX10_envies_10 : decode cX10_envies 10 = .ok (.lconst 0, 1) := by decide +kernel
theorem dX10_envies_11 : decode cX10_envies 11 = .ok (.lconst 1, 1) := by decide +kernel
theorem dX10_envies_12 : decode cX10_envies 12 = .ok (.invokestatic 65, 3) := by decide +kernel
theorem dX10_envies_15 : decode cX10_envies 15 = .ok (.ifCond .ne 5, 3) := by decide +kernel
theorem dX10_envies_18 : decode cX10_envies 18 = .ok (.iconst (-1), 1) := by decide +kernel
theorem dX10_envies_19 : decode cX10_envies 19 = .ok (.ireturn, 1) := by decide +kernel
theorem dX10_envies_20 : decode cX10_envies 20 = .ok (.aload_n 0, 1) := by decide +kernel
theorem dX10_envies_21 : decode cX10_envies 21 = .ok (.invokevirtual 325, 3) := by decide +kernel
theorem dX10_envies_24 : decode cX10_envies 24 = .ok (.ifCond .ne 6, 3) := by decide +kernel
theorem dX10_envies_27 : decode cX10_envies 27 = .ok (.bipush (-5), 2) := by decide +kernel
theorem dX10_envies_29 : decode cX10_envies 29 = .ok (.ireturn, 1) := by decide +kernel
theorem dX10_envies_30 : decode cX10_envies 30 = .ok (.iconst 0, 1) := by decide +kernel
theorem dX10_envies_31 : decode cX10_envies 31 = .ok (.istore_n 3, 1) := by decide +kernel
theorem dX10_envies_32 : decode cX10_envies 32 = .ok (.aload_n 0, 1) := by decide +kernel
theorem dX10_envies_33 : decode cX10_envies 33 = .ok (.iload_n 1, 1) := by decide +kernel
theorem dX10_envies_34 : decode cX10_envies 34 = .ok (.iload_n 1, 1) := by decide +kernel
theorem dX10_envies_35 : decode cX10_envies 35 = .ok (.iload_n 2, 1) := by decide +kernel
theorem dX10_envies_36 : decode cX10_envies 36 = .ok (.invokevirtual 345, 3) := by decide +kernel
theorem dX10_envies_39 : decode cX10_envies 39 = .ok (.lstore 4, 2) := by decide +kernel
theorem dX10_envies_41 : decode cX10_envies 41 = .ok (.iconst 0, 1) := by decide +kernel
theorem dX10_envies_42 : decode cX10_envies 42 = .ok (.istore 6, 2) := by decide +kernel
theorem dX10_envies_44 : decode cX10_envies 44 = .ok (.iload 6, 2) := by decide +kernel
theorem dX10_envies_46 : decode cX10_envies 46 = .ok (.aload_n 0, 1) := by decide +kernel
theorem dX10_envies_47 : decode cX10_envies 47 = .ok (.invokevirtual 75, 3) := by decide +kernel
theorem dX10_envies_50 : decode cX10_envies 50 = .ok (.if_icmp .ge 34, 3) := by decide +kernel
theorem dX10_envies_53 : decode cX10_envies 53 = .ok (.iload_n 3, 1) := by decide +kernel
theorem dX10_envies_54 : decode cX10_envies 54 = .ok (.aload_n 0, 1) := by decide +kernel
theorem dX10_envies_55 : decode cX10_envies 55 = .ok (.iload_n 1, 1) := by decide +kernel
theorem dX10_envies_56 : decode cX10_envies 56 = .ok (.iload 6, 2) := by decide +kernel
theorem dX10_envies_58 : decode cX10_envies 58 = .ok (.iload_n 2, 1) := by decide +kernel
theorem dX10_envies_59 : decode cX10_envies 59 = .ok (.invokevirtual 345, 3) := by decide +kernel
theorem dX10_envies_62 : decode cX10_envies 62 = .ok (.lload 4, 2) := by decide +kernel
theorem dX10_envies_64 : decode cX10_envies 64 = .ok (.lcmp, 1) := by decide +kernel
theorem dX10_envies_65 : decode cX10_envies 65 = .ok (.ifCond .le 10, 3) := by decide +kernel
theorem dX10_envies_68 : decode cX10_envies 68 = .ok (.iconst 1, 1) := by decide +kernel
theorem dX10_envies_69 : decode cX10_envies 69 = .ok (.iload 6, 2) := by decide +kernel
theorem dX10_envies_71 : decode cX10_envies 71 = .ok (.ishl, 1) := by decide +kernel
theorem dX10_envies_72 : decode cX10_envies 72 = .ok (.goto 4, 3) := by decide +kernel
theorem dX10_envies_75 : decode cX10_envies 75 = .ok (.iconst 0, 1) := by decide +kernel
theorem dX10_envies_76 : decode cX10_envies 76 = .ok (.ior, 1) := by decide +kernel
theorem dX10_envies_77 : decode cX10_envies 77 = .ok (.istore_n 3, 1) := by decide +kernel
theorem dX10_envies_78 : decode cX10_envies 78 = .ok (.iinc 6 1, 3) := by decide +kernel
theorem dX10_envies_81 : decode cX10_envies 81 = .ok (.goto (-37), 3) := by decide +kernel
theorem dX10_envies_84 : decode cX10_envies 84 = .ok (.iload_n 3, 1) := by decide +kernel
theorem dX10_envies_85 : decode cX10_envies 85 = .ok (.ireturn, 1) := by decide +kernel
theorem dX10_fair_0 : decode cX10_fair 0 = .ok (.iload_n 1, 1) := by decide +kernel
theorem dX10_fair_1 : decode cX10_fair 1 = .ok (.i2l, 1) := by decide +kernel
theorem dX10_fair_2 : decode cX10_fair 2 = .ok (.lconst 0, 1) := by decide +kernel
theorem dX10_fair_3 : decode cX10_fair 3 = .ok (.lconst 1, 1) := by decide +kernel
theorem dX10_fair_4 : decode cX10_fair 4 = .ok (.invokestatic 65, 3) := by decide +kernel
theorem dX10_fair_7 : decode cX10_fair 7 = .ok (.ifCond .ne 5, 3) := by decide +kernel
theorem dX10_fair_10 : decode cX10_fair 10 = .ok (.iconst (-1), 1) := by decide +kernel
theorem dX10_fair_11 : decode cX10_fair 11 = .ok (.ireturn, 1) := by decide +kernel
theorem dX10_fair_12 : decode cX10_fair 12 = .ok (.aload_n 0, 1) := by decide +kernel
theorem dX10_fair_13 : decode cX10_fair 13 = .ok (.invokevirtual 325, 3) := by decide +kernel
theorem dX10_fair_16 : decode cX10_fair 16 = .ok (.ifCond .ne 6, 3) := by decide +kernel
theorem dX10_fair_19 : decode cX10_fair 19 = .ok (.bipush (-5), 2) := by decide +kernel
theorem dX10_fair_21 : decode cX10_fair 21 = .ok (.ireturn, 1) := by decide +kernel
theorem dX10_fair_22 : decode cX10_fair 22 = .ok (.iconst 0, 1) := by decide +kernel
theorem dX10_fair_23 : decode cX10_fair 23 = .ok (.istore_n 2, 1) := by decide +kernel
theorem dX10_fair_24 : decode cX10_fair 24 = .ok (.iconst 0, 1) := by decide +kernel
theorem dX10_fair_25 : decode cX10_fair 25 = .ok (.istore_n 3, 1) := by decide +kernel
theorem dX10_fair_26 : decode cX10_fair 26 = .ok (.iload_n 3, 1) := by decide +kernel
theorem dX10_fair_27 : decode cX10_fair 27 = .ok (.aload_n 0, 1) := by decide +kernel
theorem dX10_fair_28 : decode cX10_fair 28 = .ok (.invokevirtual 75, 3) := by decide +kernel
theorem dX10_fair_31 : decode cX10_fair 31 = .ok (.if_icmp .ge 49, 3) := by decide +kernel
theorem dX10_fair_34 : decode cX10_fair 34 = .ok (.iload_n 2, 1) := by decide +kernel
theorem dX10_fair_35 : decode cX10_fair 35 = .ok (.aload_n 0, 1) := by decide +kernel
theorem dX10_fair_36 : decode cX10_fair 36 = .ok (.iload_n 3, 1) := by decide +kernel
theorem dX10_fair_37 : decode cX10_fair 37 = .ok (.iload_n 3, 1) := by decide +kernel
theorem dX10_fair_38 : decode cX10_fair 38 = .ok (.iload_n 1, 1) := by decide +kernel
theorem dX10_fair_39 : decode cX10_fair 39 = .ok (.invokevirtual 345, 3) := by decide +kernel
theorem dX10_fair_42 : decode cX10_fair 42 = .ok (.aload_n 0, 1) := by decide +kernel
theorem dX10_fair_43 : decode cX10_fair 43 = .ok (.invokevirtual 75, 3) := by decide +kernel
theorem dX10_fair_46 : decode cX10_fair 46 = .ok (.i2l, 1) := by decide +kernel
theorem dX10_fair_47 : decode cX10_fair 47 = .ok (.lmul, 1) := by decide +kernel
theorem dX10_fair_48 : decode cX10_fair 48 = .ok (.aload_n 0, 1) := by decide +kernel
theorem dX10_fair_49 : decode cX10_fair 49 = .ok (.iload_n 3, 1) := by decide +kernel
theorem dX10_fair_50 : decode cX10_fair 50 = .ok (.iload_n 1, 1) := by decide +kernel
theorem dX10_fair_51 : decode cX10_fair 51 = .ok (.invokevirtual 128, 3) := by decide +kernel
theorem dX10_fair_54 : decode cX10_fair 54 = .ok (.aload_n 0, 1) := by decide +kernel
theorem dX10_fair_55 : decode cX10_fair 55 = .ok (.getfield 9, 3) := by decide +kernel
theorem dX10_fair_58 : decode cX10_fair 58 = .ok (.iconst 3, 1) := by decide +kernel
theorem dX10_fair_59 : decode cX10_fair 59 = .ok (.laload, 1) := by decide +kernel
theorem dX10_fair_60 : decode cX10_fair 60 = .ok (.lmul, 1) := by decide +kernel
theorem dX10_fair_61 : decode cX10_fair 61 = .ok (.lcmp, 1) := by decide +kernel
theorem dX10_fair_62 : decode cX10_fair 62 = .ok (.ifCond .lt 9, 3) := by decide +kernel
theorem dX10_fair_65 : decode cX10_fair 65 = .ok (.iconst 1, 1) := by decide +kernel
theorem dX10_fair_66 : decode cX10_fair 66 = .ok (.iload_n 3, 1) := by decide +kernel
theorem dX10_fair_67 : decode cX10_fair 67 = .ok (.ishl, 1) := by decide +kernel
theorem dX10_fair_68 : decode cX10_fair 68 = .ok (.goto 4, 3) := by decide +kernel
theorem dX10_fair_71 : decode cX10_fair 71 = .ok (.iconst 0, 1) := by decide +kernel
theorem dX10_fair_72 : decode cX10_fair 72 = .ok (.ior, 1) := by decide +kernel
theorem dX10_fair_73 : decode cX10_fair 73 = .ok (.istore_n 2, 1) := by decide +kernel
theorem dX10_fair_74 : decode cX10_fair 74 = .ok (.iinc 3 1, 3) := by decide +kernel
theorem dX10_fair_77 : decode cX10_fair 77 = .ok (.goto (-51), 3) := by decide +kernel
theorem dX10_fair_80 : decode cX10_fair 80 = .ok (.iload_n 2, 1) := by decide +kernel
theorem dX10_fair_81 : decode cX10_fair 81 = .ok (.ireturn, 1) := by decide +kernel
theorem dX10_byFigures_0 : decode cX10_byFigures 0 = .ok (.iload_n 1, 1) := by decide +kernel
theorem dX10_byFigures_1 : decode cX10_byFigures 1 = .ok (.istore_n 2, 1) := by decide +kernel
theorem dX10_byFigures_2 : decode cX10_byFigures 2 = .ok (.iconst 0, 1) := by decide +kernel
theorem dX10_byFigures_3 : decode cX10_byFigures 3 = .ok (.istore_n 3, 1) := by decide +kernel
theorem dX10_byFigures_4 : decode cX10_byFigures 4 = .ok (.lconst 0, 1) := by decide +kernel
theorem dX10_byFigures_5 : decode cX10_byFigures 5 = .ok (.lstore 4, 2) := by decide +kernel
theorem dX10_byFigures_7 : decode cX10_byFigures 7 = .ok (.aload_n 0, 1) := by decide +kernel
theorem dX10_byFigures_8 : decode cX10_byFigures 8 = .ok (.invokevirtual 75, 3) := by decide +kernel
theorem dX10_byFigures_11 : decode cX10_byFigures 11 = .ok (.iconst 1, 1) := by decide +kernel
theorem dX10_byFigures_12 : decode cX10_byFigures 12 = .ok (.isub, 1) := by decide +kernel
theorem dX10_byFigures_13 : decode cX10_byFigures 13 = .ok (.istore 6, 2) := by decide +kernel
theorem dX10_byFigures_15 : decode cX10_byFigures 15 = .ok (.iload 6, 2) := by decide +kernel
theorem dX10_byFigures_17 : decode cX10_byFigures 17 = .ok (.ifCond .lt 62, 3) := by decide +kernel
theorem dX10_byFigures_20 : decode cX10_byFigures 20 = .ok (.iload_n 2, 1) := by decide +kernel
theorem dX10_byFigures_21 : decode cX10_byFigures 21 = .ok (.aload_n 0, 1) := by decide +kernel
theorem dX10_byFigures_22 : decode cX10_byFigures 22 = .ok (.invokevirtual 75, 3) := by decide +kernel
theorem dX10_byFigures_25 : decode cX10_byFigures 25 = .ok (.irem, 1) := by decide +kernel
theorem dX10_byFigures_26 : decode cX10_byFigures 26 = .ok (.istore 7, 2) := by decide +kernel
theorem dX10_byFigures_28 : decode cX10_byFigures 28 = .ok (.iload_n 2, 1) := by decide +kernel
theorem dX10_byFigures_29 : decode cX10_byFigures 29 = .ok (.aload_n 0, 1) := by decide +kernel
theorem dX10_byFigures_30 : decode cX10_byFigures 30 = .ok (.invokevirtual 75, 3) := by decide +kernel
theorem dX10_byFigures_33 : decode cX10_byFigures 33 = .ok (.idiv, 1) := by decide +kernel
theorem dX10_byFigures_34 : decode cX10_byFigures 34 = .ok (.istore_n 2, 1) := by decide +kernel
theorem dX10_byFigures_35 : decode cX10_byFigures 35 = .ok (.iload_n 3, 1) := by decide +kernel
theorem dX10_byFigures_36 : decode cX10_byFigures 36 = .ok (.iload 7, 2) := by decide +kernel
theorem dX10_byFigures_38 : decode cX10_byFigures 38 = .ok (.ishr, 1) := by decide +kernel
theorem dX10_byFigures_39 : decode cX10_byFigures 39 = .ok (.iconst 1, 1) := by decide +kernel
theorem dX10_byFigures_40 : decode cX10_byFigures 40 = .ok (.iand, 1) := by decide +kernel
theorem dX10_byFigures_41 : decode cX10_byFigures 41 = .ok (.iconst 1, 1) := by decide +kernel
theorem dX10_byFigures_42 : decode cX10_byFigures 42 = .ok (.if_icmp .ne 7, 3) := by decide +kernel
theorem dX10_byFigures_45 : decode cX10_byFigures 45 = .ok (.ldc2_w 142, 3) := by decide +kernel
theorem dX10_byFigures_48 : decode cX10_byFigures 48 = .ok (.lreturn, 1) := by decide +kernel
theorem dX10_byFigures_49 : decode cX10_byFigures 49 = .ok (.iload_n 3, 1) := by decide +kernel
theorem dX10_byFigures_50 : decode cX10_byFigures 50 = .ok (.iconst 1, 1) := by decide +kernel
theorem dX10_byFigures_51 : decode cX10_byFigures 51 = .ok (.iload 7, 2) := by decide +kernel
theorem dX10_byFigures_53 : decode cX10_byFigures 53 = .ok (.ishl, 1) := by decide +kernel
theorem dX10_byFigures_54 : decode cX10_byFigures 54 = .ok (.ior, 1) := by decide +kernel
theorem dX10_byFigures_55 : decode cX10_byFigures 55 = .ok (.istore_n 3, 1) := by decide +kernel
theorem dX10_byFigures_56 : decode cX10_byFigures 56 = .ok (.lload 4, 2) := by decide +kernel
theorem dX10_byFigures_58 : decode cX10_byFigures 58 = .ok (.aload_n 0, 1) := by decide +kernel
theorem dX10_byFigures_59 : decode cX10_byFigures 59 = .ok (.getfield 46, 3) := by decide +kernel
theorem dX10_byFigures_62 : decode cX10_byFigures 62 = .ok (.iconst 5, 1) := by decide +kernel
theorem dX10_byFigures_63 : decode cX10_byFigures 63 = .ok (.iload 6, 2) := by decide +kernel
theorem dX10_byFigures_65 : decode cX10_byFigures 65 = .ok (.imul, 1) := by decide +kernel
theorem dX10_byFigures_66 : decode cX10_byFigures 66 = .ok (.iload 7, 2) := by decide +kernel
theorem dX10_byFigures_68 : decode cX10_byFigures 68 = .ok (.iadd, 1) := by decide +kernel
theorem dX10_byFigures_69 : decode cX10_byFigures 69 = .ok (.laload, 1) := by decide +kernel
theorem dX10_byFigures_70 : decode cX10_byFigures 70 = .ok (.ladd, 1) := by decide +kernel
theorem dX10_byFigures_71 : decode cX10_byFigures 71 = .ok (.lstore 4, 2) := by decide +kernel
theorem dX10_byFigures_73 : decode cX10_byFigures 73 = .ok (.iinc 6 (-1), 3) := by decide +kernel
theorem dX10_byFigures_76 : decode cX10_byFigures 76 = .ok (.goto (-61), 3) := by decide +kernel
theorem dX10_byFigures_79 : decode cX10_byFigures 79 = .ok (.lload 4, 2) := by decide +kernel
theorem dX10_byFigures_81 : decode cX10_byFigures 81 = .ok (.lreturn, 1) := by decide +kernel
theorem dX10_exchange_0 : decode cX10_exchange 0 = .ok (.aload_n 0, 1) := by decide +kernel
theorem dX10_exchange_1 : decode cX10_exchange 1 = .ok (.invokevirtual 325, 3) := by decide +kernel
theorem dX10_exchange_4 : decode cX10_exchange 4 = .ok (.ifCond .ne 6, 3) := by decide +kernel
theorem dX10_exchange_7 : decode cX10_exchange 7 = .ok (.bipush (-5), 2) := by decide +kernel
theorem dX10_exchange_9 : decode cX10_exchange 9 = .ok (.ireturn, 1) := by decide +kernel
theorem dX10_exchange_10 : decode cX10_exchange 10 = .ok (.iconst 1, 1) := by decide +kernel
theorem dX10_exchange_11 : decode cX10_exchange 11 = .ok (.istore_n 1, 1) := by decide +kernel
theorem dX10_exchange_12 : decode cX10_exchange 12 = .ok (.iconst 0, 1) := by decide +kernel
theorem dX10_exchange_13 : decode cX10_exchange 13 = .ok (.istore_n 2, 1) := by decide +kernel
theorem dX10_exchange_14 : decode cX10_exchange 14 = .ok (.iload_n 2, 1) := by decide +kernel
theorem dX10_exchange_15 : decode cX10_exchange 15 = .ok (.aload_n 0, 1) := by decide +kernel
theorem dX10_exchange_16 : decode cX10_exchange 16 = .ok (.invokevirtual 75, 3) := by decide +kernel
theorem dX10_exchange_19 : decode cX10_exchange 19 = .ok (.if_icmp .ge 49, 3) := by decide +kernel
theorem dX10_exchange_22 : decode cX10_exchange 22 = .ok (.iload_n 1, 1) := by decide +kernel
theorem dX10_exchange_23 : decode cX10_exchange 23 = .ok (.aload_n 0, 1) := by decide +kernel
theorem dX10_exchange_24 : decode cX10_exchange 24 = .ok (.invokevirtual 75, 3) := by decide +kernel
theorem dX10_exchange_27 : decode cX10_exchange 27 = .ok (.imul, 1) := by decide +kernel
theorem dX10_exchange_28 : decode cX10_exchange 28 = .ok (.istore_n 1, 1) := by decide +kernel
theorem dX10_exchange_29 : decode cX10_exchange 29 = .ok (.iconst 0, 1) := by decide +kernel
theorem dX10_exchange_30 : decode cX10_exchange 30 = .ok (.istore_n 3, 1) := by decide +kernel
theorem dX10_exchange_31 : decode cX10_exchange 31 = .ok (.iload_n 3, 1) := by decide +kernel
theorem dX10_exchange_32 : decode cX10_exchange 32 = .ok (.aload_n 0, 1) := by decide +kernel
theorem dX10_exchange_33 : decode cX10_exchange 33 = .ok (.invokevirtual 75, 3) := by decide +kernel
theorem dX10_exchange_36 : decode cX10_exchange 36 = .ok (.if_icmp .ge 26, 3) := by decide +kernel
theorem dX10_exchange_39 : decode cX10_exchange 39 = .ok (.aload_n 0, 1) := by decide +kernel
theorem dX10_exchange_40 : decode cX10_exchange 40 = .ok (.getfield 46, 3) := by decide +kernel
theorem dX10_exchange_43 : decode cX10_exchange 43 = .ok (.iconst 5, 1) := by decide +kernel
theorem dX10_exchange_44 : decode cX10_exchange 44 = .ok (.iload_n 2, 1) := by decide +kernel
theorem dX10_exchange_45 : decode cX10_exchange 45 = .ok (.imul, 1) := by decide +kernel
theorem dX10_exchange_46 : decode cX10_exchange 46 = .ok (.iload_n 3, 1) := by decide +kernel
theorem dX10_exchange_47 : decode cX10_exchange 47 = .ok (.iadd, 1) := by decide +kernel
theorem dX10_exchange_48 : decode cX10_exchange 48 = .ok (.aload_n 0, 1) := by decide +kernel
theorem dX10_exchange_49 : decode cX10_exchange 49 = .ok (.iload_n 2, 1) := by decide +kernel
theorem dX10_exchange_50 : decode cX10_exchange 50 = .ok (.iload_n 3, 1) := by decide +kernel
theorem dX10_exchange_51 : decode cX10_exchange 51 = .ok (.iconst 0, 1) := by decide +kernel
theorem dX10_exchange_52 : decode cX10_exchange 52 = .ok (.invokevirtual 345, 3) := by decide +kernel
theorem dX10_exchange_55 : decode cX10_exchange 55 = .ok (.lastore, 1) := by decide +kernel
theorem dX10_exchange_56 : decode cX10_exchange 56 = .ok (.iinc 3 1, 3) := by decide +kernel
theorem dX10_exchange_59 : decode cX10_exchange 59 = .ok (.goto (-28), 3) := by decide +kernel
theorem dX10_exchange_62 : decode cX10_exchange 62 = .ok (.iinc 2 1, 3) := by decide +kernel
theorem dX10_exchange_65 : decode cX10_exchange 65 = .ok (.goto (-51), 3) := by decide +kernel
theorem dX10_exchange_68 : decode cX10_exchange 68 = .ok (.iconst 0, 1) := by decide +kernel
theorem dX10_exchange_69 : decode cX10_exchange 69 = .ok (.istore_n 2, 1) := by decide +kernel
theorem dX10_exchange_70 : decode cX10_exchange 70 = .ok (.ldc2_w 142, 3) := by decide +kernel
theorem dX10_exchange_73 : decode cX10_exchange 73 = .ok (.lstore_n 3, 1) := by decide +kernel
theorem dX10_exchange_74 : decode cX10_exchange 74 = .ok (.iconst 0, 1) := by decide +kernel
theorem dX10_exchange_75 : decode cX10_exchange 75 = .ok (.istore 5, 2) := by decide +kernel
theorem dX10_exchange_77 : decode cX10_exchange 77 = .ok (.iload 5, 2) := by decide +kernel
theorem dX10_exchange_79 : decode cX10_exchange 79 = .ok (.iload_n 1, 1) := by decide +kernel
theorem dX10_exchange_80 : decode cX10_exchange 80 = .ok (.if_icmp .ge 45, 3) := by decide +kernel
theorem dX10_exchange_83 : decode cX10_exchange 83 = .ok (.aload_n 0, 1) := by decide +kernel
theorem dX10_exchange_84 : decode cX10_exchange 84 = .ok (.iload 5, 2) := by decide +kernel
theorem dX10_exchange_86 : decode cX10_exchange 86 = .ok (.invokevirtual 348, 3) := by decide +kernel
theorem dX10_exchange_89 : decode cX10_exchange 89 = .ok (.lstore 6, 2) := by decide +kernel
theorem dX10_exchange_91 : decode cX10_exchange 91 = .ok (.lload 6, 2) := by decide +kernel
theorem dX10_exchange_93 : decode cX10_exchange 93 = .ok (.lload_n 3, 1) := by decide +kernel
theorem dX10_exchange_94 : decode cX10_exchange 94 = .ok (.lcmp, 1) := by decide +kernel
theorem dX10_exchange_95 : decode cX10_exchange 95 = .ok (.ifCond .le 8, 3) := by decide +kernel
theorem dX10_exchange_98 : decode cX10_exchange 98 = .ok (.iload 5, 2) := by decide +kernel
theorem dX10_exchange_100 : decode cX10_exchange 100 = .ok (.goto 4, 3) := by decide +kernel
theorem dX10_exchange_103 : decode cX10_exchange 103 = .ok (.iload_n 2, 1) := by decide +kernel
theorem dX10_exchange_104 : decode cX10_exchange 104 = .ok (.istore_n 2, 1) := by decide +kernel
theorem dX10_exchange_105 : decode cX10_exchange 105 = .ok (.lload 6, 2) := by decide +kernel
theorem dX10_exchange_107 : decode cX10_exchange 107 = .ok (.lload_n 3, 1) := by decide +kernel
theorem dX10_exchange_108 : decode cX10_exchange 108 = .ok (.lcmp, 1) := by decide +kernel
theorem dX10_exchange_109 : decode cX10_exchange 109 = .ok (.ifCond .le 8, 3) := by decide +kernel
theorem dX10_exchange_112 : decode cX10_exchange 112 = .ok (.lload 6, 2) := by decide +kernel
theorem dX10_exchange_114 : decode cX10_exchange 114 = .ok (.goto 4, 3) := by decide +kernel
theorem dX10_exchange_117 : decode cX10_exchange 117 = .ok (.lload_n 3, 1) := by decide +kernel
theorem dX10_exchange_118 : decode cX10_exchange 118 = .ok (.lstore_n 3, 1) := by decide +kernel
theorem dX10_exchange_119 : decode cX10_exchange 119 = .ok (.iinc 5 1, 3) := by decide +kernel
theorem dX10_exchange_122 : decode cX10_exchange 122 = .ok (.goto (-45), 3) := by decide +kernel
theorem dX10_exchange_125 : decode cX10_exchange 125 = .ok (.iconst 1, 1) := by decide +kernel
theorem dX10_exchange_126 : decode cX10_exchange 126 = .ok (.istore 5, 2) := by decide +kernel
theorem dX10_exchange_128 : decode cX10_exchange 128 = .ok (.iconst 0, 1) := by decide +kernel
theorem dX10_exchange_129 : decode cX10_exchange 129 = .ok (.istore 6, 2) := by decide +kernel
theorem dX10_exchange_131 : decode cX10_exchange 131 = .ok (.iconst 0, 1) := by decide +kernel
theorem dX10_exchange_132 : decode cX10_exchange 132 = .ok (.istore 7, 2) := by decide +kernel
theorem dX10_exchange_134 : decode cX10_exchange 134 = .ok (.iload 7, 2) := by decide +kernel
theorem dX10_exchange_136 : decode cX10_exchange 136 = .ok (.aload_n 0, 1) := by decide +kernel
theorem dX10_exchange_137 : decode cX10_exchange 137 = .ok (.invokevirtual 75, 3) := by decide +kernel
theorem dX10_exchange_140 : decode cX10_exchange 140 = .ok (.if_icmp .ge 37, 3) := by decide +kernel
theorem dX10_exchange_143 : decode cX10_exchange 143 = .ok (.iload 6, 2) := by decide +kernel
theorem dX10_exchange_145 : decode cX10_exchange 145 = .ok (.iload 5, 2) := by decide +kernel
theorem dX10_exchange_147 : decode cX10_exchange 147 = .ok (.iload_n 2, 1) := by decide +kernel
theorem dX10_exchange_148 : decode cX10_exchange 148 = .ok (.aload_n 0, 1) := by decide +kernel
theorem dX10_exchange_149 : decode cX10_exchange 149 = .ok (.invokevirtual 75, 3) := by decide +kernel
theorem dX10_exchange_152 : decode cX10_exchange 152 = .ok (.irem, 1) := by decide +kernel
theorem dX10_exchange_153 : decode cX10_exchange 153 = .ok (.imul, 1) := by decide +kernel
theorem dX10_exchange_154 : decode cX10_exchange 154 = .ok (.iadd, 1) := by decide +kernel
theorem dX10_exchange_155 : decode cX10_exchange 155 = .ok (.istore 6, 2) := by decide +kernel
theorem dX10_exchange_157 : decode cX10_exchange 157 = .ok (.iload_n 2, 1) := by decide +kernel
theorem dX10_exchange_158 : decode cX10_exchange 158 = .ok (.aload_n 0, 1) := by decide +kernel
theorem dX10_exchange_159 : decode cX10_exchange 159 = .ok (.invokevirtual 75, 3) := by decide +kernel
theorem dX10_exchange_162 : decode cX10_exchange 162 = .ok (.idiv, 1) := by decide +kernel
theorem dX10_exchange_163 : decode cX10_exchange 163 = .ok (.istore_n 2, 1) := by decide +kernel
theorem dX10_exchange_164 : decode cX10_exchange 164 = .ok (.bipush 10, 2) := by decide +kernel
theorem dX10_exchange_166 : decode cX10_exchange 166 = .ok (.iload 5, 2) := by decide +kernel
theorem dX10_exchange_168 : decode cX10_exchange 168 = .ok (.imul, 1) := by decide +kernel
theorem dX10_exchange_169 : decode cX10_exchange 169 = .ok (.istore 5, 2) := by decide +kernel
theorem dX10_exchange_171 : decode cX10_exchange 171 = .ok (.iinc 7 1, 3) := by decide +kernel
theorem dX10_exchange_174 : decode cX10_exchange 174 = .ok (.goto (-40), 3) := by decide +kernel
theorem dX10_exchange_177 : decode cX10_exchange 177 = .ok (.iload 6, 2) := by decide +kernel
theorem dX10_exchange_179 : decode cX10_exchange 179 = .ok (.ireturn, 1) := by decide +kernel
theorem dX10_cuts_0 : decode cX10_cuts 0 = .ok (.aload_n 0, 1) := by decide +kernel
theorem dX10_cuts_1 : decode cX10_cuts 1 = .ok (.invokevirtual 325, 3) := by decide +kernel
theorem dX10_cuts_4 : decode cX10_cuts 4 = .ok (.ifCond .ne 6, 3) := by decide +kernel
theorem dX10_cuts_7 : decode cX10_cuts 7 = .ok (.bipush (-5), 2) := by decide +kernel
theorem dX10_cuts_9 : decode cX10_cuts 9 = .ok (.ireturn, 1) := by decide +kernel
theorem dX10_cuts_10 : decode cX10_cuts 10 = .ok (.iconst 0, 1) := by decide +kernel
theorem dX10_cuts_11 : decode cX10_cuts 11 = .ok (.istore_n 1, 1) := by decide +kernel
theorem dX10_cuts_12 : decode cX10_cuts 12 = .ok (.iconst 0, 1) := by decide +kernel
theorem dX10_cuts_13 : decode cX10_cuts 13 = .ok (.istore_n 2, 1) := by decide +kernel
theorem dX10_cuts_14 : decode cX10_cuts 14 = .ok (.iload_n 2, 1) := by decide +kernel
theorem dX10_cuts_15 : decode cX10_cuts 15 = .ok (.aload_n 0, 1) := by decide +kernel
theorem dX10_cuts_16 : decode cX10_cuts 16 = .ok (.invokevirtual 75, 3) := by decide +kernel
theorem dX10_cuts_19 : decode cX10_cuts 19 = .ok (.if_icmp .ge 241, 3) := by decide +kernel
theorem dX10_cuts_22 : decode cX10_cuts 22 = .ok (.iconst 0, 1) := by decide +kernel
theorem dX10_cuts_23 : decode cX10_cuts 23 = .ok (.istore_n 3, 1) := by decide +kernel
theorem dX10_cuts_24 : decode cX10_cuts 24 = .ok (.iload_n 3, 1) := by decide +kernel
theorem dX10_cuts_25 : decode cX10_cuts 25 = .ok (.i2l, 1) := by decide +kernel
theorem dX10_cuts_26 : decode cX10_cuts 26 = .ok (.ldc2_w 69, 3) := by decide +kernel
theorem dX10_cuts_29 : decode cX10_cuts 29 = .ok (.aload_n 0, 1) := by decide +kernel
theorem dX10_cuts_30 : decode cX10_cuts 30 = .ok (.getfield 9, 3) := by decide +kernel
theorem dX10_cuts_33 : decode cX10_cuts 33 = .ok (.sipush 165, 3) := by decide +kernel
theorem dX10_cuts_36 : decode cX10_cuts 36 = .ok (.iload_n 2, 1) := by decide +kernel
theorem dX10_cuts_37 : decode cX10_cuts 37 = .ok (.iadd, 1) := by decide +kernel
theorem dX10_cuts_38 : decode cX10_cuts 38 = .ok (.laload, 1) := by decide +kernel
theorem dX10_cuts_39 : decode cX10_cuts 39 = .ok (.lmul, 1) := by decide +kernel
theorem dX10_cuts_40 : decode cX10_cuts 40 = .ok (.lcmp, 1) := by decide +kernel
theorem dX10_cuts_41 : decode cX10_cuts 41 = .ok (.ifCond .ge 213, 3) := by decide +kernel
theorem dX10_cuts_44 : decode cX10_cuts 44 = .ok (.sipush 170, 3) := by decide +kernel
theorem dX10_cuts_47 : decode cX10_cuts 47 = .ok (.bipush 8, 2) := by decide +kernel
theorem dX10_cuts_49 : decode cX10_cuts 49 = .ok (.iload_n 2, 1) := by decide +kernel
theorem dX10_cuts_50 : decode cX10_cuts 50 = .ok (.imul, 1) := by decide +kernel
theorem dX10_cuts_51 : decode cX10_cuts 51 = .ok (.iadd, 1) := by decide +kernel
theorem dX10_cuts_52 : decode cX10_cuts 52 = .ok (.iconst 4, 1) := by decide +kernel
theorem dX10_cuts_53 : decode cX10_cuts 53 = .ok (.iload_n 3, 1) := by decide +kernel
theorem dX10_cuts_54 : decode cX10_cuts 54 = .ok (.iconst 2, 1) := by decide +kernel
theorem dX10_cuts_55 : decode cX10_cuts 55 = .ok (.idiv, 1) := by decide +kernel
theorem dX10_cuts_56 : decode cX10_cuts 56 = .ok (.imul, 1) := by decide +kernel
theorem dX10_cuts_57 : decode cX10_cuts 57 = .ok (.iadd, 1) := by decide +kernel
theorem dX10_cuts_58 : decode cX10_cuts 58 = .ok (.istore 4, 2) := by decide +kernel
theorem dX10_cuts_60 : decode cX10_cuts 60 = .ok (.sipush 170, 3) := by decide +kernel
theorem dX10_cuts_63 : decode cX10_cuts 63 = .ok (.bipush 8, 2) := by decide +kernel
theorem dX10_cuts_65 : decode cX10_cuts 65 = .ok (.iload_n 2, 1) := by decide +kernel
theorem dX10_cuts_66 : decode cX10_cuts 66 = .ok (.imul, 1) := by decide +kernel
theorem dX10_cuts_67 : decode cX10_cuts 67 = .ok (.iadd, 1) := by decide +kernel
theorem dX10_cuts_68 : decode cX10_cuts 68 = .ok (.iconst 2, 1) := by decide +kernel
theorem dX10_cuts_69 : decode cX10_cuts 69 = .ok (.iload_n 3, 1) := by decide +kernel
theorem dX10_cuts_70 : decode cX10_cuts 70 = .ok (.imul, 1) := by decide +kernel
theorem dX10_cuts_71 : decode cX10_cuts 71 = .ok (.iadd, 1) := by decide +kernel
theorem dX10_cuts_72 : decode cX10_cuts 72 = .ok (.istore 5, 2) := by decide +kernel
theorem dX10_cuts_74 : decode cX10_cuts 74 = .ok (.aload_n 0, 1) := by decide +kernel
theorem dX10_cuts_75 : decode cX10_cuts 75 = .ok (.getfield 9, 3) := by decide +kernel
theorem dX10_cuts_78 : decode cX10_cuts 78 = .ok (.iload 4, 2) := by decide +kernel
theorem dX10_cuts_80 : decode cX10_cuts 80 = .ok (.laload, 1) := by decide +kernel
theorem dX10_cuts_81 : decode cX10_cuts 81 = .ok (.aload_n 0, 1) := by decide +kernel
theorem dX10_cuts_82 : decode cX10_cuts 82 = .ok (.getfield 9, 3) := by decide +kernel
theorem dX10_cuts_85 : decode cX10_cuts 85 = .ok (.iload 4, 2) := by decide +kernel
theorem dX10_cuts_87 : decode cX10_cuts 87 = .ok (.iconst 2, 1) := by decide +kernel
theorem dX10_cuts_88 : decode cX10_cuts 88 = .ok (.iadd, 1) := by decide +kernel
theorem dX10_cuts_89 : decode cX10_cuts 89 = .ok (.laload, 1) := by decide +kernel
theorem dX10_cuts_90 : decode cX10_cuts 90 = .ok (.lcmp, 1) := by decide +kernel
theorem dX10_cuts_91 : decode cX10_cuts 91 = .ok (.ifCond .ne 29, 3) := by decide +kernel
theorem dX10_cuts_94 : decode cX10_cuts 94 = .ok (.aload_n 0, 1) := by decide +kernel
theorem dX10_cuts_95 : decode cX10_cuts 95 = .ok (.getfield 9, 3) := by decide +kernel
theorem dX10_cuts_98 : decode cX10_cuts 98 = .ok (.iload 4, 2) := by decide +kernel
theorem dX10_cuts_100 : decode cX10_cuts 100 = .ok (.iconst 1, 1) := by decide +kernel
theorem dX10_cuts_101 : decode cX10_cuts 101 = .ok (.iadd, 1) := by decide +kernel
theorem dX10_cuts_102 : decode cX10_cuts 102 = .ok (.laload, 1) := by decide +kernel
theorem dX10_cuts_103 : decode cX10_cuts 103 = .ok (.aload_n 0, 1) := by decide +kernel
theorem dX10_cuts_104 : decode cX10_cuts 104 = .ok (.getfield 9, 3) := by decide +kernel
theorem dX10_cuts_107 : decode cX10_cuts 107 = .ok (.iload 4, 2) := by decide +kernel
theorem dX10_cuts_109 : decode cX10_cuts 109 = .ok (.iconst 3, 1) := by decide +kernel
theorem dX10_cuts_110 : decode cX10_cuts 110 = .ok (.iadd, 1) := by decide +kernel
theorem dX10_cuts_111 : decode cX10_cuts 111 = .ok (.laload, 1) := by decide +kernel
theorem dX10_cuts_112 : decode cX10_cuts 112 = .ok (.lcmp, 1) := by decide +kernel
theorem dX10_cuts_113 : decode cX10_cuts 113 = .ok (.ifCond .ne 7, 3) := by decide +kernel
theorem dX10_cuts_116 : decode cX10_cuts 116 = .ok (.iconst 1, 1) := by decide +kernel
theorem dX10_cuts_117 : decode cX10_cuts 117 = .ok (.goto 4, 3) := by decide +kernel
theorem dX10_cuts_120 : decode cX10_cuts 120 = .ok (.iconst 0, 1) := by decide +kernel
theorem dX10_cuts_121 : decode cX10_cuts 121 = .ok (.istore 6, 2) := by decide +kernel
theorem dX10_cuts_123 : decode cX10_cuts 123 = .ok (.aload_n 0, 1) := by decide +kernel
theorem dX10_cuts_124 : decode cX10_cuts 124 = .ok (.getfield 9, 3) := by decide +kernel
theorem dX10_cuts_127 : decode cX10_cuts 127 = .ok (.iload 5, 2) := by decide +kernel
theorem dX10_cuts_129 : decode cX10_cuts 129 = .ok (.laload, 1) := by decide +kernel
theorem dX10_cuts_130 : decode cX10_cuts 130 = .ok (.aload_n 0, 1) := by decide +kernel
theorem dX10_cuts_131 : decode cX10_cuts 131 = .ok (.getfield 9, 3) := by decide +kernel
theorem dX10_cuts_134 : decode cX10_cuts 134 = .ok (.iconst 3, 1) := by decide +kernel
theorem dX10_cuts_135 : decode cX10_cuts 135 = .ok (.laload, 1) := by decide +kernel
theorem dX10_cuts_136 : decode cX10_cuts 136 = .ok (.aload_n 0, 1) := by decide +kernel
theorem dX10_cuts_137 : decode cX10_cuts 137 = .ok (.getfield 9, 3) := by decide +kernel
theorem dX10_cuts_140 : decode cX10_cuts 140 = .ok (.iload 5, 2) := by decide +kernel
theorem dX10_cuts_142 : decode cX10_cuts 142 = .ok (.iconst 1, 1) := by decide +kernel
theorem dX10_cuts_143 : decode cX10_cuts 143 = .ok (.iadd, 1) := by decide +kernel
theorem dX10_cuts_144 : decode cX10_cuts 144 = .ok (.laload, 1) := by decide +kernel
theorem dX10_cuts_145 : decode cX10_cuts 145 = .ok (.ldiv, 1) := by decide +kernel
theorem dX10_cuts_146 : decode cX10_cuts 146 = .ok (.lmul, 1) := by decide +kernel
theorem dX10_cuts_147 : decode cX10_cuts 147 = .ok (.lstore 7, 2) := by decide +kernel
theorem dX10_cuts_149 : decode cX10_cuts 149 = .ok (.iload 6, 2) := by decide +kernel
theorem dX10_cuts_151 : decode cX10_cuts 151 = .ok (.ifCond .ne 33, 3) := by decide +kernel
theorem dX10_cuts_154 : decode cX10_cuts 154 = .ok (.lload 7, 2) := by decide +kernel
theorem dX10_cuts_156 : decode cX10_cuts 156 = .ok (.lconst 0, 1) := by decide +kernel
theorem dX10_cuts_157 : decode cX10_cuts 157 = .ok (.lcmp, 1) := by decide +kernel
theorem dX10_cuts_158 : decode cX10_cuts 158 = .ok (.ifCond .eq 26, 3) := by decide +kernel
theorem dX10_cuts_161 : decode cX10_cuts 161 = .ok (.lload 7, 2) := by decide +kernel
theorem dX10_cuts_163 : decode cX10_cuts 163 = .ok (.aload_n 0, 1) := by decide +kernel
theorem dX10_cuts_164 : decode cX10_cuts 164 = .ok (.getfield 9, 3) := by decide +kernel
theorem dX10_cuts_167 : decode cX10_cuts 167 = .ok (.iconst 0, 1) := by decide +kernel
theorem dX10_cuts_168 : decode cX10_cuts 168 = .ok (.laload, 1) := by decide +kernel
theorem dX10_cuts_169 : decode cX10_cuts 169 = .ok (.aload_n 0, 1) := by decide +kernel
theorem dX10_cuts_170 : decode cX10_cuts 170 = .ok (.getfield 9, 3) := by decide +kernel
theorem dX10_cuts_173 : decode cX10_cuts 173 = .ok (.iconst 3, 1) := by decide +kernel
theorem dX10_cuts_174 : decode cX10_cuts 174 = .ok (.laload, 1) := by decide +kernel
theorem dX10_cuts_175 : decode cX10_cuts 175 = .ok (.lmul, 1) := by decide +kernel
theorem dX10_cuts_176 : decode cX10_cuts 176 = .ok (.lcmp, 1) := by decide +kernel
theorem dX10_cuts_177 : decode cX10_cuts 177 = .ok (.ifCond .eq 7, 3) := by decide +kernel
theorem dX10_cuts_180 : decode cX10_cuts 180 = .ok (.iconst 1, 1) := by decide +kernel
theorem dX10_cuts_181 : decode cX10_cuts 181 = .ok (.goto 4, 3) := by decide +kernel
theorem dX10_cuts_184 : decode cX10_cuts 184 = .ok (.iconst 0, 1) := by decide +kernel
theorem dX10_cuts_185 : decode cX10_cuts 185 = .ok (.istore 9, 2) := by decide +kernel
theorem dX10_cuts_187 : decode cX10_cuts 187 = .ok (.iconst 0, 1) := by decide +kernel
theorem dX10_cuts_188 : decode cX10_cuts 188 = .ok (.istore 10, 2) := by decide +kernel
theorem dX10_cuts_190 : decode cX10_cuts 190 = .ok (.iload 10, 2) := by decide +kernel
theorem dX10_cuts_192 : decode cX10_cuts 192 = .ok (.iload_n 1, 1) := by decide +kernel
theorem dX10_cuts_193 : decode cX10_cuts 193 = .ok (.if_icmp .ge 34, 3) := by decide +kernel
theorem dX10_cuts_196 : decode cX10_cuts 196 = .ok (.iload 9, 2) := by decide +kernel
theorem dX10_cuts_198 : decode cX10_cuts 198 = .ok (.ifCond .eq 20, 3) := by decide +kernel
theorem dX10_cuts_201 : decode cX10_cuts 201 = .ok (.aload_n 0, 1) := by decide +kernel
theorem dX10_cuts_202 : decode cX10_cuts 202 = .ok (.getfield 49, 3) := by decide +kernel
theorem dX10_cuts_205 : decode cX10_cuts 205 = .ok (.iload 10, 2) := by decide +kernel
theorem dX10_cuts_207 : decode cX10_cuts 207 = .ok (.laload, 1) := by decide +kernel
theorem dX10_cuts_208 : decode cX10_cuts 208 = .ok (.lload 7, 2) := by decide +kernel
theorem dX10_cuts_210 : decode cX10_cuts 210 = .ok (.lcmp, 1) := by decide +kernel
theorem dX10_cuts_211 : decode cX10_cuts 211 = .ok (.ifCond .eq 7, 3) := by decide +kernel
theorem dX10_cuts_214 : decode cX10_cuts 214 = .ok (.iconst 1, 1) := by decide +kernel
theorem dX10_cuts_215 : decode cX10_cuts 215 = .ok (.goto 4, 3) := by decide +kernel
theorem dX10_cuts_218 : decode cX10_cuts 218 = .ok (.iconst 0, 1) := by decide +kernel
theorem dX10_cuts_219 : decode cX10_cuts 219 = .ok (.istore 9, 2) := by decide +kernel
theorem dX10_cuts_221 : decode cX10_cuts 221 = .ok (.iinc 10 1, 3) := by decide +kernel
theorem dX10_cuts_224 : decode cX10_cuts 224 = .ok (.goto (-34), 3) := by decide +kernel
theorem dX10_cuts_227 : decode cX10_cuts 227 = .ok (.aload_n 0, 1) := by decide +kernel
theorem dX10_cuts_228 : decode cX10_cuts 228 = .ok (.getfield 49, 3) := by decide +kernel
theorem dX10_cuts_231 : decode cX10_cuts 231 = .ok (.iload_n 1, 1) := by decide +kernel
theorem dX10_cuts_232 : decode cX10_cuts 232 = .ok (.lload 7, 2) := by decide +kernel
theorem dX10_cuts_234 : decode cX10_cuts 234 = .ok (.lastore, 1) := by decide +kernel
theorem dX10_cuts_235 : decode cX10_cuts 235 = .ok (.iload_n 1, 1) := by decide +kernel
theorem dX10_cuts_236 : decode cX10_cuts 236 = .ok (.iload 9, 2) := by decide +kernel
theorem dX10_cuts_238 : decode cX10_cuts 238 = .ok (.ifCond .eq 7, 3) := by decide +kernel
theorem dX10_cuts_241 : decode cX10_cuts 241 = .ok (.iconst 1, 1) := by decide +kernel
theorem dX10_cuts_242 : decode cX10_cuts 242 = .ok (.goto 4, 3) := by decide +kernel
theorem dX10_cuts_245 : decode cX10_cuts 245 = .ok (.iconst 0, 1) := by decide +kernel
theorem dX10_cuts_246 : decode cX10_cuts 246 = .ok (.iadd, 1) := by decide +kernel
theorem dX10_cuts_247 : decode cX10_cuts 247 = .ok (.istore_n 1, 1) := by decide +kernel
theorem dX10_cuts_248 : decode cX10_cuts 248 = .ok (.iinc 3 1, 3) := by decide +kernel
theorem dX10_cuts_251 : decode cX10_cuts 251 = .ok (.goto (-227), 3) := by decide +kernel
theorem dX10_cuts_254 : decode cX10_cuts 254 = .ok (.iinc 2 1, 3) := by decide +kernel
theorem dX10_cuts_257 : decode cX10_cuts 257 = .ok (.goto (-243), 3) := by decide +kernel
theorem dX10_cuts_260 : decode cX10_cuts 260 = .ok (.iload_n 1, 1) := by decide +kernel
theorem dX10_cuts_261 : decode cX10_cuts 261 = .ok (.ireturn, 1) := by decide +kernel
theorem dX10_off_0 : decode cX10_off 0 = .ok (.aload_n 0, 1) := by decide +kernel
theorem dX10_off_1 : decode cX10_off 1 = .ok (.iload_n 1, 1) := by decide +kernel
theorem dX10_off_2 : decode cX10_off 2 = .ok (.invokevirtual 79, 3) := by decide +kernel
theorem dX10_off_5 : decode cX10_off 5 = .ok (.ifCond .eq 30, 3) := by decide +kernel
theorem dX10_off_8 : decode cX10_off 8 = .ok (.iload_n 2, 1) := by decide +kernel
theorem dX10_off_9 : decode cX10_off 9 = .ok (.i2l, 1) := by decide +kernel
theorem dX10_off_10 : decode cX10_off 10 = .ok (.lconst 0, 1) := by decide +kernel
theorem dX10_off_11 : decode cX10_off 11 = .ok (.lconst 1, 1) := by decide +kernel
theorem dX10_off_12 : decode cX10_off 12 = .ok (.invokestatic 65, 3) := by decide +kernel
theorem dX10_off_15 : decode cX10_off 15 = .ok (.ifCond .eq 20, 3) := by decide +kernel
theorem dX10_off_18 : decode cX10_off 18 = .ok (.iload_n 3, 1) := by decide +kernel
theorem dX10_off_19 : decode cX10_off 19 = .ok (.i2l, 1) := by decide +kernel
theorem dX10_off_20 : decode cX10_off 20 = .ok (.lconst 0, 1) := by decide +kernel
theorem dX10_off_21 : decode cX10_off 21 = .ok (.lconst 1, 1) := by decide +kernel
theorem dX10_off_22 : decode cX10_off 22 = .ok (.invokestatic 65, 3) := by decide +kernel
theorem dX10_off_25 : decode cX10_off 25 = .ok (.ifCond .eq 10, 3) := by decide +kernel
theorem dX10_off_28 : decode cX10_off 28 = .ok (.aload_n 0, 1) := by decide +kernel
theorem dX10_off_29 : decode cX10_off 29 = .ok (.invokevirtual 325, 3) := by decide +kernel
theorem dX10_off_32 : decode cX10_off 32 = .ok (.ifCond .ne 7, 3) := by decide +kernel
theorem dX10_off_35 : decode cX10_off 35 = .ok (.ldc2_w 116, 3) := by decide +kernel
theorem dX10_off_38 : decode cX10_off 38 = .ok (.lreturn, 1) := by decide +kernel
theorem dX10_off_39 : decode cX10_off 39 = .ok (.iload_n 2, 1) := by decide +kernel
theorem dX10_off_40 : decode cX10_off 40 = .ok (.ifCond .ne 7, 3) := by decide +kernel
theorem dX10_off_43 : decode cX10_off 43 = .ok (.lconst 0, 1) := by decide +kernel
theorem dX10_off_44 : decode cX10_off 44 = .ok (.goto 16, 3) := by decide +kernel
theorem dX10_off_47 : decode cX10_off 47 = .ok (.aload_n 0, 1) := by decide +kernel
theorem dX10_off_48 : decode cX10_off 48 = .ok (.iload_n 1, 1) := by decide +kernel
theorem dX10_off_49 : decode cX10_off 49 = .ok (.iconst 0, 1) := by decide +kernel
theorem dX10_off_50 : decode cX10_off 50 = .ok (.invokevirtual 128, 3) := by decide +kernel
theorem dX10_off_53 : decode cX10_off 53 = .ok (.aload_n 0, 1) := by decide +kernel
theorem dX10_off_54 : decode cX10_off 54 = .ok (.getfield 9, 3) := by decide +kernel
theorem dX10_off_57 : decode cX10_off 57 = .ok (.iconst 3, 1) := by decide +kernel
theorem dX10_off_58 : decode cX10_off 58 = .ok (.laload, 1) := by decide +kernel
theorem dX10_off_59 : decode cX10_off 59 = .ok (.lmul, 1) := by decide +kernel
theorem dX10_off_60 : decode cX10_off 60 = .ok (.lstore 4, 2) := by decide +kernel
theorem dX10_off_62 : decode cX10_off 62 = .ok (.iconst 0, 1) := by decide +kernel
theorem dX10_off_63 : decode cX10_off 63 = .ok (.istore 6, 2) := by decide +kernel
theorem dX10_off_65 : decode cX10_off 65 = .ok (.iload 6, 2) := by decide +kernel
theorem dX10_off_67 : decode cX10_off 67 = .ok (.i2l, 1) := by decide +kernel
theorem dX10_off_68 : decode cX10_off 68 = .ok (.aload_n 0, 1) := by decide +kernel
theorem dX10_off_69 : decode cX10_off 69 = .ok (.getfield 9, 3) := by decide +kernel
theorem dX10_off_72 : decode cX10_off 72 = .ok (.iconst 4, 1) := by decide +kernel
theorem dX10_off_73 : decode cX10_off 73 = .ok (.laload, 1) := by decide +kernel
theorem dX10_off_74 : decode cX10_off 74 = .ok (.lcmp, 1) := by decide +kernel
theorem dX10_off_75 : decode cX10_off 75 = .ok (.ifCond .ge 58, 3) := by decide +kernel
theorem dX10_off_78 : decode cX10_off 78 = .ok (.iload_n 2, 1) := by decide +kernel
theorem dX10_off_79 : decode cX10_off 79 = .ok (.ifCond .ne 54, 3) := by decide +kernel
theorem dX10_off_82 : decode cX10_off 82 = .ok (.lload 4, 2) := by decide +kernel
theorem dX10_off_84 : decode cX10_off 84 = .ok (.aload_n 0, 1) := by decide +kernel
theorem dX10_off_85 : decode cX10_off 85 = .ok (.getfield 9, 3) := by decide +kernel
theorem dX10_off_88 : decode cX10_off 88 = .ok (.sipush 210, 3) := by decide +kernel
theorem dX10_off_91 : decode cX10_off 91 = .ok (.bipush 6, 2) := by decide +kernel
theorem dX10_off_93 : decode cX10_off 93 = .ok (.iload 6, 2) := by decide +kernel
theorem dX10_off_95 : decode cX10_off 95 = .ok (.imul, 1) := by decide +kernel
theorem dX10_off_96 : decode cX10_off 96 = .ok (.iadd, 1) := by decide +kernel
theorem dX10_off_97 : decode cX10_off 97 = .ok (.laload, 1) := by decide +kernel
theorem dX10_off_98 : decode cX10_off 98 = .ok (.lconst 1, 1) := by decide +kernel
theorem dX10_off_99 : decode cX10_off 99 = .ok (.lcmp, 1) := by decide +kernel
theorem dX10_off_100 : decode cX10_off 100 = .ok (.ifCond .ne 23, 3) := by decide +kernel
theorem dX10_off_103 : decode cX10_off 103 = .ok (.aload_n 0, 1) := by decide +kernel
theorem dX10_off_104 : decode cX10_off 104 = .ok (.iload_n 1, 1) := by decide +kernel
theorem dX10_off_105 : decode cX10_off 105 = .ok (.iconst 0, 1) := by decide +kernel
theorem dX10_off_106 : decode cX10_off 106 = .ok (.sipush 210, 3) := by decide +kernel
theorem dX10_off_109 : decode cX10_off 109 = .ok (.bipush 6, 2) := by decide +kernel
theorem dX10_off_111 : decode cX10_off 111 = .ok (.iload 6, 2) := by decide +kernel
theorem dX10_off_113 : decode cX10_off 113 = .ok (.imul, 1) := by decide +kernel
theorem dX10_off_114 : decode cX10_off 114 = .ok (.iadd, 1) := by decide +kernel
theorem dX10_off_115 : decode cX10_off 115 = .ok (.iconst 2, 1) := by decide +kernel
theorem dX10_off_116 : decode cX10_off 116 = .ok (.iadd, 1) := by decide +kernel
theorem dX10_off_117 : decode cX10_off 117 = .ok (.invokevirtual 342, 3) := by decide +kernel
theorem dX10_off_120 : decode cX10_off 120 = .ok (.goto 4, 3) := by decide +kernel
theorem dX10_off_123 : decode cX10_off 123 = .ok (.lconst 0, 1) := by decide +kernel
theorem dX10_off_124 : decode cX10_off 124 = .ok (.ladd, 1) := by decide +kernel
theorem dX10_off_125 : decode cX10_off 125 = .ok (.lstore 4, 2) := by decide +kernel
theorem dX10_off_127 : decode cX10_off 127 = .ok (.iinc 6 1, 3) := by decide +kernel
theorem dX10_off_130 : decode cX10_off 130 = .ok (.goto (-65), 3) := by decide +kernel
theorem dX10_off_133 : decode cX10_off 133 = .ok (.iconst 0, 1) := by decide +kernel
theorem dX10_off_134 : decode cX10_off 134 = .ok (.istore 6, 2) := by decide +kernel
theorem dX10_off_136 : decode cX10_off 136 = .ok (.iload 6, 2) := by decide +kernel
theorem dX10_off_138 : decode cX10_off 138 = .ok (.aload_n 0, 1) := by decide +kernel
theorem dX10_off_139 : decode cX10_off 139 = .ok (.invokevirtual 75, 3) := by decide +kernel
theorem dX10_off_142 : decode cX10_off 142 = .ok (.if_icmp .ge 27, 3) := by decide +kernel
theorem dX10_off_145 : decode cX10_off 145 = .ok (.iload_n 2, 1) := by decide +kernel
theorem dX10_off_146 : decode cX10_off 146 = .ok (.iconst 1, 1) := by decide +kernel
theorem dX10_off_147 : decode cX10_off 147 = .ok (.if_icmp .ne 22, 3) := by decide +kernel
theorem dX10_off_150 : decode cX10_off 150 = .ok (.lload 4, 2) := by decide +kernel
theorem dX10_off_152 : decode cX10_off 152 = .ok (.aload_n 0, 1) := by decide +kernel
theorem dX10_off_153 : decode cX10_off 153 = .ok (.iload_n 1, 1) := by decide +kernel
theorem dX10_off_154 : decode cX10_off 154 = .ok (.iload 6, 2) := by decide +kernel
theorem dX10_off_156 : decode cX10_off 156 = .ok (.iconst 0, 1) := by decide +kernel
theorem dX10_off_157 : decode cX10_off 157 = .ok (.invokevirtual 345, 3) := by decide +kernel
theorem dX10_off_160 : decode cX10_off 160 = .ok (.lsub, 1) := by decide +kernel
theorem dX10_off_161 : decode cX10_off 161 = .ok (.lstore 4, 2) := by decide +kernel
theorem dX10_off_163 : decode cX10_off 163 = .ok (.iinc 6 1, 3) := by decide +kernel
theorem dX10_off_166 : decode cX10_off 166 = .ok (.goto (-30), 3) := by decide +kernel
theorem dX10_off_169 : decode cX10_off 169 = .ok (.aload_n 0, 1) := by decide +kernel
theorem dX10_off_170 : decode cX10_off 170 = .ok (.lload 4, 2) := by decide +kernel
theorem dX10_off_172 : decode cX10_off 172 = .ok (.aload_n 0, 1) := by decide +kernel
theorem dX10_off_173 : decode cX10_off 173 = .ok (.getfield 9, 3) := by decide +kernel
theorem dX10_off_176 : decode cX10_off 176 = .ok (.iconst 3, 1) := by decide +kernel
theorem dX10_off_177 : decode cX10_off 177 = .ok (.laload, 1) := by decide +kernel
theorem dX10_off_178 : decode cX10_off 178 = .ok (.invokevirtual 110, 3) := by decide +kernel
theorem dX10_off_181 : decode cX10_off 181 = .ok (.aload_n 0, 1) := by decide +kernel
theorem dX10_off_182 : decode cX10_off 182 = .ok (.iload_n 3, 1) := by decide +kernel
theorem dX10_off_183 : decode cX10_off 183 = .ok (.invokevirtual 122, 3) := by decide +kernel
theorem dX10_off_186 : decode cX10_off 186 = .ok (.lreturn, 1) := by decide +kernel
theorem dX10_wouldBring_0 : decode cX10_wouldBring 0 = .ok (.aload_n 0, 1) := by decide +kernel
theorem dX10_wouldBring_1 : decode cX10_wouldBring 1 = .ok (.getfield 9, 3) := by decide +kernel
theorem dX10_wouldBring_4 : decode cX10_wouldBring 4 = .ok (.aload_n 0, 1) := by decide +kernel
theorem dX10_wouldBring_5 : decode cX10_wouldBring 5 = .ok (.getfield 52, 3) := by decide +kernel
theorem dX10_wouldBring_8 : decode cX10_wouldBring 8 = .ok (.invokestatic 189, 3) := by decide +kernel
theorem dX10_wouldBring_11 : decode cX10_wouldBring 11 = .ok (.aload_n 0, 1) := by decide +kernel
theorem dX10_wouldBring_12 : decode cX10_wouldBring 12 = .ok (.iload_n 1, 1) := by decide +kernel
theorem dX10_wouldBring_13 : decode cX10_wouldBring 13 = .ok (.iload_n 2, 1) := by decide +kernel
theorem dX10_wouldBring_14 : decode cX10_wouldBring 14 = .ok (.invokevirtual 321, 3) := by decide +kernel
theorem dX10_wouldBring_17 : decode cX10_wouldBring 17 = .ok (.istore 4, 2) := by decide +kernel
theorem dX10_wouldBring_19 : decode cX10_wouldBring 19 = .ok (.iload 4, 2) := by decide +kernel
theorem dX10_wouldBring_21 : decode cX10_wouldBring 21 = .ok (.ifCond .eq 20, 3) := by decide +kernel
theorem dX10_wouldBring_24 : decode cX10_wouldBring 24 = .ok (.aload_n 0, 1) := by decide +kernel
theorem dX10_wouldBring_25 : decode cX10_wouldBring 25 = .ok (.aload_n 0, 1) := by decide +kernel
theorem dX10_wouldBring_26 : decode cX10_wouldBring 26 = .ok (.iload_n 3, 1) := by decide +kernel
theorem dX10_wouldBring_27 : decode cX10_wouldBring 27 = .ok (.iload_n 3, 1) := by decide +kernel
theorem dX10_wouldBring_28 : decode cX10_wouldBring 28 = .ok (.iconst 0, 1) := by decide +kernel
theorem dX10_wouldBring_29 : decode cX10_wouldBring 29 = .ok (.invokevirtual 345, 3) := by decide +kernel
theorem dX10_wouldBring_32 : decode cX10_wouldBring 32 = .ok (.aload_n 0, 1) := by decide +kernel
theorem dX10_wouldBring_33 : decode cX10_wouldBring 33 = .ok (.getfield 9, 3) := by decide +kernel
theorem dX10_wouldBring_36 : decode cX10_wouldBring 36 = .ok (.iconst 3, 1) := by decide +kernel
theorem dX10_wouldBring_37 : decode cX10_wouldBring 37 = .ok (.laload, 1) := by decide +kernel
theorem dX10_wouldBring_38 : decode cX10_wouldBring 38 = .ok (.invokevirtual 110, 3) := by decide +kernel
theorem dX10_wouldBring_41 : decode cX10_wouldBring 41 = .ok (.aload_n 0, 1) := by decide +kernel
theorem dX10_wouldBring_42 : decode cX10_wouldBring 42 = .ok (.getfield 52, 3) := by decide +kernel
theorem dX10_wouldBring_45 : decode cX10_wouldBring 45 = .ok (.aload_n 0, 1) := by decide +kernel
theorem dX10_wouldBring_46 : decode cX10_wouldBring 46 = .ok (.getfield 9, 3) := by decide +kernel
theorem dX10_wouldBring_49 : decode cX10_wouldBring 49 = .ok (.invokestatic 189, 3) := by decide +kernel
theorem dX10_wouldBring_52 : decode cX10_wouldBring 52 = .ok (.iload 4, 2) := by decide +kernel
theorem dX10_wouldBring_54 : decode cX10_wouldBring 54 = .ok (.ireturn, 1) := by decide +kernel
theorem dX10_would_0 : decode cX10_would 0 = .ok (.aload_n 0, 1) := by decide +kernel
theorem dX10_would_1 : decode cX10_would 1 = .ok (.iload_n 1, 1) := by decide +kernel
theorem dX10_would_2 : decode cX10_would 2 = .ok (.iload_n 2, 1) := by decide +kernel
theorem dX10_would_3 : decode cX10_would 3 = .ok (.invokevirtual 318, 3) := by decide +kernel
theorem dX10_would_6 : decode cX10_would 6 = .ok (.ifCond .ne 26, 3) := by decide +kernel
theorem dX10_would_9 : decode cX10_would 9 = .ok (.aload_n 0, 1) := by decide +kernel
theorem dX10_would_10 : decode cX10_would 10 = .ok (.iload_n 3, 1) := by decide +kernel
theorem dX10_would_11 : decode cX10_would 11 = .ok (.invokevirtual 79, 3) := by decide +kernel
theorem dX10_would_14 : decode cX10_would 14 = .ok (.ifCond .eq 18, 3) := by decide +kernel
theorem dX10_would_17 : decode cX10_would 17 = .ok (.iload 4, 2) := by decide +kernel
theorem dX10_would_19 : decode cX10_would 19 = .ok (.i2l, 1) := by decide +kernel
theorem dX10_would_20 : decode cX10_would 20 = .ok (.lconst 0, 1) := by decide +kernel
theorem dX10_would_21 : decode cX10_would 21 = .ok (.lconst 1, 1) := by decide +kernel
theorem dX10_would_22 : decode cX10_would 22 = .ok (.invokestatic 65, 3) := by decide +kernel
theorem dX10_would_25 : decode cX10_would 25 = .ok (.ifCond .eq 7, 3) := by decide +kernel
theorem dX10_would_28 : decode cX10_would 28 = .ok (.iconst 1, 1) := by decide +kernel
theorem dX10_would_29 : decode cX10_would 29 = .ok (.goto 4, 3) := by decide +kernel
theorem dX10_would_32 : decode cX10_would 32 = .ok (.iconst 0, 1) := by decide +kernel
theorem dX10_would_33 : decode cX10_would 33 = .ok (.istore 5, 2) := by decide +kernel
theorem dX10_would_35 : decode cX10_would 35 = .ok (.iload 5, 2) := by decide +kernel
theorem dX10_would_37 : decode cX10_would 37 = .ok (.ifCond .eq 22, 3) := by decide +kernel
theorem dX10_would_40 : decode cX10_would 40 = .ok (.aload_n 0, 1) := by decide +kernel
theorem dX10_would_41 : decode cX10_would 41 = .ok (.iload_n 1, 1) := by decide +kernel
theorem dX10_would_42 : decode cX10_would 42 = .ok (.iload_n 2, 1) := by decide +kernel
theorem dX10_would_43 : decode cX10_would 43 = .ok (.iload_n 3, 1) := by decide +kernel
theorem dX10_would_44 : decode cX10_would 44 = .ok (.invokevirtual 351, 3) := by decide +kernel
theorem dX10_would_47 : decode cX10_would 47 = .ok (.ifCond .eq 12, 3) := by decide +kernel
theorem dX10_would_50 : decode cX10_would 50 = .ok (.aload_n 0, 1) := by decide +kernel
theorem dX10_would_51 : decode cX10_would 51 = .ok (.iload 4, 2) := by decide +kernel
theorem dX10_would_53 : decode cX10_would 53 = .ok (.invokevirtual 122, 3) := by decide +kernel
theorem dX10_would_56 : decode cX10_would 56 = .ok (.goto 6, 3) := by decide +kernel
theorem dX10_would_59 : decode cX10_would 59 = .ok (.ldc2_w 116, 3) := by decide +kernel
theorem dX10_would_62 : decode cX10_would 62 = .ok (.lreturn, 1) := by decide +kernel
theorem dX10_tellsMore_0 : decode cX10_tellsMore 0 = .ok (.aload_n 0, 1) := by decide +kernel
theorem dX10_tellsMore_1 : decode cX10_tellsMore 1 = .ok (.getfield 9, 3) := by decide +kernel
theorem dX10_tellsMore_4 : decode cX10_tellsMore 4 = .ok (.bipush 85, 2) := by decide +kernel
theorem dX10_tellsMore_6 : decode cX10_tellsMore 6 = .ok (.bipush 16, 2) := by decide +kernel
theorem dX10_tellsMore_8 : decode cX10_tellsMore 8 = .ok (.iload_n 1, 1) := by decide +kernel
theorem dX10_tellsMore_9 : decode cX10_tellsMore 9 = .ok (.imul, 1) := by decide +kernel
theorem dX10_tellsMore_10 : decode cX10_tellsMore 10 = .ok (.iadd, 1) := by decide +kernel
theorem dX10_tellsMore_11 : decode cX10_tellsMore 11 = .ok (.iload_n 2, 1) := by decide +kernel
theorem dX10_tellsMore_12 : decode cX10_tellsMore 12 = .ok (.iadd, 1) := by decide +kernel
theorem dX10_tellsMore_13 : decode cX10_tellsMore 13 = .ok (.dup2, 1) := by decide +kernel
theorem dX10_tellsMore_14 : decode cX10_tellsMore 14 = .ok (.laload, 1) := by decide +kernel
theorem dX10_tellsMore_15 : decode cX10_tellsMore 15 = .ok (.iload_n 3, 1) := by decide +kernel
theorem dX10_tellsMore_16 : decode cX10_tellsMore 16 = .ok (.i2l, 1) := by decide +kernel
theorem dX10_tellsMore_17 : decode cX10_tellsMore 17 = .ok (.ladd, 1) := by decide +kernel
theorem dX10_tellsMore_18 : decode cX10_tellsMore 18 = .ok (.lastore, 1) := by decide +kernel
theorem dX10_tellsMore_19 : decode cX10_tellsMore 19 = .ok (.return_, 1) := by decide +kernel
theorem dX10_mayLie_0 : decode cX10_mayLie 0 = .ok (.iload_n 2, 1) := by decide +kernel
theorem dX10_mayLie_1 : decode cX10_mayLie 1 = .ok (.iload_n 3, 1) := by decide +kernel
theorem dX10_mayLie_2 : decode cX10_mayLie 2 = .ok (.if_icmp .eq 33, 3) := by decide +kernel
theorem dX10_mayLie_5 : decode cX10_mayLie 5 = .ok (.aload_n 0, 1) := by decide +kernel
theorem dX10_mayLie_6 : decode cX10_mayLie 6 = .ok (.iload_n 1, 1) := by decide +kernel
theorem dX10_mayLie_7 : decode cX10_mayLie 7 = .ok (.iload_n 2, 1) := by decide +kernel
theorem dX10_mayLie_8 : decode cX10_mayLie 8 = .ok (.iconst 1, 1) := by decide +kernel
theorem dX10_mayLie_9 : decode cX10_mayLie 9 = .ok (.invokevirtual 88, 3) := by decide +kernel
theorem dX10_mayLie_12 : decode cX10_mayLie 12 = .ok (.lconst 0, 1) := by decide +kernel
theorem dX10_mayLie_13 : decode cX10_mayLie 13 = .ok (.lcmp, 1) := by decide +kernel
theorem dX10_mayLie_14 : decode cX10_mayLie 14 = .ok (.ifCond .le 21, 3) := by decide +kernel
theorem dX10_mayLie_17 : decode cX10_mayLie 17 = .ok (.aload_n 0, 1) := by decide +kernel
theorem dX10_mayLie_18 : decode cX10_mayLie 18 = .ok (.iload_n 1, 1) := by decide +kernel
theorem dX10_mayLie_19 : decode cX10_mayLie 19 = .ok (.iload_n 3, 1) := by decide +kernel
theorem dX10_mayLie_20 : decode cX10_mayLie 20 = .ok (.iconst 1, 1) := by decide +kernel
theorem dX10_mayLie_21 : decode cX10_mayLie 21 = .ok (.invokevirtual 88, 3) := by decide +kernel
theorem dX10_mayLie_24 : decode cX10_mayLie 24 = .ok (.ldc2_w 86, 3) := by decide +kernel
theorem dX10_mayLie_27 : decode cX10_mayLie 27 = .ok (.lcmp, 1) := by decide +kernel
theorem dX10_mayLie_28 : decode cX10_mayLie 28 = .ok (.ifCond .ge 7, 3) := by decide +kernel
theorem dX10_mayLie_31 : decode cX10_mayLie 31 = .ok (.iconst 1, 1) := by decide +kernel
theorem dX10_mayLie_32 : decode cX10_mayLie 32 = .ok (.goto 4, 3) := by decide +kernel
theorem dX10_mayLie_35 : decode cX10_mayLie 35 = .ok (.iconst 0, 1) := by decide +kernel
theorem dX10_mayLie_36 : decode cX10_mayLie 36 = .ok (.ireturn, 1) := by decide +kernel
theorem dX10_lie_0 : decode cX10_lie 0 = .ok (.aload_n 0, 1) := by decide +kernel
theorem dX10_lie_1 : decode cX10_lie 1 = .ok (.iload_n 1, 1) := by decide +kernel
theorem dX10_lie_2 : decode cX10_lie 2 = .ok (.iload_n 2, 1) := by decide +kernel
theorem dX10_lie_3 : decode cX10_lie 3 = .ok (.invokevirtual 318, 3) := by decide +kernel
theorem dX10_lie_6 : decode cX10_lie 6 = .ok (.ifCond .ne 34, 3) := by decide +kernel
theorem dX10_lie_9 : decode cX10_lie 9 = .ok (.aload_n 0, 1) := by decide +kernel
theorem dX10_lie_10 : decode cX10_lie 10 = .ok (.iload_n 3, 1) := by decide +kernel
theorem dX10_lie_11 : decode cX10_lie 11 = .ok (.invokevirtual 79, 3) := by decide +kernel
theorem dX10_lie_14 : decode cX10_lie 14 = .ok (.ifCond .eq 26, 3) := by decide +kernel
theorem dX10_lie_17 : decode cX10_lie 17 = .ok (.iload 4, 2) := by decide +kernel
theorem dX10_lie_19 : decode cX10_lie 19 = .ok (.i2l, 1) := by decide +kernel
theorem dX10_lie_20 : decode cX10_lie 20 = .ok (.lconst 0, 1) := by decide +kernel
theorem dX10_lie_21 : decode cX10_lie 21 = .ok (.ldc2_w 69, 3) := by decide +kernel
theorem dX10_lie_24 : decode cX10_lie 24 = .ok (.invokestatic 65, 3) := by decide +kernel
theorem dX10_lie_27 : decode cX10_lie 27 = .ok (.ifCond .eq 13, 3) := by decide +kernel
theorem dX10_lie_30 : decode cX10_lie 30 = .ok (.aload_n 0, 1) := by decide +kernel
theorem dX10_lie_31 : decode cX10_lie 31 = .ok (.iload_n 1, 1) := by decide +kernel
theorem dX10_lie_32 : decode cX10_lie 32 = .ok (.iload_n 2, 1) := by decide +kernel
theorem dX10_lie_33 : decode cX10_lie 33 = .ok (.iload_n 3, 1) := by decide +kernel
theorem dX10_lie_34 : decode cX10_lie 34 = .ok (.invokevirtual 351, 3) := by decide +kernel
theorem dX10_lie_37 : decode cX10_lie 37 = .ok (.ifCond .ne 7, 3) := by decide +kernel
theorem dX10_lie_40 : decode cX10_lie 40 = .ok (.ldc2_w 116, 3) := by decide +kernel
theorem dX10_lie_43 : decode cX10_lie 43 = .ok (.lreturn, 1) := by decide +kernel
theorem dX10_lie_44 : decode cX10_lie 44 = .ok (.aload_n 0, 1) := by decide +kernel
theorem dX10_lie_45 : decode cX10_lie 45 = .ok (.getfield 99, 3) := by decide +kernel
theorem dX10_lie_48 : decode cX10_lie 48 = .ok (.lstore 5, 2) := by decide +kernel
theorem dX10_lie_50 : decode cX10_lie 50 = .ok (.aload_n 0, 1) := by decide +kernel
theorem dX10_lie_51 : decode cX10_lie 51 = .ok (.getfield 103, 3) := by decide +kernel
theorem dX10_lie_54 : decode cX10_lie 54 = .ok (.lstore 7, 2) := by decide +kernel
theorem dX10_lie_56 : decode cX10_lie 56 = .ok (.iconst (-1), 1) := by decide +kernel
theorem dX10_lie_57 : decode cX10_lie 57 = .ok (.istore 9, 2) := by decide +kernel
theorem dX10_lie_59 : decode cX10_lie 59 = .ok (.iconst 0, 1) := by decide +kernel
theorem dX10_lie_60 : decode cX10_lie 60 = .ok (.istore 10, 2) := by decide +kernel
theorem dX10_lie_62 : decode cX10_lie 62 = .ok (.iload 10, 2) := by decide +kernel
theorem dX10_lie_64 : decode cX10_lie 64 = .ok (.aload_n 0, 1) := by decide +kernel
theorem dX10_lie_65 : decode cX10_lie 65 = .ok (.invokevirtual 92, 3) := by decide +kernel
theorem dX10_lie_68 : decode cX10_lie 68 = .ok (.aload_n 0, 1) := by decide +kernel
theorem dX10_lie_69 : decode cX10_lie 69 = .ok (.invokevirtual 92, 3) := by decide +kernel
theorem dX10_lie_72 : decode cX10_lie 72 = .ok (.imul, 1) := by decide +kernel
theorem dX10_lie_73 : decode cX10_lie 73 = .ok (.if_icmp .ge 158, 3) := by decide +kernel
theorem dX10_lie_76 : decode cX10_lie 76 = .ok (.iload 10, 2) := by decide +kernel
theorem dX10_lie_78 : decode cX10_lie 78 = .ok (.aload_n 0, 1) := by decide +kernel
theorem dX10_lie_79 : decode cX10_lie 79 = .ok (.invokevirtual 92, 3) := by decide +kernel
theorem dX10_lie_82 : decode cX10_lie 82 = .ok (.idiv, 1) := by decide +kernel
theorem dX10_lie_83 : decode cX10_lie 83 = .ok (.istore 11, 2) := by decide +kernel
theorem dX10_lie_85 : decode cX10_lie 85 = .ok (.iload 10, 2) := by decide +kernel
theorem dX10_lie_87 : decode cX10_lie 87 = .ok (.aload_n 0, 1) := by decide +kernel
theorem dX10_lie_88 : decode cX10_lie 88 = .ok (.invokevirtual 92, 3) := by decide +kernel
theorem dX10_lie_91 : decode cX10_lie 91 = .ok (.irem, 1) := by decide +kernel
theorem dX10_lie_92 : decode cX10_lie 92 = .ok (.istore 12, 2) := by decide +kernel
theorem dX10_lie_94 : decode cX10_lie 94 = .ok (.aload_n 0, 1) := by decide +kernel
theorem dX10_lie_95 : decode cX10_lie 95 = .ok (.iload_n 3, 1) := by decide +kernel
theorem dX10_lie_96 : decode cX10_lie 96 = .ok (.iload 11, 2) := by decide +kernel
theorem dX10_lie_98 : decode cX10_lie 98 = .ok (.iload 12, 2) := by decide +kernel
theorem dX10_lie_100 : decode cX10_lie 100 = .ok (.invokevirtual 355, 3) := by decide +kernel
theorem dX10_lie_103 : decode cX10_lie 103 = .ok (.ifCond .eq 122, 3) := by decide +kernel
theorem dX10_lie_106 : decode cX10_lie 106 = .ok (.aload_n 0, 1) := by decide +kernel
theorem dX10_lie_107 : decode cX10_lie 107 = .ok (.iload_n 3, 1) := by decide +kernel
theorem dX10_lie_108 : decode cX10_lie 108 = .ok (.iload 11, 2) := by decide +kernel
theorem dX10_lie_110 : decode cX10_lie 110 = .ok (.iconst (-1), 1) := by decide +kernel
theorem dX10_lie_111 : decode cX10_lie 111 = .ok (.invokevirtual 358, 3) := by decide +kernel
theorem dX10_lie_114 : decode cX10_lie 114 = .ok (.aload_n 0, 1) := by decide +kernel
theorem dX10_lie_115 : decode cX10_lie 115 = .ok (.iload_n 3, 1) := by decide +kernel
theorem dX10_lie_116 : decode cX10_lie 116 = .ok (.iload 12, 2) := by decide +kernel
theorem dX10_lie_118 : decode cX10_lie 118 = .ok (.iconst 1, 1) := by decide +kernel
theorem dX10_lie_119 : decode cX10_lie 119 = .ok (.invokevirtual 358, 3) := by decide +kernel
theorem dX10_lie_122 : decode cX10_lie 122 = .ok (.aload_n 0, 1) := by decide +kernel
theorem dX10_lie_123 : decode cX10_lie 123 = .ok (.iload_n 1, 1) := by decide +kernel
theorem dX10_lie_124 : decode cX10_lie 124 = .ok (.iload_n 2, 1) := by decide +kernel
theorem dX10_lie_125 : decode cX10_lie 125 = .ok (.iload_n 3, 1) := by decide +kernel
theorem dX10_lie_126 : decode cX10_lie 126 = .ok (.invokevirtual 351, 3) := by decide +kernel
theorem dX10_lie_129 : decode cX10_lie 129 = .ok (.ifCond .eq 25, 3) := by decide +kernel
theorem dX10_lie_132 : decode cX10_lie 132 = .ok (.lload 5, 2) := by decide +kernel
theorem dX10_lie_134 : decode cX10_lie 134 = .ok (.lload 7, 2) := by decide +kernel
theorem dX10_lie_136 : decode cX10_lie 136 = .ok (.aload_n 0, 1) := by decide +kernel
theorem dX10_lie_137 : decode cX10_lie 137 = .ok (.getfield 99, 3) := by decide +kernel
theorem dX10_lie_140 : decode cX10_lie 140 = .ok (.aload_n 0, 1) := by decide +kernel
theorem dX10_lie_141 : decode cX10_lie 141 = .ok (.getfield 103, 3) := by decide +kernel
theorem dX10_lie_144 : decode cX10_lie 144 = .ok (.invokestatic 199, 3) := by decide +kernel
theorem dX10_lie_147 : decode cX10_lie 147 = .ok (.ifCond .eq 7, 3) := by decide +kernel
theorem dX10_lie_150 : decode cX10_lie 150 = .ok (.iconst 1, 1) := by decide +kernel
theorem dX10_lie_151 : decode cX10_lie 151 = .ok (.goto 4, 3) := by decide +kernel
theorem dX10_lie_154 : decode cX10_lie 154 = .ok (.iconst 0, 1) := by decide +kernel
theorem dX10_lie_155 : decode cX10_lie 155 = .ok (.istore 13, 2) := by decide +kernel
theorem dX10_lie_157 : decode cX10_lie 157 = .ok (.iload 13, 2) := by decide +kernel
theorem dX10_lie_159 : decode cX10_lie 159 = .ok (.ifCond .eq 14, 3) := by decide +kernel
theorem dX10_lie_162 : decode cX10_lie 162 = .ok (.bipush 100, 2) := by decide +kernel
theorem dX10_lie_164 : decode cX10_lie 164 = .ok (.iload 11, 2) := by decide +kernel
theorem dX10_lie_166 : decode cX10_lie 166 = .ok (.imul, 1) := by decide +kernel
theorem dX10_lie_167 : decode cX10_lie 167 = .ok (.iload 12, 2) := by decide +kernel
theorem dX10_lie_169 : decode cX10_lie 169 = .ok (.iadd, 1) := by decide +kernel
theorem dX10_lie_170 : decode cX10_lie 170 = .ok (.goto 5, 3) := by decide +kernel
theorem dX10_lie_173 : decode cX10_lie 173 = .ok (.iload 9, 2) := by decide +kernel
theorem dX10_lie_175 : decode cX10_lie 175 = .ok (.istore 9, 2) := by decide +kernel
theorem dX10_lie_177 : decode cX10_lie 177 = .ok (.iload 13, 2) := by decide +kernel
theorem dX10_lie_179 : decode cX10_lie 179 = .ok (.ifCond .eq 10, 3) := by decide +kernel
theorem dX10_lie_182 : decode cX10_lie 182 = .ok (.aload_n 0, 1) := by decide +kernel
theorem dX10_lie_183 : decode cX10_lie 183 = .ok (.getfield 99, 3) := by decide +kernel
theorem dX10_lie_186 : decode cX10_lie 186 = .ok (.goto 5, 3) := by decide +kernel
theorem dX10_lie_189 : decode cX10_lie 189 = .ok (.lload 5, 2) := by decide +kernel
theorem dX10_lie_191 : decode cX10_lie 191 = .ok (.lstore 5, 2) := by decide +kernel
theorem dX10_lie_193 : decode cX10_lie 193 = .ok (.iload 13, 2) := by decide +kernel
theorem dX10_lie_195 : decode cX10_lie 195 = .ok (.ifCond .eq 10, 3) := by decide +kernel
theorem dX10_lie_198 : decode cX10_lie 198 = .ok (.aload_n 0, 1) := by decide +kernel
theorem dX10_lie_199 : decode cX10_lie 199 = .ok (.getfield 103, 3) := by decide +kernel
theorem dX10_lie_202 : decode cX10_lie 202 = .ok (.goto 5, 3) := by decide +kernel
theorem dX10_lie_205 : decode cX10_lie 205 = .ok (.lload 7, 2) := by decide +kernel
theorem dX10_lie_207 : decode cX10_lie 207 = .ok (.lstore 7, 2) := by decide +kernel
theorem dX10_lie_209 : decode cX10_lie 209 = .ok (.aload_n 0, 1) := by decide +kernel
theorem dX10_lie_210 : decode cX10_lie 210 = .ok (.iload_n 3, 1) := by decide +kernel
theorem dX10_lie_211 : decode cX10_lie 211 = .ok (.iload 11, 2) := by decide +kernel
theorem dX10_lie_213 : decode cX10_lie 213 = .ok (.iconst 1, 1) := by decide +kernel
theorem dX10_lie_214 : decode cX10_lie 214 = .ok (.invokevirtual 358, 3) := by decide +kernel
theorem dX10_lie_217 : decode cX10_lie 217 = .ok (.aload_n 0, 1) := by decide +kernel
theorem dX10_lie_218 : decode cX10_lie 218 = .ok (.iload_n 3, 1) := by decide +kernel
theorem dX10_lie_219 : decode cX10_lie 219 = .ok (.iload 12, 2) := by decide +kernel
theorem dX10_lie_221 : decode cX10_lie 221 = .ok (.iconst (-1), 1) := by decide +kernel
theorem dX10_lie_222 : decode cX10_lie 222 = .ok (.invokevirtual 358, 3) := by decide +kernel
theorem dX10_lie_225 : decode cX10_lie 225 = .ok (.iinc 10 1, 3) := by decide +kernel
theorem dX10_lie_228 : decode cX10_lie 228 = .ok (.goto (-166), 3) := by decide +kernel
theorem dX10_lie_231 : decode cX10_lie 231 = .ok (.iload 9, 2) := by decide +kernel
theorem dX10_lie_233 : decode cX10_lie 233 = .ok (.ifCond .ge 9, 3) := by decide +kernel
theorem dX10_lie_236 : decode cX10_lie 236 = .ok (.ldc2_w 116, 3) := by decide +kernel
theorem dX10_lie_239 : decode cX10_lie 239 = .ok (.goto 27, 3) := by decide +kernel
theorem dX10_lie_242 : decode cX10_lie 242 = .ok (.iload 4, 2) := by decide +kernel
theorem dX10_lie_244 : decode cX10_lie 244 = .ok (.ifCond .ne 9, 3) := by decide +kernel
theorem dX10_lie_247 : decode cX10_lie 247 = .ok (.iload 9, 2) := by decide +kernel
theorem dX10_lie_249 : decode cX10_lie 249 = .ok (.i2l, 1) := by decide +kernel
theorem dX10_lie_250 : decode cX10_lie 250 = .ok (.goto 16, 3) := by decide +kernel
theorem dX10_lie_253 : decode cX10_lie 253 = .ok (.iload 4, 2) := by decide +kernel
theorem dX10_lie_255 : decode cX10_lie 255 = .ok (.iconst 1, 1) := by decide +kernel
theorem dX10_lie_256 : decode cX10_lie 256 = .ok (.if_icmp .ne 8, 3) := by decide +kernel
theorem dX10_lie_259 : decode cX10_lie 259 = .ok (.lload 5, 2) := by decide +kernel
theorem dX10_lie_261 : decode cX10_lie 261 = .ok (.goto 5, 3) := by decide +kernel
theorem dX10_lie_264 : decode cX10_lie 264 = .ok (.lload 7, 2) := by decide +kernel
theorem dX10_lie_266 : decode cX10_lie 266 = .ok (.lreturn, 1) := by decide +kernel
theorem dX10_best_0 : decode cX10_best 0 = .ok (.aload_n 0, 1) := by decide +kernel
theorem dX10_best_1 : decode cX10_best 1 = .ok (.iload_n 1, 1) := by decide +kernel
theorem dX10_best_2 : decode cX10_best 2 = .ok (.invokevirtual 79, 3) := by decide +kernel
theorem dX10_best_5 : decode cX10_best 5 = .ok (.ifCond .eq 11, 3) := by decide +kernel
theorem dX10_best_8 : decode cX10_best 8 = .ok (.aload_n 0, 1) := by decide +kernel
theorem dX10_best_9 : decode cX10_best 9 = .ok (.iload_n 2, 1) := by decide +kernel
theorem dX10_best_10 : decode cX10_best 10 = .ok (.invokevirtual 79, 3) := by decide +kernel
theorem dX10_best_13 : decode cX10_best 13 = .ok (.ifCond .ne 5, 3) := by decide +kernel
theorem dX10_best_16 : decode cX10_best 16 = .ok (.iconst (-1), 1) := by decide +kernel
theorem dX10_best_17 : decode cX10_best 17 = .ok (.ireturn, 1) := by decide +kernel
theorem dX10_best_18 : decode cX10_best 18 = .ok (.bipush (-2), 2) := by decide +kernel
theorem dX10_best_20 : decode cX10_best 20 = .ok (.istore_n 3, 1) := by decide +kernel
theorem dX10_best_21 : decode cX10_best 21 = .ok (.lconst 0, 1) := by decide +kernel
theorem dX10_best_22 : decode cX10_best 22 = .ok (.lstore 4, 2) := by decide +kernel
theorem dX10_best_24 : decode cX10_best 24 = .ok (.lconst 1, 1) := by decide +kernel
theorem dX10_best_25 : decode cX10_best 25 = .ok (.lstore 6, 2) := by decide +kernel
theorem dX10_best_27 : decode cX10_best 27 = .ok (.iconst 0, 1) := by decide +kernel
theorem dX10_best_28 : decode cX10_best 28 = .ok (.istore 8, 2) := by decide +kernel
theorem dX10_best_30 : decode cX10_best 30 = .ok (.iload 8, 2) := by decide +kernel
theorem dX10_best_32 : decode cX10_best 32 = .ok (.iconst 5, 1) := by decide +kernel
theorem dX10_best_33 : decode cX10_best 33 = .ok (.if_icmp .ge 103, 3) := by decide +kernel
theorem dX10_best_36 : decode cX10_best 36 = .ok (.aload_n 0, 1) := by decide +kernel
theorem dX10_best_37 : decode cX10_best 37 = .ok (.iload 8, 2) := by decide +kernel
theorem dX10_best_39 : decode cX10_best 39 = .ok (.iload_n 2, 1) := by decide +kernel
theorem dX10_best_40 : decode cX10_best 40 = .ok (.invokevirtual 318, 3) := by decide +kernel
theorem dX10_best_43 : decode cX10_best 43 = .ok (.ifCond .ne 40, 3) := by decide +kernel
theorem dX10_best_46 : decode cX10_best 46 = .ok (.aload_n 0, 1) := by decide +kernel
theorem dX10_best_47 : decode cX10_best 47 = .ok (.iload 8, 2) := by decide +kernel
theorem dX10_best_49 : decode cX10_best 49 = .ok (.iload_n 2, 1) := by decide +kernel
theorem dX10_best_50 : decode cX10_best 50 = .ok (.iload_n 1, 1) := by decide +kernel
theorem dX10_best_51 : decode cX10_best 51 = .ok (.invokevirtual 351, 3) := by decide +kernel
theorem dX10_best_54 : decode cX10_best 54 = .ok (.ifCond .eq 29, 3) := by decide +kernel
theorem dX10_best_57 : decode cX10_best 57 = .ok (.iload_n 3, 1) := by decide +kernel
theorem dX10_best_58 : decode cX10_best 58 = .ok (.ifCond .lt 21, 3) := by decide +kernel
theorem dX10_best_61 : decode cX10_best 61 = .ok (.lload 4, 2) := by decide +kernel
theorem dX10_best_63 : decode cX10_best 63 = .ok (.lload 6, 2) := by decide +kernel
theorem dX10_best_65 : decode cX10_best 65 = .ok (.aload_n 0, 1) := by decide +kernel
theorem dX10_best_66 : decode cX10_best 66 = .ok (.getfield 99, 3) := by decide +kernel
theorem dX10_best_69 : decode cX10_best 69 = .ok (.aload_n 0, 1) := by decide +kernel
theorem dX10_best_70 : decode cX10_best 70 = .ok (.getfield 103, 3) := by decide +kernel
theorem dX10_best_73 : decode cX10_best 73 = .ok (.invokestatic 199, 3) := by decide +kernel
theorem dX10_best_76 : decode cX10_best 76 = .ok (.ifCond .eq 7, 3) := by decide +kernel
theorem dX10_best_79 : decode cX10_best 79 = .ok (.iconst 1, 1) := by decide +kernel
theorem dX10_best_80 : decode cX10_best 80 = .ok (.goto 4, 3) := by decide +kernel
theorem dX10_best_83 : decode cX10_best 83 = .ok (.iconst 0, 1) := by decide +kernel
theorem dX10_best_84 : decode cX10_best 84 = .ok (.istore 9, 2) := by decide +kernel
theorem dX10_best_86 : decode cX10_best 86 = .ok (.iload 9, 2) := by decide +kernel
theorem dX10_best_88 : decode cX10_best 88 = .ok (.ifCond .eq 8, 3) := by decide +kernel
theorem dX10_best_91 : decode cX10_best 91 = .ok (.iload 8, 2) := by decide +kernel
theorem dX10_best_93 : decode cX10_best 93 = .ok (.goto 4, 3) := by decide +kernel
theorem dX10_best_96 : decode cX10_best 96 = .ok (.iload_n 3, 1) := by decide +kernel
theorem dX10_best_97 : decode cX10_best 97 = .ok (.istore_n 3, 1) := by decide +kernel
theorem dX10_best_98 : decode cX10_best 98 = .ok (.iload 9, 2) := by decide +kernel
theorem dX10_best_100 : decode cX10_best 100 = .ok (.ifCond .eq 10, 3) := by decide +kernel
theorem dX10_best_103 : decode cX10_best 103 = .ok (.aload_n 0, 1) := by decide +kernel
theorem dX10_best_104 : decode cX10_best 104 = .ok (.getfield 99, 3) := by decide +kernel
theorem dX10_best_107 : decode cX10_best 107 = .ok (.goto 5, 3) := by decide +kernel
theorem dX10_best_110 : decode cX10_best 110 = .ok (.lload 4, 2) := by decide +kernel
theorem dX10_best_112 : decode cX10_best 112 = .ok (.lstore 4, 2) := by decide +kernel
theorem dX10_best_114 : decode cX10_best 114 = .ok (.iload 9, 2) := by decide +kernel
theorem dX10_best_116 : decode cX10_best 116 = .ok (.ifCond .eq 10, 3) := by decide +kernel
theorem dX10_best_119 : decode cX10_best 119 = .ok (.aload_n 0, 1) := by decide +kernel
theorem dX10_best_120 : decode cX10_best 120 = .ok (.getfield 103, 3) := by decide +kernel
theorem dX10_best_123 : decode cX10_best 123 = .ok (.goto 5, 3) := by decide +kernel
theorem dX10_best_126 : decode cX10_best 126 = .ok (.lload 6, 2) := by decide +kernel
theorem dX10_best_128 : decode cX10_best 128 = .ok (.lstore 6, 2) := by decide +kernel
theorem dX10_best_130 : decode cX10_best 130 = .ok (.iinc 8 1, 3) := by decide +kernel
theorem dX10_best_133 : decode cX10_best 133 = .ok (.goto (-103), 3) := by decide +kernel
theorem dX10_best_136 : decode cX10_best 136 = .ok (.iload_n 3, 1) := by decide +kernel
theorem dX10_best_137 : decode cX10_best 137 = .ok (.ireturn, 1) := by decide +kernel
theorem dX10_isList_0 : decode cX10_isList 0 = .ok (.iload_n 0, 1) := by decide +kernel
theorem dX10_isList_1 : decode cX10_isList 1 = .ok (.i2l, 1) := by decide +kernel
theorem dX10_isList_2 : decode cX10_isList 2 = .ok (.lconst 0, 1) := by decide +kernel
theorem dX10_isList_3 : decode cX10_isList 3 = .ok (.ldc2_w 136, 3) := by decide +kernel
theorem dX10_isList_6 : decode cX10_isList 6 = .ok (.invokestatic 65, 3) := by decide +kernel
theorem dX10_isList_9 : decode cX10_isList 9 = .ok (.ireturn, 1) := by decide +kernel
theorem dX10_list_0 : decode cX10_list 0 = .ok (.iload_n 1, 1) := by decide +kernel
theorem dX10_list_1 : decode cX10_list 1 = .ok (.invokestatic 362, 3) := by decide +kernel
theorem dX10_list_4 : decode cX10_list 4 = .ok (.ifCond .eq 9, 3) := by decide +kernel
theorem dX10_list_7 : decode cX10_list 7 = .ok (.iload_n 2, 1) := by decide +kernel
theorem dX10_list_8 : decode cX10_list 8 = .ok (.bipush 20, 2) := by decide +kernel
theorem dX10_list_10 : decode cX10_list 10 = .ok (.if_icmp .le 5, 3) := by decide +kernel
theorem dX10_list_13 : decode cX10_list 13 = .ok (.iconst (-1), 1) := by decide +kernel
theorem dX10_list_14 : decode cX10_list 14 = .ok (.ireturn, 1) := by decide +kernel
theorem dX10_list_15 : decode cX10_list 15 = .ok (.iload_n 2, 1) := by decide +kernel
theorem dX10_list_16 : decode cX10_list 16 = .ok (.ifCond .ge 6, 3) := by decide +kernel
theorem dX10_list_19 : decode cX10_list 19 = .ok (.bipush (-14), 2) := by decide +kernel
theorem dX10_list_21 : decode cX10_list 21 = .ok (.ireturn, 1) := by decide +kernel
theorem dX10_list_22 : decode cX10_list 22 = .ok (.aload_n 0, 1) := by decide +kernel
theorem dX10_list_23 : decode cX10_list 23 = .ok (.getfield 55, 3) := by decide +kernel
theorem dX10_list_26 : decode cX10_list 26 = .ok (.iload_n 1, 1) := by decide +kernel
theorem dX10_list_27 : decode cX10_list 27 = .ok (.iload_n 2, 1) := by decide +kernel
theorem dX10_list_28 : decode cX10_list 28 = .ok (.iastore, 1) := by decide +kernel
theorem dX10_list_29 : decode cX10_list 29 = .ok (.iconst 0, 1) := by decide +kernel
theorem dX10_list_30 : decode cX10_list 30 = .ok (.istore_n 3, 1) := by decide +kernel
theorem dX10_list_31 : decode cX10_list 31 = .ok (.iload_n 3, 1) := by decide +kernel
theorem dX10_list_32 : decode cX10_list 32 = .ok (.bipush 20, 2) := by decide +kernel
theorem dX10_list_34 : decode cX10_list 34 = .ok (.if_icmp .ge 21, 3) := by decide +kernel
theorem dX10_list_37 : decode cX10_list 37 = .ok (.aload_n 0, 1) := by decide +kernel
theorem dX10_list_38 : decode cX10_list 38 = .ok (.getfield 58, 3) := by decide +kernel
theorem dX10_list_41 : decode cX10_list 41 = .ok (.bipush 20, 2) := by decide +kernel
theorem dX10_list_43 : decode cX10_list 43 = .ok (.iload_n 1, 1) := by decide +kernel
theorem dX10_list_44 : decode cX10_list 44 = .ok (.imul, 1) := by decide +kernel
theorem dX10_list_45 : decode cX10_list 45 = .ok (.iload_n 3, 1) := by decide +kernel
theorem dX10_list_46 : decode cX10_list 46 = .ok (.iadd, 1) := by decide +kernel
theorem dX10_list_47 : decode cX10_list 47 = .ok (.iconst 0, 1) := by decide +kernel
theorem dX10_list_48 : decode cX10_list 48 = .ok (.iastore, 1) := by decide +kernel
theorem dX10_list_49 : decode cX10_list 49 = .ok (.iinc 3 1, 3) := by decide +kernel
theorem dX10_list_52 : decode cX10_list 52 = .ok (.goto (-21), 3) := by decide +kernel
theorem dX10_list_55 : decode cX10_list 55 = .ok (.iconst 1, 1) := by decide +kernel
theorem dX10_list_56 : decode cX10_list 56 = .ok (.ireturn, 1) := by decide +kernel
theorem dX10_set_0 : decode cX10_set 0 = .ok (.iload_n 1, 1) := by decide +kernel
theorem dX10_set_1 : decode cX10_set 1 = .ok (.invokestatic 362, 3) := by decide +kernel
theorem dX10_set_4 : decode cX10_set 4 = .ok (.ifCond .ne 5, 3) := by decide +kernel
theorem dX10_set_7 : decode cX10_set 7 = .ok (.iconst (-1), 1) := by decide +kernel
theorem dX10_set_8 : decode cX10_set 8 = .ok (.ireturn, 1) := by decide +kernel
theorem dX10_set_9 : decode cX10_set 9 = .ok (.aload_n 0, 1) := by decide +kernel
theorem dX10_set_10 : decode cX10_set 10 = .ok (.getfield 55, 3) := by decide +kernel
theorem dX10_set_13 : decode cX10_set 13 = .ok (.iload_n 1, 1) := by decide +kernel
theorem dX10_set_14 : decode cX10_set 14 = .ok (.iaload, 1) := by decide +kernel
theorem dX10_set_15 : decode cX10_set 15 = .ok (.ifCond .ge 6, 3) := by decide +kernel
theorem dX10_set_18 : decode cX10_set 18 = .ok (.bipush (-11), 2) := by decide +kernel
theorem dX10_set_20 : decode cX10_set 20 = .ok (.ireturn, 1) := by decide +kernel
theorem dX10_set_21 : decode cX10_set 21 = .ok (.iload_n 2, 1) := by decide +kernel
theorem dX10_set_22 : decode cX10_set 22 = .ok (.i2l, 1) := by decide +kernel
theorem dX10_set_23 : decode cX10_set 23 = .ok (.lconst 0, 1) := by decide +kernel
theorem dX10_set_24 : decode cX10_set 24 = .ok (.aload_n 0, 1) := by decide +kernel
theorem dX10_set_25 : decode cX10_set 25 = .ok (.getfield 55, 3) := by decide +kernel
theorem dX10_set_28 : decode cX10_set 28 = .ok (.iload_n 1, 1) := by decide +kernel
theorem dX10_set_29 : decode cX10_set 29 = .ok (.iaload, 1) := by decide +kernel
theorem dX10_set_30 : decode cX10_set 30 = .ok (.iconst 1, 1) := by decide +kernel
theorem dX10_set_31 : decode cX10_set 31 = .ok (.isub, 1) := by decide +kernel
theorem dX10_set_32 : decode cX10_set 32 = .ok (.i2l, 1) := by decide +kernel
theorem dX10_set_33 : decode cX10_set 33 = .ok (.invokestatic 65, 3) := by decide +kernel
theorem dX10_set_36 : decode cX10_set 36 = .ok (.ifCond .ne 6, 3) := by decide +kernel
theorem dX10_set_39 : decode cX10_set 39 = .ok (.bipush (-13), 2) := by decide +kernel
theorem dX10_set_41 : decode cX10_set 41 = .ok (.ireturn, 1) := by decide +kernel
theorem dX10_set_42 : decode cX10_set 42 = .ok (.aload_n 0, 1) := by decide +kernel
theorem dX10_set_43 : decode cX10_set 43 = .ok (.getfield 58, 3) := by decide +kernel
theorem dX10_set_46 : decode cX10_set 46 = .ok (.bipush 20, 2) := by decide +kernel
theorem dX10_set_48 : decode cX10_set 48 = .ok (.iload_n 1, 1) := by decide +kernel
theorem dX10_set_49 : decode cX10_set 49 = .ok (.imul, 1) := by decide +kernel
theorem dX10_set_50 : decode cX10_set 50 = .ok (.iload_n 2, 1) := by decide +kernel
theorem dX10_set_51 : decode cX10_set 51 = .ok (.iadd, 1) := by decide +kernel
theorem dX10_set_52 : decode cX10_set 52 = .ok (.iload_n 3, 1) := by decide +kernel
theorem dX10_set_53 : decode cX10_set 53 = .ok (.iastore, 1) := by decide +kernel
theorem dX10_set_54 : decode cX10_set 54 = .ok (.iconst 1, 1) := by decide +kernel
theorem dX10_set_55 : decode cX10_set 55 = .ok (.ireturn, 1) := by decide +kernel
theorem dX10_get_0 : decode cX10_get 0 = .ok (.iload_n 1, 1) := by decide +kernel
theorem dX10_get_1 : decode cX10_get 1 = .ok (.invokestatic 362, 3) := by decide +kernel
theorem dX10_get_4 : decode cX10_get 4 = .ok (.ifCond .eq 36, 3) := by decide +kernel
theorem dX10_get_7 : decode cX10_get 7 = .ok (.iload_n 2, 1) := by decide +kernel
theorem dX10_get_8 : decode cX10_get 8 = .ok (.i2l, 1) := by decide +kernel
theorem dX10_get_9 : decode cX10_get 9 = .ok (.lconst 0, 1) := by decide +kernel
theorem dX10_get_10 : decode cX10_get 10 = .ok (.aload_n 0, 1) := by decide +kernel
theorem dX10_get_11 : decode cX10_get 11 = .ok (.getfield 55, 3) := by decide +kernel
theorem dX10_get_14 : decode cX10_get 14 = .ok (.iload_n 1, 1) := by decide +kernel
theorem dX10_get_15 : decode cX10_get 15 = .ok (.iaload, 1) := by decide +kernel
theorem dX10_get_16 : decode cX10_get 16 = .ok (.iconst 1, 1) := by decide +kernel
theorem dX10_get_17 : decode cX10_get 17 = .ok (.isub, 1) := by decide +kernel
theorem dX10_get_18 : decode cX10_get 18 = .ok (.i2l, 1) := by decide +kernel
theorem dX10_get_19 : decode cX10_get 19 = .ok (.invokestatic 65, 3) := by decide +kernel
theorem dX10_get_22 : decode cX10_get 22 = .ok (.ifCond .eq 18, 3) := by decide +kernel
theorem dX10_get_25 : decode cX10_get 25 = .ok (.aload_n 0, 1) := by decide +kernel
theorem dX10_get_26 : decode cX10_get 26 = .ok (.getfield 58, 3) := by decide +kernel
theorem dX10_get_29 : decode cX10_get 29 = .ok (.bipush 20, 2) := by decide +kernel
theorem dX10_get_31 : decode cX10_get 31 = .ok (.iload_n 1, 1) := by decide +kernel
theorem dX10_get_32 : decode cX10_get 32 = .ok (.imul, 1) := by decide +kernel
theorem dX10_get_33 : decode cX10_get 33 = .ok (.iload_n 2, 1) := by decide +kernel
theorem dX10_get_34 : decode cX10_get 34 = .ok (.iadd, 1) := by decide +kernel
theorem dX10_get_35 : decode cX10_get 35 = .ok (.iaload, 1) := by decide +kernel
theorem dX10_get_36 : decode cX10_get 36 = .ok (.i2l, 1) := by decide +kernel
theorem dX10_get_37 : decode cX10_get 37 = .ok (.goto 6, 3) := by decide +kernel
theorem dX10_get_40 : decode cX10_get 40 = .ok (.ldc2_w 116, 3) := by decide +kernel
theorem dX10_get_43 : decode cX10_get 43 = .ok (.lreturn, 1) := by decide +kernel
theorem dX10_mayRow_0 : decode cX10_mayRow 0 = .ok (.aload_n 0, 1) := by decide +kernel
theorem dX10_mayRow_1 : decode cX10_mayRow 1 = .ok (.iload_n 1, 1) := by decide +kernel
theorem dX10_mayRow_2 : decode cX10_mayRow 2 = .ok (.invokevirtual 79, 3) := by decide +kernel
theorem dX10_mayRow_5 : decode cX10_mayRow 5 = .ok (.ifCond .eq 10, 3) := by decide +kernel
theorem dX10_mayRow_8 : decode cX10_mayRow 8 = .ok (.iload_n 2, 1) := by decide +kernel
theorem dX10_mayRow_9 : decode cX10_mayRow 9 = .ok (.invokestatic 362, 3) := by decide +kernel
theorem dX10_mayRow_12 : decode cX10_mayRow 12 = .ok (.ifCond .ne 5, 3) := by decide +kernel
theorem dX10_mayRow_15 : decode cX10_mayRow 15 = .ok (.iconst (-1), 1) := by decide +kernel
theorem dX10_mayRow_16 : decode cX10_mayRow 16 = .ok (.ireturn, 1) := by decide +kernel
theorem dX10_mayRow_17 : decode cX10_mayRow 17 = .ok (.aload_n 0, 1) := by decide +kernel
theorem dX10_mayRow_18 : decode cX10_mayRow 18 = .ok (.getfield 55, 3) := by decide +kernel
theorem dX10_mayRow_21 : decode cX10_mayRow 21 = .ok (.iload_n 2, 1) := by decide +kernel
theorem dX10_mayRow_22 : decode cX10_mayRow 22 = .ok (.iaload, 1) := by decide +kernel
theorem dX10_mayRow_23 : decode cX10_mayRow 23 = .ok (.ifCond .ge 8, 3) := by decide +kernel
theorem dX10_mayRow_26 : decode cX10_mayRow 26 = .ok (.bipush (-11), 2) := by decide +kernel
theorem dX10_mayRow_28 : decode cX10_mayRow 28 = .ok (.goto 13, 3) := by decide +kernel
theorem dX10_mayRow_31 : decode cX10_mayRow 31 = .ok (.iload_n 3, 1) := by decide +kernel
theorem dX10_mayRow_32 : decode cX10_mayRow 32 = .ok (.ifCond .ge 8, 3) := by decide +kernel
theorem dX10_mayRow_35 : decode cX10_mayRow 35 = .ok (.bipush (-13), 2) := by decide +kernel
theorem dX10_mayRow_37 : decode cX10_mayRow 37 = .ok (.goto 4, 3) := by decide +kernel
theorem dX10_mayRow_40 : decode cX10_mayRow 40 = .ok (.iconst 0, 1) := by decide +kernel
theorem dX10_mayRow_41 : decode cX10_mayRow 41 = .ok (.ireturn, 1) := by decide +kernel
theorem dX10_into_0 : decode cX10_into 0 = .ok (.aload_n 0, 1) := by decide +kernel
theorem dX10_into_1 : decode cX10_into 1 = .ok (.iload_n 1, 1) := by decide +kernel
theorem dX10_into_2 : decode cX10_into 2 = .ok (.iload_n 2, 1) := by decide +kernel
theorem dX10_into_3 : decode cX10_into 3 = .ok (.iload_n 3, 1) := by decide +kernel
theorem dX10_into_4 : decode cX10_into 4 = .ok (.invokevirtual 365, 3) := by decide +kernel
theorem dX10_into_7 : decode cX10_into 7 = .ok (.istore 4, 2) := by decide +kernel
theorem dX10_into_9 : decode cX10_into 9 = .ok (.iconst 0, 1) := by decide +kernel
theorem dX10_into_10 : decode cX10_into 10 = .ok (.istore 5, 2) := by decide +kernel
theorem dX10_into_12 : decode cX10_into 12 = .ok (.iload 4, 2) := by decide +kernel
theorem dX10_into_14 : decode cX10_into 14 = .ok (.ifCond .ne 58, 3) := by decide +kernel
theorem dX10_into_17 : decode cX10_into 17 = .ok (.iload 5, 2) := by decide +kernel
theorem dX10_into_19 : decode cX10_into 19 = .ok (.aload_n 0, 1) := by decide +kernel
theorem dX10_into_20 : decode cX10_into 20 = .ok (.invokevirtual 92, 3) := by decide +kernel
theorem dX10_into_23 : decode cX10_into 23 = .ok (.if_icmp .ge 49, 3) := by decide +kernel
theorem dX10_into_26 : decode cX10_into 26 = .ok (.iload_n 3, 1) := by decide +kernel
theorem dX10_into_27 : decode cX10_into 27 = .ok (.i2l, 1) := by decide +kernel
theorem dX10_into_28 : decode cX10_into 28 = .ok (.iload 5, 2) := by decide +kernel
theorem dX10_into_30 : decode cX10_into 30 = .ok (.i2l, 1) := by decide +kernel
theorem dX10_into_31 : decode cX10_into 31 = .ok (.ladd, 1) := by decide +kernel
theorem dX10_into_32 : decode cX10_into 32 = .ok (.aload_n 0, 1) := by decide +kernel
theorem dX10_into_33 : decode cX10_into 33 = .ok (.getfield 55, 3) := by decide +kernel
theorem dX10_into_36 : decode cX10_into 36 = .ok (.iload_n 2, 1) := by decide +kernel
theorem dX10_into_37 : decode cX10_into 37 = .ok (.iaload, 1) := by decide +kernel
theorem dX10_into_38 : decode cX10_into 38 = .ok (.i2l, 1) := by decide +kernel
theorem dX10_into_39 : decode cX10_into 39 = .ok (.lcmp, 1) := by decide +kernel
theorem dX10_into_40 : decode cX10_into 40 = .ok (.ifCond .ge 32, 3) := by decide +kernel
theorem dX10_into_43 : decode cX10_into 43 = .ok (.aload_n 0, 1) := by decide +kernel
theorem dX10_into_44 : decode cX10_into 44 = .ok (.getfield 58, 3) := by decide +kernel
theorem dX10_into_47 : decode cX10_into 47 = .ok (.bipush 20, 2) := by decide +kernel
theorem dX10_into_49 : decode cX10_into 49 = .ok (.iload_n 2, 1) := by decide +kernel
theorem dX10_into_50 : decode cX10_into 50 = .ok (.imul, 1) := by decide +kernel
theorem dX10_into_51 : decode cX10_into 51 = .ok (.iload_n 3, 1) := by decide +kernel
theorem dX10_into_52 : decode cX10_into 52 = .ok (.iadd, 1) := by decide +kernel
theorem dX10_into_53 : decode cX10_into 53 = .ok (.iload 5, 2) := by decide +kernel
theorem dX10_into_55 : decode cX10_into 55 = .ok (.iadd, 1) := by decide +kernel
theorem dX10_into_56 : decode cX10_into 56 = .ok (.aload_n 0, 1) := by decide +kernel
theorem dX10_into_57 : decode cX10_into 57 = .ok (.iload_n 1, 1) := by decide +kernel
theorem dX10_into_58 : decode cX10_into 58 = .ok (.iload 5, 2) := by decide +kernel
theorem dX10_into_60 : decode cX10_into 60 = .ok (.iconst 1, 1) := by decide +kernel
theorem dX10_into_61 : decode cX10_into 61 = .ok (.invokevirtual 88, 3) := by decide +kernel
theorem dX10_into_64 : decode cX10_into 64 = .ok (.l2i, 1) := by decide +kernel
theorem dX10_into_65 : decode cX10_into 65 = .ok (.iastore, 1) := by decide +kernel
theorem dX10_into_66 : decode cX10_into 66 = .ok (.iinc 5 1, 3) := by decide +kernel
theorem dX10_into_69 : decode cX10_into 69 = .ok (.goto (-57), 3) := by decide +kernel
theorem dX10_into_72 : decode cX10_into 72 = .ok (.iload 4, 2) := by decide +kernel
theorem dX10_into_74 : decode cX10_into 74 = .ok (.ifCond .ne 8, 3) := by decide +kernel
theorem dX10_into_77 : decode cX10_into 77 = .ok (.iload 5, 2) := by decide +kernel
theorem dX10_into_79 : decode cX10_into 79 = .ok (.goto 5, 3) := by decide +kernel
theorem dX10_into_82 : decode cX10_into 82 = .ok (.iload 4, 2) := by decide +kernel
theorem dX10_into_84 : decode cX10_into 84 = .ok (.ireturn, 1) := by decide +kernel
theorem dX10_from_0 : decode cX10_from 0 = .ok (.aload_n 0, 1) := by decide +kernel
theorem dX10_from_1 : decode cX10_from 1 = .ok (.iload_n 1, 1) := by decide +kernel
theorem dX10_from_2 : decode cX10_from 2 = .ok (.iload_n 2, 1) := by decide +kernel
theorem dX10_from_3 : decode cX10_from 3 = .ok (.iload_n 3, 1) := by decide +kernel
theorem dX10_from_4 : decode cX10_from 4 = .ok (.invokevirtual 365, 3) := by decide +kernel
theorem dX10_from_7 : decode cX10_from 7 = .ok (.istore 4, 2) := by decide +kernel
theorem dX10_from_9 : decode cX10_from 9 = .ok (.iconst 0, 1) := by decide +kernel
theorem dX10_from_10 : decode cX10_from 10 = .ok (.istore 5, 2) := by decide +kernel
theorem dX10_from_12 : decode cX10_from 12 = .ok (.iload 4, 2) := by decide +kernel
theorem dX10_from_14 : decode cX10_from 14 = .ok (.ifCond .ne 90, 3) := by decide +kernel
theorem dX10_from_17 : decode cX10_from 17 = .ok (.iload 5, 2) := by decide +kernel
theorem dX10_from_19 : decode cX10_from 19 = .ok (.aload_n 0, 1) := by decide +kernel
theorem dX10_from_20 : decode cX10_from 20 = .ok (.invokevirtual 92, 3) := by decide +kernel
theorem dX10_from_23 : decode cX10_from 23 = .ok (.if_icmp .ge 81, 3) := by decide +kernel
theorem dX10_from_26 : decode cX10_from 26 = .ok (.iload_n 3, 1) := by decide +kernel
theorem dX10_from_27 : decode cX10_from 27 = .ok (.i2l, 1) := by decide +kernel
theorem dX10_from_28 : decode cX10_from 28 = .ok (.iload 5, 2) := by decide +kernel
theorem dX10_from_30 : decode cX10_from 30 = .ok (.i2l, 1) := by decide +kernel
theorem dX10_from_31 : decode cX10_from 31 = .ok (.ladd, 1) := by decide +kernel
theorem dX10_from_32 : decode cX10_from 32 = .ok (.aload_n 0, 1) := by decide +kernel
theorem dX10_from_33 : decode cX10_from 33 = .ok (.getfield 55, 3) := by decide +kernel
theorem dX10_from_36 : decode cX10_from 36 = .ok (.iload_n 2, 1) := by decide +kernel
theorem dX10_from_37 : decode cX10_from 37 = .ok (.iaload, 1) := by decide +kernel
theorem dX10_from_38 : decode cX10_from 38 = .ok (.i2l, 1) := by decide +kernel
theorem dX10_from_39 : decode cX10_from 39 = .ok (.lcmp, 1) := by decide +kernel
theorem dX10_from_40 : decode cX10_from 40 = .ok (.ifCond .ge 64, 3) := by decide +kernel
theorem dX10_from_43 : decode cX10_from 43 = .ok (.aload_n 0, 1) := by decide +kernel
theorem dX10_from_44 : decode cX10_from 44 = .ok (.getfield 58, 3) := by decide +kernel
theorem dX10_from_47 : decode cX10_from 47 = .ok (.bipush 20, 2) := by decide +kernel
theorem dX10_from_49 : decode cX10_from 49 = .ok (.iload_n 2, 1) := by decide +kernel
theorem dX10_from_50 : decode cX10_from 50 = .ok (.imul, 1) := by decide +kernel
theorem dX10_from_51 : decode cX10_from 51 = .ok (.iload_n 3, 1) := by decide +kernel
theorem dX10_from_52 : decode cX10_from 52 = .ok (.iadd, 1) := by decide +kernel
theorem dX10_from_53 : decode cX10_from 53 = .ok (.iload 5, 2) := by decide +kernel
theorem dX10_from_55 : decode cX10_from 55 = .ok (.iadd, 1) := by decide +kernel
theorem dX10_from_56 : decode cX10_from 56 = .ok (.iaload, 1) := by decide +kernel
theorem dX10_from_57 : decode cX10_from 57 = .ok (.i2l, 1) := by decide +kernel
theorem dX10_from_58 : decode cX10_from 58 = .ok (.lconst 0, 1) := by decide +kernel
theorem dX10_from_59 : decode cX10_from 59 = .ok (.ldc2_w 86, 3) := by decide +kernel
theorem dX10_from_62 : decode cX10_from 62 = .ok (.invokestatic 65, 3) := by decide +kernel
theorem dX10_from_65 : decode cX10_from 65 = .ok (.ifCond .eq 39, 3) := by decide +kernel
theorem dX10_from_68 : decode cX10_from 68 = .ok (.aload_n 0, 1) := by decide +kernel
theorem dX10_from_69 : decode cX10_from 69 = .ok (.getfield 9, 3) := by decide +kernel
theorem dX10_from_72 : decode cX10_from 72 = .ok (.bipush 85, 2) := by decide +kernel
theorem dX10_from_74 : decode cX10_from 74 = .ok (.bipush 16, 2) := by decide +kernel
theorem dX10_from_76 : decode cX10_from 76 = .ok (.iload_n 1, 1) := by decide +kernel
theorem dX10_from_77 : decode cX10_from 77 = .ok (.imul, 1) := by decide +kernel
theorem dX10_from_78 : decode cX10_from 78 = .ok (.iadd, 1) := by decide +kernel
theorem dX10_from_79 : decode cX10_from 79 = .ok (.iload 5, 2) := by decide +kernel
theorem dX10_from_81 : decode cX10_from 81 = .ok (.iadd, 1) := by decide +kernel
theorem dX10_from_82 : decode cX10_from 82 = .ok (.aload_n 0, 1) := by decide +kernel
theorem dX10_from_83 : decode cX10_from 83 = .ok (.getfield 58, 3) := by decide +kernel
theorem dX10_from_86 : decode cX10_from 86 = .ok (.bipush 20, 2) := by decide +kernel
theorem dX10_from_88 : decode cX10_from 88 = .ok (.iload_n 2, 1) := by decide +kernel
theorem dX10_from_89 : decode cX10_from 89 = .ok (.imul, 1) := by decide +kernel
theorem dX10_from_90 : decode cX10_from 90 = .ok (.iload_n 3, 1) := by decide +kernel
theorem dX10_from_91 : decode cX10_from 91 = .ok (.iadd, 1) := by decide +kernel
theorem dX10_from_92 : decode cX10_from 92 = .ok (.iload 5, 2) := by decide +kernel
theorem dX10_from_94 : decode cX10_from 94 = .ok (.iadd, 1) := by decide +kernel
theorem dX10_from_95 : decode cX10_from 95 = .ok (.iaload, 1) := by decide +kernel
theorem dX10_from_96 : decode cX10_from 96 = .ok (.i2l, 1) := by decide +kernel
theorem dX10_from_97 : decode cX10_from 97 = .ok (.lastore, 1) := by decide +kernel
theorem dX10_from_98 : decode cX10_from 98 = .ok (.iinc 5 1, 3) := by decide +kernel
theorem dX10_from_101 : decode cX10_from 101 = .ok (.goto (-89), 3) := by decide +kernel
theorem dX10_from_104 : decode cX10_from 104 = .ok (.iload 4, 2) := by decide +kernel
theorem dX10_from_106 : decode cX10_from 106 = .ok (.ifCond .ne 8, 3) := by decide +kernel
theorem dX10_from_109 : decode cX10_from 109 = .ok (.iload 5, 2) := by decide +kernel
theorem dX10_from_111 : decode cX10_from 111 = .ok (.goto 5, 3) := by decide +kernel
theorem dX10_from_114 : decode cX10_from 114 = .ok (.iload 4, 2) := by decide +kernel
theorem dX10_from_116 : decode cX10_from 116 = .ok (.ireturn, 1) := by decide +kernel
theorem dX10_image_0 : decode cX10_image 0 = .ok (.aload_n 0, 1) := by decide +kernel
theorem dX10_image_1 : decode cX10_image 1 = .ok (.iconst 1, 1) := by decide +kernel
theorem dX10_image_2 : decode cX10_image 2 = .ok (.putfield 369, 3) := by decide +kernel
theorem dX10_image_5 : decode cX10_image 5 = .ok (.aload_n 0, 1) := by decide +kernel
theorem dX10_image_6 : decode cX10_image 6 = .ok (.getfield 9, 3) := by decide +kernel
theorem dX10_image_9 : decode cX10_image 9 = .ok (.aload_n 0, 1) := by decide +kernel
theorem dX10_image_10 : decode cX10_image 10 = .ok (.getfield 18, 3) := by decide +kernel
theorem dX10_image_13 : decode cX10_image 13 = .ok (.invokestatic 189, 3) := by decide +kernel
theorem dX10_image_16 : decode cX10_image 16 = .ok (.aload_n 0, 1) := by decide +kernel
theorem dX10_image_17 : decode cX10_image 17 = .ok (.invokevirtual 75, 3) := by decide +kernel
theorem dX10_image_20 : decode cX10_image 20 = .ok (.ireturn, 1) := by decide +kernel
theorem dX10_back_0 : decode cX10_back 0 = .ok (.aload_n 0, 1) := by decide +kernel
theorem dX10_back_1 : decode cX10_back 1 = .ok (.getfield 369, 3) := by decide +kernel
theorem dX10_back_4 : decode cX10_back 4 = .ok (.ifCond .ne 6, 3) := by decide +kernel
theorem dX10_back_7 : decode cX10_back 7 = .ok (.bipush (-5), 2) := by decide +kernel
theorem dX10_back_9 : decode cX10_back 9 = .ok (.ireturn, 1) := by decide +kernel
theorem dX10_back_10 : decode cX10_back 10 = .ok (.aload_n 0, 1) := by decide +kernel
theorem dX10_back_11 : decode cX10_back 11 = .ok (.getfield 18, 3) := by decide +kernel
theorem dX10_back_14 : decode cX10_back 14 = .ok (.aload_n 0, 1) := by decide +kernel
theorem dX10_back_15 : decode cX10_back 15 = .ok (.getfield 9, 3) := by decide +kernel
theorem dX10_back_18 : decode cX10_back 18 = .ok (.invokestatic 189, 3) := by decide +kernel
theorem dX10_back_21 : decode cX10_back 21 = .ok (.aload_n 0, 1) := by decide +kernel
theorem dX10_back_22 : decode cX10_back 22 = .ok (.invokevirtual 75, 3) := by decide +kernel
theorem dX10_back_25 : decode cX10_back 25 = .ok (.ireturn, 1) := by decide +kernel
theorem dX10_count_0 : decode cX10_count 0 = .ok (.iload_n 1, 1) := by decide +kernel
theorem dX10_count_1 : decode cX10_count 1 = .ok (.tableswitch 99 0 6 #[43, 48, 53, 61, 81, 86, 91], 43) := by decide +kernel
theorem dX10_count_44 : decode cX10_count 44 = .ok (.aload_n 0, 1) := by decide +kernel
theorem dX10_count_45 : decode cX10_count 45 = .ok (.invokevirtual 75, 3) := by decide +kernel
theorem dX10_count_48 : decode cX10_count 48 = .ok (.ireturn, 1) := by decide +kernel
theorem dX10_count_49 : decode cX10_count 49 = .ok (.aload_n 0, 1) := by decide +kernel
theorem dX10_count_50 : decode cX10_count 50 = .ok (.invokevirtual 92, 3) := by decide +kernel
theorem dX10_count_53 : decode cX10_count 53 = .ok (.ireturn, 1) := by decide +kernel
theorem dX10_count_54 : decode cX10_count 54 = .ok (.aload_n 0, 1) := by decide +kernel
theorem dX10_count_55 : decode cX10_count 55 = .ok (.getfield 9, 3) := by decide +kernel
theorem dX10_count_58 : decode cX10_count 58 = .ok (.iconst 2, 1) := by decide +kernel
theorem dX10_count_59 : decode cX10_count 59 = .ok (.laload, 1) := by decide +kernel
theorem dX10_count_60 : decode cX10_count 60 = .ok (.l2i, 1) := by decide +kernel
theorem dX10_count_61 : decode cX10_count 61 = .ok (.ireturn, 1) := by decide +kernel
theorem dX10_count_62 : decode cX10_count 62 = .ok (.aload_n 0, 1) := by decide +kernel
theorem dX10_count_63 : decode cX10_count 63 = .ok (.invokevirtual 325, 3) := by decide +kernel
theorem dX10_count_66 : decode cX10_count 66 = .ok (.ifCond .eq 13, 3) := by decide +kernel
theorem dX10_count_69 : decode cX10_count 69 = .ok (.aload_n 0, 1) := by decide +kernel
theorem dX10_count_70 : decode cX10_count 70 = .ok (.getfield 9, 3) := by decide +kernel
theorem dX10_count_73 : decode cX10_count 73 = .ok (.iconst 3, 1) := by decide +kernel
theorem dX10_count_74 : decode cX10_count 74 = .ok (.laload, 1) := by decide +kernel
theorem dX10_count_75 : decode cX10_count 75 = .ok (.l2i, 1) := by decide +kernel
theorem dX10_count_76 : decode cX10_count 76 = .ok (.goto 5, 3) := by decide +kernel
theorem dX10_count_79 : decode cX10_count 79 = .ok (.bipush (-5), 2) := by decide +kernel
theorem dX10_count_81 : decode cX10_count 81 = .ok (.ireturn, 1) := by decide +kernel
theorem dX10_count_82 : decode cX10_count 82 = .ok (.aload_n 0, 1) := by decide +kernel
theorem dX10_count_83 : decode cX10_count 83 = .ok (.getfield 150, 3) := by decide +kernel
theorem dX10_count_86 : decode cX10_count 86 = .ok (.ireturn, 1) := by decide +kernel
theorem dX10_count_87 : decode cX10_count 87 = .ok (.aload_n 0, 1) := by decide +kernel
theorem dX10_count_88 : decode cX10_count 88 = .ok (.getfield 328, 3) := by decide +kernel
theorem dX10_count_91 : decode cX10_count 91 = .ok (.ireturn, 1) := by decide +kernel
theorem dX10_count_92 : decode cX10_count 92 = .ok (.aload_n 0, 1) := by decide +kernel
theorem dX10_count_93 : decode cX10_count 93 = .ok (.getfield 9, 3) := by decide +kernel
theorem dX10_count_96 : decode cX10_count 96 = .ok (.iconst 4, 1) := by decide +kernel
theorem dX10_count_97 : decode cX10_count 97 = .ok (.laload, 1) := by decide +kernel
theorem dX10_count_98 : decode cX10_count 98 = .ok (.l2i, 1) := by decide +kernel
theorem dX10_count_99 : decode cX10_count 99 = .ok (.ireturn, 1) := by decide +kernel
theorem dX10_count_100 : decode cX10_count 100 = .ok (.iconst (-1), 1) := by decide +kernel
theorem dX10_count_101 : decode cX10_count 101 = .ok (.ireturn, 1) := by decide +kernel
theorem dJ6_bitCount_0f7a4_0 : decode cJ6_bitCount_0f7a4 0 = .ok (.iload_n 0, 1) := by decide +kernel
theorem dJ6_bitCount_0f7a4_1 : decode cJ6_bitCount_0f7a4 1 = .ok (.iload_n 0, 1) := by decide +kernel
theorem dJ6_bitCount_0f7a4_2 : decode cJ6_bitCount_0f7a4 2 = .ok (.iconst 1, 1) := by decide +kernel
theorem dJ6_bitCount_0f7a4_3 : decode cJ6_bitCount_0f7a4 3 = .ok (.iushr, 1) := by decide +kernel
theorem dJ6_bitCount_0f7a4_4 : decode cJ6_bitCount_0f7a4 4 = .ok (.ldc_w 265, 3) := by decide +kernel
theorem dJ6_bitCount_0f7a4_7 : decode cJ6_bitCount_0f7a4 7 = .ok (.iand, 1) := by decide +kernel
theorem dJ6_bitCount_0f7a4_8 : decode cJ6_bitCount_0f7a4 8 = .ok (.isub, 1) := by decide +kernel
theorem dJ6_bitCount_0f7a4_9 : decode cJ6_bitCount_0f7a4 9 = .ok (.istore_n 0, 1) := by decide +kernel
theorem dJ6_bitCount_0f7a4_10 : decode cJ6_bitCount_0f7a4 10 = .ok (.iload_n 0, 1) := by decide +kernel
theorem dJ6_bitCount_0f7a4_11 : decode cJ6_bitCount_0f7a4 11 = .ok (.ldc_w 266, 3) := by decide +kernel
theorem dJ6_bitCount_0f7a4_14 : decode cJ6_bitCount_0f7a4 14 = .ok (.iand, 1) := by decide +kernel
theorem dJ6_bitCount_0f7a4_15 : decode cJ6_bitCount_0f7a4 15 = .ok (.iload_n 0, 1) := by decide +kernel
theorem dJ6_bitCount_0f7a4_16 : decode cJ6_bitCount_0f7a4 16 = .ok (.iconst 2, 1) := by decide +kernel
theorem dJ6_bitCount_0f7a4_17 : decode cJ6_bitCount_0f7a4 17 = .ok (.iushr, 1) := by decide +kernel
theorem dJ6_bitCount_0f7a4_18 : decode cJ6_bitCount_0f7a4 18 = .ok (.ldc_w 266, 3) := by decide +kernel
theorem dJ6_bitCount_0f7a4_21 : decode cJ6_bitCount_0f7a4 21 = .ok (.iand, 1) := by decide +kernel
theorem dJ6_bitCount_0f7a4_22 : decode cJ6_bitCount_0f7a4 22 = .ok (.iadd, 1) := by decide +kernel
theorem dJ6_bitCount_0f7a4_23 : decode cJ6_bitCount_0f7a4 23 = .ok (.istore_n 0, 1) := by decide +kernel
theorem dJ6_bitCount_0f7a4_24 : decode cJ6_bitCount_0f7a4 24 = .ok (.iload_n 0, 1) := by decide +kernel
theorem dJ6_bitCount_0f7a4_25 : decode cJ6_bitCount_0f7a4 25 = .ok (.iload_n 0, 1) := by decide +kernel
theorem dJ6_bitCount_0f7a4_26 : decode cJ6_bitCount_0f7a4 26 = .ok (.iconst 4, 1) := by decide +kernel
theorem dJ6_bitCount_0f7a4_27 : decode cJ6_bitCount_0f7a4 27 = .ok (.iushr, 1) := by decide +kernel
theorem dJ6_bitCount_0f7a4_28 : decode cJ6_bitCount_0f7a4 28 = .ok (.iadd, 1) := by decide +kernel
theorem dJ6_bitCount_0f7a4_29 : decode cJ6_bitCount_0f7a4 29 = .ok (.ldc_w 267, 3) := by decide +kernel
theorem dJ6_bitCount_0f7a4_32 : decode cJ6_bitCount_0f7a4 32 = .ok (.iand, 1) := by decide +kernel
theorem dJ6_bitCount_0f7a4_33 : decode cJ6_bitCount_0f7a4 33 = .ok (.istore_n 0, 1) := by decide +kernel
theorem dJ6_bitCount_0f7a4_34 : decode cJ6_bitCount_0f7a4 34 = .ok (.iload_n 0, 1) := by decide +kernel
theorem dJ6_bitCount_0f7a4_35 : decode cJ6_bitCount_0f7a4 35 = .ok (.iload_n 0, 1) := by decide +kernel
theorem dJ6_bitCount_0f7a4_36 : decode cJ6_bitCount_0f7a4 36 = .ok (.bipush 8, 2) := by decide +kernel
theorem dJ6_bitCount_0f7a4_38 : decode cJ6_bitCount_0f7a4 38 = .ok (.iushr, 1) := by decide +kernel
theorem dJ6_bitCount_0f7a4_39 : decode cJ6_bitCount_0f7a4 39 = .ok (.iadd, 1) := by decide +kernel
theorem dJ6_bitCount_0f7a4_40 : decode cJ6_bitCount_0f7a4 40 = .ok (.istore_n 0, 1) := by decide +kernel
theorem dJ6_bitCount_0f7a4_41 : decode cJ6_bitCount_0f7a4 41 = .ok (.iload_n 0, 1) := by decide +kernel
theorem dJ6_bitCount_0f7a4_42 : decode cJ6_bitCount_0f7a4 42 = .ok (.iload_n 0, 1) := by decide +kernel
theorem dJ6_bitCount_0f7a4_43 : decode cJ6_bitCount_0f7a4 43 = .ok (.bipush 16, 2) := by decide +kernel
theorem dJ6_bitCount_0f7a4_45 : decode cJ6_bitCount_0f7a4 45 = .ok (.iushr, 1) := by decide +kernel
theorem dJ6_bitCount_0f7a4_46 : decode cJ6_bitCount_0f7a4 46 = .ok (.iadd, 1) := by decide +kernel
theorem dJ6_bitCount_0f7a4_47 : decode cJ6_bitCount_0f7a4 47 = .ok (.istore_n 0, 1) := by decide +kernel
theorem dJ6_bitCount_0f7a4_48 : decode cJ6_bitCount_0f7a4 48 = .ok (.iload_n 0, 1) := by decide +kernel
theorem dJ6_bitCount_0f7a4_49 : decode cJ6_bitCount_0f7a4 49 = .ok (.bipush 63, 2) := by decide +kernel
theorem dJ6_bitCount_0f7a4_51 : decode cJ6_bitCount_0f7a4 51 = .ok (.iand, 1) := by decide +kernel
theorem dJ6_bitCount_0f7a4_52 : decode cJ6_bitCount_0f7a4 52 = .ok (.ireturn, 1) := by decide +kernel
theorem dJ9_abs_067f4_0 : decode cJ9_abs_067f4 0 = .ok (.lload_n 0, 1) := by decide +kernel
theorem dJ9_abs_067f4_1 : decode cJ9_abs_067f4 1 = .ok (.lconst 0, 1) := by decide +kernel
theorem dJ9_abs_067f4_2 : decode cJ9_abs_067f4 2 = .ok (.lcmp, 1) := by decide +kernel
theorem dJ9_abs_067f4_3 : decode cJ9_abs_067f4 3 = .ok (.ifCond .ge 8, 3) := by decide +kernel
theorem dJ9_abs_067f4_6 : decode cJ9_abs_067f4 6 = .ok (.lload_n 0, 1) := by decide +kernel
theorem dJ9_abs_067f4_7 : decode cJ9_abs_067f4 7 = .ok (.lneg, 1) := by decide +kernel
theorem dJ9_abs_067f4_8 : decode cJ9_abs_067f4 8 = .ok (.goto 4, 3) := by decide +kernel
theorem dJ9_abs_067f4_11 : decode cJ9_abs_067f4 11 = .ok (.lload_n 0, 1) := by decide +kernel
theorem dJ9_abs_067f4_12 : decode cJ9_abs_067f4 12 = .ok (.lreturn, 1) := by decide +kernel
theorem dJ9_max_7cf53_0 : decode cJ9_max_7cf53 0 = .ok (.iload_n 0, 1) := by decide +kernel
theorem dJ9_max_7cf53_1 : decode cJ9_max_7cf53 1 = .ok (.iload_n 1, 1) := by decide +kernel
theorem dJ9_max_7cf53_2 : decode cJ9_max_7cf53 2 = .ok (.if_icmp .lt 7, 3) := by decide +kernel
theorem dJ9_max_7cf53_5 : decode cJ9_max_7cf53 5 = .ok (.iload_n 0, 1) := by decide +kernel
theorem dJ9_max_7cf53_6 : decode cJ9_max_7cf53 6 = .ok (.goto 4, 3) := by decide +kernel
theorem dJ9_max_7cf53_9 : decode cJ9_max_7cf53 9 = .ok (.iload_n 1, 1) := by decide +kernel
theorem dJ9_max_7cf53_10 : decode cJ9_max_7cf53 10 = .ok (.ireturn, 1) := by decide +kernel
theorem dJ9_max_f86c9_0 : decode cJ9_max_f86c9 0 = .ok (.lload_n 0, 1) := by decide +kernel
theorem dJ9_max_f86c9_1 : decode cJ9_max_f86c9 1 = .ok (.lload_n 2, 1) := by decide +kernel
theorem dJ9_max_f86c9_2 : decode cJ9_max_f86c9 2 = .ok (.lcmp, 1) := by decide +kernel
theorem dJ9_max_f86c9_3 : decode cJ9_max_f86c9 3 = .ok (.ifCond .lt 7, 3) := by decide +kernel
theorem dJ9_max_f86c9_6 : decode cJ9_max_f86c9 6 = .ok (.lload_n 0, 1) := by decide +kernel
theorem dJ9_max_f86c9_7 : decode cJ9_max_f86c9 7 = .ok (.goto 4, 3) := by decide +kernel
theorem dJ9_max_f86c9_10 : decode cJ9_max_f86c9 10 = .ok (.lload_n 2, 1) := by decide +kernel
theorem dJ9_max_f86c9_11 : decode cJ9_max_f86c9 11 = .ok (.lreturn, 1) := by decide +kernel
theorem dJ9_min_f86c9_0 : decode cJ9_min_f86c9 0 = .ok (.lload_n 0, 1) := by decide +kernel
theorem dJ9_min_f86c9_1 : decode cJ9_min_f86c9 1 = .ok (.lload_n 2, 1) := by decide +kernel
theorem dJ9_min_f86c9_2 : decode cJ9_min_f86c9 2 = .ok (.lcmp, 1) := by decide +kernel
theorem dJ9_min_f86c9_3 : decode cJ9_min_f86c9 3 = .ok (.ifCond .gt 7, 3) := by decide +kernel
theorem dJ9_min_f86c9_6 : decode cJ9_min_f86c9 6 = .ok (.lload_n 0, 1) := by decide +kernel
theorem dJ9_min_f86c9_7 : decode cJ9_min_f86c9 7 = .ok (.goto 4, 3) := by decide +kernel
theorem dJ9_min_f86c9_10 : decode cJ9_min_f86c9 10 = .ok (.lload_n 2, 1) := by decide +kernel
theorem dJ9_min_f86c9_11 : decode cJ9_min_f86c9 11 = .ok (.lreturn, 1) := by decide +kernel
theorem dL_law_0 : decode code 0 = .ok (.new 7, 3) := by decide +kernel
theorem dL_law_3 : decode code 3 = .ok (.dup, 1) := by decide +kernel
theorem dL_law_4 : decode code 4 = .ok (.invokespecial 9, 3) := by decide +kernel
theorem dL_law_7 : decode code 7 = .ok (.astore_n 1, 1) := by decide +kernel
theorem dL_law_8 : decode code 8 = .ok (.new 10, 3) := by decide +kernel
theorem dL_law_11 : decode code 11 = .ok (.dup, 1) := by decide +kernel
theorem dL_law_12 : decode code 12 = .ok (.invokespecial 12, 3) := by decide +kernel
theorem dL_law_15 : decode code 15 = .ok (.astore_n 2, 1) := by decide +kernel
theorem dL_law_16 : decode code 16 = .ok (.iconst 0, 1) := by decide +kernel
theorem dL_law_17 : decode code 17 = .ok (.istore_n 3, 1) := by decide +kernel
theorem dL_law_18 : decode code 18 = .ok (.iload_n 3, 1) := by decide +kernel
theorem dL_law_19 : decode code 19 = .ok (.aload_n 0, 1) := by decide +kernel
theorem dL_law_20 : decode code 20 = .ok (.arraylength, 1) := by decide +kernel
theorem dL_law_21 : decode code 21 = .ok (.bipush 8, 2) := by decide +kernel
theorem dL_law_23 : decode code 23 = .ok (.isub, 1) := by decide +kernel
theorem dL_law_24 : decode code 24 = .ok (.if_icmp .gt 1317, 3) := by decide +kernel
theorem dL_law_27 : decode code 27 = .ok (.aload_n 0, 1) := by decide +kernel
theorem dL_law_28 : decode code 28 = .ok (.iload_n 3, 1) := by decide +kernel
theorem dL_law_29 : decode code 29 = .ok (.iaload, 1) := by decide +kernel
theorem dL_law_30 : decode code 30 = .ok (.bipush 63, 2) := by decide +kernel
theorem dL_law_32 : decode code 32 = .ok (.iand, 1) := by decide +kernel
theorem dL_law_33 : decode code 33 = .ok (.tableswitch 1302 0 32 #[147, 180, 223, 266, 289, 332, 420, 496, 540, 563, 576, 589, 602, 625, 658, 692, 736, 790, 823, 846, 859, 872, 916, 970, 1024, 1057, 1090, 1133, 1167, 1210, 1253, 1266, 1279], 147) := by decide +kernel
theorem dL_law_180 : decode code 180 = .ok (.aload_n 1, 1) := by decide +kernel
theorem dL_law_181 : decode code 181 = .ok (.aload_n 0, 1) := by decide +kernel
theorem dL_law_182 : decode code 182 = .ok (.iload_n 3, 1) := by decide +kernel
theorem dL_law_183 : decode code 183 = .ok (.iconst 1, 1) := by decide +kernel
theorem dL_law_184 : decode code 184 = .ok (.iadd, 1) := by decide +kernel
theorem dL_law_185 : decode code 185 = .ok (.iaload, 1) := by decide +kernel
theorem dL_law_186 : decode code 186 = .ok (.aload_n 0, 1) := by decide +kernel
theorem dL_law_187 : decode code 187 = .ok (.iload_n 3, 1) := by decide +kernel
theorem dL_law_188 : decode code 188 = .ok (.iconst 2, 1) := by decide +kernel
theorem dL_law_189 : decode code 189 = .ok (.iadd, 1) := by decide +kernel
theorem dL_law_190 : decode code 190 = .ok (.iaload, 1) := by decide +kernel
theorem dL_law_191 : decode code 191 = .ok (.invokevirtual 13, 3) := by decide +kernel
theorem dL_law_194 : decode code 194 = .ok (.aload_n 2, 1) := by decide +kernel
theorem dL_law_195 : decode code 195 = .ok (.aload_n 0, 1) := by decide +kernel
theorem dL_law_196 : decode code 196 = .ok (.iload_n 3, 1) := by decide +kernel
theorem dL_law_197 : decode code 197 = .ok (.iconst 1, 1) := by decide +kernel
theorem dL_law_198 : decode code 198 = .ok (.iadd, 1) := by decide +kernel
theorem dL_law_199 : decode code 199 = .ok (.iaload, 1) := by decide +kernel
theorem dL_law_200 : decode code 200 = .ok (.aload_n 0, 1) := by decide +kernel
theorem dL_law_201 : decode code 201 = .ok (.iload_n 3, 1) := by decide +kernel
theorem dL_law_202 : decode code 202 = .ok (.iconst 2, 1) := by decide +kernel
theorem dL_law_203 : decode code 203 = .ok (.iadd, 1) := by decide +kernel
theorem dL_law_204 : decode code 204 = .ok (.iaload, 1) := by decide +kernel
theorem dL_law_205 : decode code 205 = .ok (.invokevirtual 17, 3) := by decide +kernel
theorem dL_law_208 : decode code 208 = .ok (.if_icmp .eq 1127, 3) := by decide +kernel
theorem dL_law_211 : decode code 211 = .ok (.iconst 0, 1) := by decide +kernel
theorem dL_law_212 : decode code 212 = .ok (.ireturn, 1) := by decide +kernel
theorem dL_law_213 : decode code 213 = .ok (.aload_n 1, 1) := by decide +kernel
theorem dL_law_214 : decode code 214 = .ok (.aload_n 0, 1) := by decide +kernel
theorem dL_law_215 : decode code 215 = .ok (.iload_n 3, 1) := by decide +kernel
theorem dL_law_216 : decode code 216 = .ok (.iconst 1, 1) := by decide +kernel
theorem dL_law_217 : decode code 217 = .ok (.iadd, 1) := by decide +kernel
theorem dL_law_218 : decode code 218 = .ok (.iaload, 1) := by decide +kernel
theorem dL_law_219 : decode code 219 = .ok (.aload_n 0, 1) := by decide +kernel
theorem dL_law_220 : decode code 220 = .ok (.iload_n 3, 1) := by decide +kernel
theorem dL_law_221 : decode code 221 = .ok (.iconst 2, 1) := by decide +kernel
theorem dL_law_222 : decode code 222 = .ok (.iadd, 1) := by decide +kernel
theorem dL_law_223 : decode code 223 = .ok (.iaload, 1) := by decide +kernel
theorem dL_law_224 : decode code 224 = .ok (.aload_n 0, 1) := by decide +kernel
theorem dL_law_225 : decode code 225 = .ok (.iload_n 3, 1) := by decide +kernel
theorem dL_law_226 : decode code 226 = .ok (.iconst 3, 1) := by decide +kernel
theorem dL_law_227 : decode code 227 = .ok (.iadd, 1) := by decide +kernel
theorem dL_law_228 : decode code 228 = .ok (.iaload, 1) := by decide +kernel
theorem dL_law_229 : decode code 229 = .ok (.invokevirtual 18, 3) := by decide +kernel
theorem dL_law_232 : decode code 232 = .ok (.aload_n 2, 1) := by decide +kernel
theorem dL_law_233 : decode code 233 = .ok (.aload_n 0, 1) := by decide +kernel
theorem dL_law_234 : decode code 234 = .ok (.iload_n 3, 1) := by decide +kernel
theorem dL_law_235 : decode code 235 = .ok (.iconst 1, 1) := by decide +kernel
theorem dL_law_236 : decode code 236 = .ok (.iadd, 1) := by decide +kernel
theorem dL_law_237 : decode code 237 = .ok (.iaload, 1) := by decide +kernel
theorem dL_law_238 : decode code 238 = .ok (.aload_n 0, 1) := by decide +kernel
theorem dL_law_239 : decode code 239 = .ok (.iload_n 3, 1) := by decide +kernel
theorem dL_law_240 : decode code 240 = .ok (.iconst 2, 1) := by decide +kernel
theorem dL_law_241 : decode code 241 = .ok (.iadd, 1) := by decide +kernel
theorem dL_law_242 : decode code 242 = .ok (.iaload, 1) := by decide +kernel
theorem dL_law_243 : decode code 243 = .ok (.aload_n 0, 1) := by decide +kernel
theorem dL_law_244 : decode code 244 = .ok (.iload_n 3, 1) := by decide +kernel
theorem dL_law_245 : decode code 245 = .ok (.iconst 3, 1) := by decide +kernel
theorem dL_law_246 : decode code 246 = .ok (.iadd, 1) := by decide +kernel
theorem dL_law_247 : decode code 247 = .ok (.iaload, 1) := by decide +kernel
theorem dL_law_248 : decode code 248 = .ok (.invokevirtual 22, 3) := by decide +kernel
theorem dL_law_251 : decode code 251 = .ok (.if_icmp .eq 1084, 3) := by decide +kernel
theorem dL_law_254 : decode code 254 = .ok (.iconst 0, 1) := by decide +kernel
theorem dL_law_255 : decode code 255 = .ok (.ireturn, 1) := by decide +kernel
theorem dL_law_256 : decode code 256 = .ok (.aload_n 1, 1) := by decide +kernel
theorem dL_law_257 : decode code 257 = .ok (.aload_n 0, 1) := by decide +kernel
theorem dL_law_258 : decode code 258 = .ok (.iload_n 3, 1) := by decide +kernel
theorem dL_law_259 : decode code 259 = .ok (.iconst 1, 1) := by decide +kernel
theorem dL_law_260 : decode code 260 = .ok (.iadd, 1) := by decide +kernel
theorem dL_law_261 : decode code 261 = .ok (.iaload, 1) := by decide +kernel
theorem dL_law_262 : decode code 262 = .ok (.aload_n 0, 1) := by decide +kernel
theorem dL_law_263 : decode code 263 = .ok (.iload_n 3, 1) := by decide +kernel
theorem dL_law_264 : decode code 264 = .ok (.iconst 2, 1) := by decide +kernel
theorem dL_law_265 : decode code 265 = .ok (.iadd, 1) := by decide +kernel
theorem dL_law_266 : decode code 266 = .ok (.iaload, 1) := by decide +kernel
theorem dL_law_267 : decode code 267 = .ok (.aload_n 0, 1) := by decide +kernel
theorem dL_law_268 : decode code 268 = .ok (.iload_n 3, 1) := by decide +kernel
theorem dL_law_269 : decode code 269 = .ok (.iconst 3, 1) := by decide +kernel
theorem dL_law_270 : decode code 270 = .ok (.iadd, 1) := by decide +kernel
theorem dL_law_271 : decode code 271 = .ok (.iaload, 1) := by decide +kernel
theorem dL_law_272 : decode code 272 = .ok (.invokevirtual 23, 3) := by decide +kernel
theorem dL_law_275 : decode code 275 = .ok (.aload_n 2, 1) := by decide +kernel
theorem dL_law_276 : decode code 276 = .ok (.aload_n 0, 1) := by decide +kernel
theorem dL_law_277 : decode code 277 = .ok (.iload_n 3, 1) := by decide +kernel
theorem dL_law_278 : decode code 278 = .ok (.iconst 1, 1) := by decide +kernel
theorem dL_law_279 : decode code 279 = .ok (.iadd, 1) := by decide +kernel
theorem dL_law_280 : decode code 280 = .ok (.iaload, 1) := by decide +kernel
theorem dL_law_281 : decode code 281 = .ok (.aload_n 0, 1) := by decide +kernel
theorem dL_law_282 : decode code 282 = .ok (.iload_n 3, 1) := by decide +kernel
theorem dL_law_283 : decode code 283 = .ok (.iconst 2, 1) := by decide +kernel
theorem dL_law_284 : decode code 284 = .ok (.iadd, 1) := by decide +kernel
theorem dL_law_285 : decode code 285 = .ok (.iaload, 1) := by decide +kernel
theorem dL_law_286 : decode code 286 = .ok (.aload_n 0, 1) := by decide +kernel
theorem dL_law_287 : decode code 287 = .ok (.iload_n 3, 1) := by decide +kernel
theorem dL_law_288 : decode code 288 = .ok (.iconst 3, 1) := by decide +kernel
theorem dL_law_289 : decode code 289 = .ok (.iadd, 1) := by decide +kernel
theorem dL_law_290 : decode code 290 = .ok (.iaload, 1) := by decide +kernel
theorem dL_law_291 : decode code 291 = .ok (.invokevirtual 26, 3) := by decide +kernel
theorem dL_law_294 : decode code 294 = .ok (.if_icmp .eq 1041, 3) := by decide +kernel
theorem dL_law_297 : decode code 297 = .ok (.iconst 0, 1) := by decide +kernel
theorem dL_law_298 : decode code 298 = .ok (.ireturn, 1) := by decide +kernel
theorem dL_law_299 : decode code 299 = .ok (.aload_n 1, 1) := by decide +kernel
theorem dL_law_300 : decode code 300 = .ok (.aload_n 0, 1) := by decide +kernel
theorem dL_law_301 : decode code 301 = .ok (.iload_n 3, 1) := by decide +kernel
theorem dL_law_302 : decode code 302 = .ok (.iconst 1, 1) := by decide +kernel
theorem dL_law_303 : decode code 303 = .ok (.iadd, 1) := by decide +kernel
theorem dL_law_304 : decode code 304 = .ok (.iaload, 1) := by decide +kernel
theorem dL_law_305 : decode code 305 = .ok (.invokevirtual 27, 3) := by decide +kernel
theorem dL_law_308 : decode code 308 = .ok (.aload_n 2, 1) := by decide +kernel
theorem dL_law_309 : decode code 309 = .ok (.aload_n 0, 1) := by decide +kernel
theorem dL_law_310 : decode code 310 = .ok (.iload_n 3, 1) := by decide +kernel
theorem dL_law_311 : decode code 311 = .ok (.iconst 1, 1) := by decide +kernel
theorem dL_law_312 : decode code 312 = .ok (.iadd, 1) := by decide +kernel
theorem dL_law_313 : decode code 313 = .ok (.iaload, 1) := by decide +kernel
theorem dL_law_314 : decode code 314 = .ok (.invokevirtual 31, 3) := by decide +kernel
theorem dL_law_317 : decode code 317 = .ok (.if_icmp .eq 1018, 3) := by decide +kernel
theorem dL_law_320 : decode code 320 = .ok (.iconst 0, 1) := by decide +kernel
theorem dL_law_321 : decode code 321 = .ok (.ireturn, 1) := by decide +kernel
theorem dL_law_322 : decode code 322 = .ok (.aload_n 1, 1) := by decide +kernel
theorem dL_law_323 : decode code 323 = .ok (.aload_n 0, 1) := by decide +kernel
theorem dL_law_324 : decode code 324 = .ok (.iload_n 3, 1) := by decide +kernel
theorem dL_law_325 : decode code 325 = .ok (.iconst 1, 1) := by decide +kernel
theorem dL_law_326 : decode code 326 = .ok (.iadd, 1) := by decide +kernel
theorem dL_law_327 : decode code 327 = .ok (.iaload, 1) := by decide +kernel
theorem dL_law_328 : decode code 328 = .ok (.aload_n 0, 1) := by decide +kernel
theorem dL_law_329 : decode code 329 = .ok (.iload_n 3, 1) := by decide +kernel
theorem dL_law_330 : decode code 330 = .ok (.iconst 2, 1) := by decide +kernel
theorem dL_law_331 : decode code 331 = .ok (.iadd, 1) := by decide +kernel
theorem dL_law_332 : decode code 332 = .ok (.iaload, 1) := by decide +kernel
theorem dL_law_333 : decode code 333 = .ok (.aload_n 0, 1) := by decide +kernel
theorem dL_law_334 : decode code 334 = .ok (.iload_n 3, 1) := by decide +kernel
theorem dL_law_335 : decode code 335 = .ok (.iconst 3, 1) := by decide +kernel
theorem dL_law_336 : decode code 336 = .ok (.iadd, 1) := by decide +kernel
theorem dL_law_337 : decode code 337 = .ok (.iaload, 1) := by decide +kernel
theorem dL_law_338 : decode code 338 = .ok (.invokevirtual 32, 3) := by decide +kernel
theorem dL_law_341 : decode code 341 = .ok (.aload_n 2, 1) := by decide +kernel
theorem dL_law_342 : decode code 342 = .ok (.aload_n 0, 1) := by decide +kernel
theorem dL_law_343 : decode code 343 = .ok (.iload_n 3, 1) := by decide +kernel
theorem dL_law_344 : decode code 344 = .ok (.iconst 1, 1) := by decide +kernel
theorem dL_law_345 : decode code 345 = .ok (.iadd, 1) := by decide +kernel
theorem dL_law_346 : decode code 346 = .ok (.iaload, 1) := by decide +kernel
theorem dL_law_347 : decode code 347 = .ok (.aload_n 0, 1) := by decide +kernel
theorem dL_law_348 : decode code 348 = .ok (.iload_n 3, 1) := by decide +kernel
theorem dL_law_349 : decode code 349 = .ok (.iconst 2, 1) := by decide +kernel
theorem dL_law_350 : decode code 350 = .ok (.iadd, 1) := by decide +kernel
theorem dL_law_351 : decode code 351 = .ok (.iaload, 1) := by decide +kernel
theorem dL_law_352 : decode code 352 = .ok (.aload_n 0, 1) := by decide +kernel
theorem dL_law_353 : decode code 353 = .ok (.iload_n 3, 1) := by decide +kernel
theorem dL_law_354 : decode code 354 = .ok (.iconst 3, 1) := by decide +kernel
theorem dL_law_355 : decode code 355 = .ok (.iadd, 1) := by decide +kernel
theorem dL_law_356 : decode code 356 = .ok (.iaload, 1) := by decide +kernel
theorem dL_law_357 : decode code 357 = .ok (.invokevirtual 35, 3) := by decide +kernel
theorem dL_law_360 : decode code 360 = .ok (.if_icmp .eq 975, 3) := by decide +kernel
theorem dL_law_363 : decode code 363 = .ok (.iconst 0, 1) := by decide +kernel
theorem dL_law_364 : decode code 364 = .ok (.ireturn, 1) := by decide +kernel
theorem dL_law_365 : decode code 365 = .ok (.aload_n 1, 1) := by decide +kernel
theorem dL_law_366 : decode code 366 = .ok (.aload_n 0, 1) := by decide +kernel
theorem dL_law_367 : decode code 367 = .ok (.iload_n 3, 1) := by decide +kernel
theorem dL_law_368 : decode code 368 = .ok (.iconst 1, 1) := by decide +kernel
theorem dL_law_369 : decode code 369 = .ok (.iadd, 1) := by decide +kernel
theorem dL_law_370 : decode code 370 = .ok (.iaload, 1) := by decide +kernel
theorem dL_law_371 : decode code 371 = .ok (.aload_n 0, 1) := by decide +kernel
theorem dL_law_372 : decode code 372 = .ok (.iload_n 3, 1) := by decide +kernel
theorem dL_law_373 : decode code 373 = .ok (.iconst 2, 1) := by decide +kernel
theorem dL_law_374 : decode code 374 = .ok (.iadd, 1) := by decide +kernel
theorem dL_law_375 : decode code 375 = .ok (.iaload, 1) := by decide +kernel
theorem dL_law_376 : decode code 376 = .ok (.aload_n 0, 1) := by decide +kernel
theorem dL_law_377 : decode code 377 = .ok (.iload_n 3, 1) := by decide +kernel
theorem dL_law_378 : decode code 378 = .ok (.iconst 3, 1) := by decide +kernel
theorem dL_law_379 : decode code 379 = .ok (.iadd, 1) := by decide +kernel
theorem dL_law_380 : decode code 380 = .ok (.iaload, 1) := by decide +kernel
theorem dL_law_381 : decode code 381 = .ok (.aload_n 0, 1) := by decide +kernel
theorem dL_law_382 : decode code 382 = .ok (.iload_n 3, 1) := by decide +kernel
theorem dL_law_383 : decode code 383 = .ok (.iconst 4, 1) := by decide +kernel
theorem dL_law_384 : decode code 384 = .ok (.iadd, 1) := by decide +kernel
theorem dL_law_385 : decode code 385 = .ok (.iaload, 1) := by decide +kernel
theorem dL_law_386 : decode code 386 = .ok (.aload_n 0, 1) := by decide +kernel
theorem dL_law_387 : decode code 387 = .ok (.iload_n 3, 1) := by decide +kernel
theorem dL_law_388 : decode code 388 = .ok (.iconst 5, 1) := by decide +kernel
theorem dL_law_389 : decode code 389 = .ok (.iadd, 1) := by decide +kernel
theorem dL_law_390 : decode code 390 = .ok (.iaload, 1) := by decide +kernel
theorem dL_law_391 : decode code 391 = .ok (.aload_n 0, 1) := by decide +kernel
theorem dL_law_392 : decode code 392 = .ok (.iload_n 3, 1) := by decide +kernel
theorem dL_law_393 : decode code 393 = .ok (.bipush 6, 2) := by decide +kernel
theorem dL_law_395 : decode code 395 = .ok (.iadd, 1) := by decide +kernel
theorem dL_law_396 : decode code 396 = .ok (.iaload, 1) := by decide +kernel
theorem dL_law_397 : decode code 397 = .ok (.aload_n 0, 1) := by decide +kernel
theorem dL_law_398 : decode code 398 = .ok (.iload_n 3, 1) := by decide +kernel
theorem dL_law_399 : decode code 399 = .ok (.bipush 7, 2) := by decide +kernel
theorem dL_law_401 : decode code 401 = .ok (.iadd, 1) := by decide +kernel
theorem dL_law_402 : decode code 402 = .ok (.iaload, 1) := by decide +kernel
theorem dL_law_403 : decode code 403 = .ok (.invokevirtual 36, 3) := by decide +kernel
theorem dL_law_406 : decode code 406 = .ok (.aload_n 2, 1) := by decide +kernel
theorem dL_law_407 : decode code 407 = .ok (.aload_n 0, 1) := by decide +kernel
theorem dL_law_408 : decode code 408 = .ok (.iload_n 3, 1) := by decide +kernel
theorem dL_law_409 : decode code 409 = .ok (.iconst 1, 1) := by decide +kernel
theorem dL_law_410 : decode code 410 = .ok (.iadd, 1) := by decide +kernel
theorem dL_law_411 : decode code 411 = .ok (.iaload, 1) := by decide +kernel
theorem dL_law_412 : decode code 412 = .ok (.aload_n 0, 1) := by decide +kernel
theorem dL_law_413 : decode code 413 = .ok (.iload_n 3, 1) := by decide +kernel
theorem dL_law_414 : decode code 414 = .ok (.iconst 2, 1) := by decide +kernel
theorem dL_law_415 : decode code 415 = .ok (.iadd, 1) := by decide +kernel
theorem dL_law_416 : decode code 416 = .ok (.iaload, 1) := by decide +kernel
theorem dL_law_417 : decode code 417 = .ok (.aload_n 0, 1) := by decide +kernel
theorem dL_law_418 : decode code 418 = .ok (.iload_n 3, 1) := by decide +kernel
theorem dL_law_419 : decode code 419 = .ok (.iconst 3, 1) := by decide +kernel
theorem dL_law_420 : decode code 420 = .ok (.iadd, 1) := by decide +kernel
theorem dL_law_421 : decode code 421 = .ok (.iaload, 1) := by decide +kernel
theorem dL_law_422 : decode code 422 = .ok (.aload_n 0, 1) := by decide +kernel
theorem dL_law_423 : decode code 423 = .ok (.iload_n 3, 1) := by decide +kernel
theorem dL_law_424 : decode code 424 = .ok (.iconst 4, 1) := by decide +kernel
theorem dL_law_425 : decode code 425 = .ok (.iadd, 1) := by decide +kernel
theorem dL_law_426 : decode code 426 = .ok (.iaload, 1) := by decide +kernel
theorem dL_law_427 : decode code 427 = .ok (.aload_n 0, 1) := by decide +kernel
theorem dL_law_428 : decode code 428 = .ok (.iload_n 3, 1) := by decide +kernel
theorem dL_law_429 : decode code 429 = .ok (.iconst 5, 1) := by decide +kernel
theorem dL_law_430 : decode code 430 = .ok (.iadd, 1) := by decide +kernel
theorem dL_law_431 : decode code 431 = .ok (.iaload, 1) := by decide +kernel
theorem dL_law_432 : decode code 432 = .ok (.aload_n 0, 1) := by decide +kernel
theorem dL_law_433 : decode code 433 = .ok (.iload_n 3, 1) := by decide +kernel
theorem dL_law_434 : decode code 434 = .ok (.bipush 6, 2) := by decide +kernel
theorem dL_law_436 : decode code 436 = .ok (.iadd, 1) := by decide +kernel
theorem dL_law_437 : decode code 437 = .ok (.iaload, 1) := by decide +kernel
theorem dL_law_438 : decode code 438 = .ok (.aload_n 0, 1) := by decide +kernel
theorem dL_law_439 : decode code 439 = .ok (.iload_n 3, 1) := by decide +kernel
theorem dL_law_440 : decode code 440 = .ok (.bipush 7, 2) := by decide +kernel
theorem dL_law_442 : decode code 442 = .ok (.iadd, 1) := by decide +kernel
theorem dL_law_443 : decode code 443 = .ok (.iaload, 1) := by decide +kernel
theorem dL_law_444 : decode code 444 = .ok (.invokevirtual 40, 3) := by decide +kernel
theorem dL_law_447 : decode code 447 = .ok (.lcmp, 1) := by decide +kernel
theorem dL_law_448 : decode code 448 = .ok (.ifCond .eq 887, 3) := by decide +kernel
theorem dL_law_451 : decode code 451 = .ok (.iconst 0, 1) := by decide +kernel
theorem dL_law_452 : decode code 452 = .ok (.ireturn, 1) := by decide +kernel
theorem dL_law_453 : decode code 453 = .ok (.aload_n 1, 1) := by decide +kernel
theorem dL_law_454 : decode code 454 = .ok (.aload_n 0, 1) := by decide +kernel
theorem dL_law_455 : decode code 455 = .ok (.iload_n 3, 1) := by decide +kernel
theorem dL_law_456 : decode code 456 = .ok (.iconst 1, 1) := by decide +kernel
theorem dL_law_457 : decode code 457 = .ok (.iadd, 1) := by decide +kernel
theorem dL_law_458 : decode code 458 = .ok (.iaload, 1) := by decide +kernel
theorem dL_law_459 : decode code 459 = .ok (.aload_n 0, 1) := by decide +kernel
theorem dL_law_460 : decode code 460 = .ok (.iload_n 3, 1) := by decide +kernel
theorem dL_law_461 : decode code 461 = .ok (.iconst 2, 1) := by decide +kernel
theorem dL_law_462 : decode code 462 = .ok (.iadd, 1) := by decide +kernel
theorem dL_law_463 : decode code 463 = .ok (.iaload, 1) := by decide +kernel
theorem dL_law_464 : decode code 464 = .ok (.aload_n 0, 1) := by decide +kernel
theorem dL_law_465 : decode code 465 = .ok (.iload_n 3, 1) := by decide +kernel
theorem dL_law_466 : decode code 466 = .ok (.iconst 3, 1) := by decide +kernel
theorem dL_law_467 : decode code 467 = .ok (.iadd, 1) := by decide +kernel
theorem dL_law_468 : decode code 468 = .ok (.iaload, 1) := by decide +kernel
theorem dL_law_469 : decode code 469 = .ok (.aload_n 0, 1) := by decide +kernel
theorem dL_law_470 : decode code 470 = .ok (.iload_n 3, 1) := by decide +kernel
theorem dL_law_471 : decode code 471 = .ok (.iconst 4, 1) := by decide +kernel
theorem dL_law_472 : decode code 472 = .ok (.iadd, 1) := by decide +kernel
theorem dL_law_473 : decode code 473 = .ok (.iaload, 1) := by decide +kernel
theorem dL_law_474 : decode code 474 = .ok (.aload_n 0, 1) := by decide +kernel
theorem dL_law_475 : decode code 475 = .ok (.iload_n 3, 1) := by decide +kernel
theorem dL_law_476 : decode code 476 = .ok (.iconst 5, 1) := by decide +kernel
theorem dL_law_477 : decode code 477 = .ok (.iadd, 1) := by decide +kernel
theorem dL_law_478 : decode code 478 = .ok (.iaload, 1) := by decide +kernel
theorem dL_law_479 : decode code 479 = .ok (.aload_n 0, 1) := by decide +kernel
theorem dL_law_480 : decode code 480 = .ok (.iload_n 3, 1) := by decide +kernel
theorem dL_law_481 : decode code 481 = .ok (.bipush 6, 2) := by decide +kernel
theorem dL_law_483 : decode code 483 = .ok (.iadd, 1) := by decide +kernel
theorem dL_law_484 : decode code 484 = .ok (.iaload, 1) := by decide +kernel
theorem dL_law_485 : decode code 485 = .ok (.invokevirtual 41, 3) := by decide +kernel
theorem dL_law_488 : decode code 488 = .ok (.aload_n 2, 1) := by decide +kernel
theorem dL_law_489 : decode code 489 = .ok (.aload_n 0, 1) := by decide +kernel
theorem dL_law_490 : decode code 490 = .ok (.iload_n 3, 1) := by decide +kernel
theorem dL_law_491 : decode code 491 = .ok (.iconst 1, 1) := by decide +kernel
theorem dL_law_492 : decode code 492 = .ok (.iadd, 1) := by decide +kernel
theorem dL_law_493 : decode code 493 = .ok (.iaload, 1) := by decide +kernel
theorem dL_law_494 : decode code 494 = .ok (.aload_n 0, 1) := by decide +kernel
theorem dL_law_495 : decode code 495 = .ok (.iload_n 3, 1) := by decide +kernel
theorem dL_law_496 : decode code 496 = .ok (.iconst 2, 1) := by decide +kernel
theorem dL_law_497 : decode code 497 = .ok (.iadd, 1) := by decide +kernel
theorem dL_law_498 : decode code 498 = .ok (.iaload, 1) := by decide +kernel
theorem dL_law_499 : decode code 499 = .ok (.aload_n 0, 1) := by decide +kernel
theorem dL_law_500 : decode code 500 = .ok (.iload_n 3, 1) := by decide +kernel
theorem dL_law_501 : decode code 501 = .ok (.iconst 3, 1) := by decide +kernel
theorem dL_law_502 : decode code 502 = .ok (.iadd, 1) := by decide +kernel
theorem dL_law_503 : decode code 503 = .ok (.iaload, 1) := by decide +kernel
theorem dL_law_504 : decode code 504 = .ok (.aload_n 0, 1) := by decide +kernel
theorem dL_law_505 : decode code 505 = .ok (.iload_n 3, 1) := by decide +kernel
theorem dL_law_506 : decode code 506 = .ok (.iconst 4, 1) := by decide +kernel
theorem dL_law_507 : decode code 507 = .ok (.iadd, 1) := by decide +kernel
theorem dL_law_508 : decode code 508 = .ok (.iaload, 1) := by decide +kernel
theorem dL_law_509 : decode code 509 = .ok (.aload_n 0, 1) := by decide +kernel
theorem dL_law_510 : decode code 510 = .ok (.iload_n 3, 1) := by decide +kernel
theorem dL_law_511 : decode code 511 = .ok (.iconst 5, 1) := by decide +kernel
theorem dL_law_512 : decode code 512 = .ok (.iadd, 1) := by decide +kernel
theorem dL_law_513 : decode code 513 = .ok (.iaload, 1) := by decide +kernel
theorem dL_law_514 : decode code 514 = .ok (.aload_n 0, 1) := by decide +kernel
theorem dL_law_515 : decode code 515 = .ok (.iload_n 3, 1) := by decide +kernel
theorem dL_law_516 : decode code 516 = .ok (.bipush 6, 2) := by decide +kernel
theorem dL_law_518 : decode code 518 = .ok (.iadd, 1) := by decide +kernel
theorem dL_law_519 : decode code 519 = .ok (.iaload, 1) := by decide +kernel
theorem dL_law_520 : decode code 520 = .ok (.invokevirtual 45, 3) := by decide +kernel
theorem dL_law_523 : decode code 523 = .ok (.lcmp, 1) := by decide +kernel
theorem dL_law_524 : decode code 524 = .ok (.ifCond .eq 811, 3) := by decide +kernel
theorem dL_law_527 : decode code 527 = .ok (.iconst 0, 1) := by decide +kernel
theorem dL_law_528 : decode code 528 = .ok (.ireturn, 1) := by decide +kernel
theorem dL_law_529 : decode code 529 = .ok (.aload_n 1, 1) := by decide +kernel
theorem dL_law_530 : decode code 530 = .ok (.aload_n 0, 1) := by decide +kernel
theorem dL_law_531 : decode code 531 = .ok (.iload_n 3, 1) := by decide +kernel
theorem dL_law_532 : decode code 532 = .ok (.iconst 1, 1) := by decide +kernel
theorem dL_law_533 : decode code 533 = .ok (.iadd, 1) := by decide +kernel
theorem dL_law_534 : decode code 534 = .ok (.iaload, 1) := by decide +kernel
theorem dL_law_535 : decode code 535 = .ok (.aload_n 0, 1) := by decide +kernel
theorem dL_law_536 : decode code 536 = .ok (.iload_n 3, 1) := by decide +kernel
theorem dL_law_537 : decode code 537 = .ok (.iconst 2, 1) := by decide +kernel
theorem dL_law_538 : decode code 538 = .ok (.iadd, 1) := by decide +kernel
theorem dL_law_539 : decode code 539 = .ok (.iaload, 1) := by decide +kernel
theorem dL_law_540 : decode code 540 = .ok (.aload_n 0, 1) := by decide +kernel
theorem dL_law_541 : decode code 541 = .ok (.iload_n 3, 1) := by decide +kernel
theorem dL_law_542 : decode code 542 = .ok (.iconst 3, 1) := by decide +kernel
theorem dL_law_543 : decode code 543 = .ok (.iadd, 1) := by decide +kernel
theorem dL_law_544 : decode code 544 = .ok (.iaload, 1) := by decide +kernel
theorem dL_law_545 : decode code 545 = .ok (.invokevirtual 46, 3) := by decide +kernel
theorem dL_law_548 : decode code 548 = .ok (.aload_n 2, 1) := by decide +kernel
theorem dL_law_549 : decode code 549 = .ok (.aload_n 0, 1) := by decide +kernel
theorem dL_law_550 : decode code 550 = .ok (.iload_n 3, 1) := by decide +kernel
theorem dL_law_551 : decode code 551 = .ok (.iconst 1, 1) := by decide +kernel
theorem dL_law_552 : decode code 552 = .ok (.iadd, 1) := by decide +kernel
theorem dL_law_553 : decode code 553 = .ok (.iaload, 1) := by decide +kernel
theorem dL_law_554 : decode code 554 = .ok (.aload_n 0, 1) := by decide +kernel
theorem dL_law_555 : decode code 555 = .ok (.iload_n 3, 1) := by decide +kernel
theorem dL_law_556 : decode code 556 = .ok (.iconst 2, 1) := by decide +kernel
theorem dL_law_557 : decode code 557 = .ok (.iadd, 1) := by decide +kernel
theorem dL_law_558 : decode code 558 = .ok (.iaload, 1) := by decide +kernel
theorem dL_law_559 : decode code 559 = .ok (.aload_n 0, 1) := by decide +kernel
theorem dL_law_560 : decode code 560 = .ok (.iload_n 3, 1) := by decide +kernel
theorem dL_law_561 : decode code 561 = .ok (.iconst 3, 1) := by decide +kernel
theorem dL_law_562 : decode code 562 = .ok (.iadd, 1) := by decide +kernel
theorem dL_law_563 : decode code 563 = .ok (.iaload, 1) := by decide +kernel
theorem dL_law_564 : decode code 564 = .ok (.invokevirtual 50, 3) := by decide +kernel
theorem dL_law_567 : decode code 567 = .ok (.lcmp, 1) := by decide +kernel
theorem dL_law_568 : decode code 568 = .ok (.ifCond .eq 767, 3) := by decide +kernel
theorem dL_law_571 : decode code 571 = .ok (.iconst 0, 1) := by decide +kernel
theorem dL_law_572 : decode code 572 = .ok (.ireturn, 1) := by decide +kernel
theorem dL_law_573 : decode code 573 = .ok (.aload_n 1, 1) := by decide +kernel
theorem dL_law_574 : decode code 574 = .ok (.aload_n 0, 1) := by decide +kernel
theorem dL_law_575 : decode code 575 = .ok (.iload_n 3, 1) := by decide +kernel
theorem dL_law_576 : decode code 576 = .ok (.iconst 1, 1) := by decide +kernel
theorem dL_law_577 : decode code 577 = .ok (.iadd, 1) := by decide +kernel
theorem dL_law_578 : decode code 578 = .ok (.iaload, 1) := by decide +kernel
theorem dL_law_579 : decode code 579 = .ok (.invokevirtual 51, 3) := by decide +kernel
theorem dL_law_582 : decode code 582 = .ok (.aload_n 2, 1) := by decide +kernel
theorem dL_law_583 : decode code 583 = .ok (.aload_n 0, 1) := by decide +kernel
theorem dL_law_584 : decode code 584 = .ok (.iload_n 3, 1) := by decide +kernel
theorem dL_law_585 : decode code 585 = .ok (.iconst 1, 1) := by decide +kernel
theorem dL_law_586 : decode code 586 = .ok (.iadd, 1) := by decide +kernel
theorem dL_law_587 : decode code 587 = .ok (.iaload, 1) := by decide +kernel
theorem dL_law_588 : decode code 588 = .ok (.invokevirtual 54, 3) := by decide +kernel
theorem dL_law_591 : decode code 591 = .ok (.if_icmp .eq 744, 3) := by decide +kernel
theorem dL_law_594 : decode code 594 = .ok (.iconst 0, 1) := by decide +kernel
theorem dL_law_595 : decode code 595 = .ok (.ireturn, 1) := by decide +kernel
theorem dL_law_596 : decode code 596 = .ok (.aload_n 1, 1) := by decide +kernel
theorem dL_law_597 : decode code 597 = .ok (.invokevirtual 55, 3) := by decide +kernel
theorem dL_law_600 : decode code 600 = .ok (.aload_n 2, 1) := by decide +kernel
theorem dL_law_601 : decode code 601 = .ok (.invokevirtual 59, 3) := by decide +kernel
theorem dL_law_604 : decode code 604 = .ok (.if_icmp .eq 731, 3) := by decide +kernel
theorem dL_law_607 : decode code 607 = .ok (.iconst 0, 1) := by decide +kernel
theorem dL_law_608 : decode code 608 = .ok (.ireturn, 1) := by decide +kernel
theorem dL_law_609 : decode code 609 = .ok (.aload_n 1, 1) := by decide +kernel
theorem dL_law_610 : decode code 610 = .ok (.invokevirtual 60, 3) := by decide +kernel
theorem dL_law_613 : decode code 613 = .ok (.aload_n 2, 1) := by decide +kernel
theorem dL_law_614 : decode code 614 = .ok (.invokevirtual 63, 3) := by decide +kernel
theorem dL_law_617 : decode code 617 = .ok (.if_icmp .eq 718, 3) := by decide +kernel
theorem dL_law_620 : decode code 620 = .ok (.iconst 0, 1) := by decide +kernel
theorem dL_law_621 : decode code 621 = .ok (.ireturn, 1) := by decide +kernel
theorem dL_law_622 : decode code 622 = .ok (.aload_n 1, 1) := by decide +kernel
theorem dL_law_623 : decode code 623 = .ok (.invokevirtual 64, 3) := by decide +kernel
theorem dL_law_626 : decode code 626 = .ok (.aload_n 2, 1) := by decide +kernel
theorem dL_law_627 : decode code 627 = .ok (.invokevirtual 67, 3) := by decide +kernel
theorem dL_law_630 : decode code 630 = .ok (.if_icmp .eq 705, 3) := by decide +kernel
theorem dL_law_633 : decode code 633 = .ok (.iconst 0, 1) := by decide +kernel
theorem dL_law_634 : decode code 634 = .ok (.ireturn, 1) := by decide +kernel
theorem dL_law_635 : decode code 635 = .ok (.aload_n 1, 1) := by decide +kernel
theorem dL_law_636 : decode code 636 = .ok (.aload_n 0, 1) := by decide +kernel
theorem dL_law_637 : decode code 637 = .ok (.iload_n 3, 1) := by decide +kernel
theorem dL_law_638 : decode code 638 = .ok (.iconst 1, 1) := by decide +kernel
theorem dL_law_639 : decode code 639 = .ok (.iadd, 1) := by decide +kernel
theorem dL_law_640 : decode code 640 = .ok (.iaload, 1) := by decide +kernel
theorem dL_law_641 : decode code 641 = .ok (.invokevirtual 68, 3) := by decide +kernel
theorem dL_law_644 : decode code 644 = .ok (.aload_n 2, 1) := by decide +kernel
theorem dL_law_645 : decode code 645 = .ok (.aload_n 0, 1) := by decide +kernel
theorem dL_law_646 : decode code 646 = .ok (.iload_n 3, 1) := by decide +kernel
theorem dL_law_647 : decode code 647 = .ok (.iconst 1, 1) := by decide +kernel
theorem dL_law_648 : decode code 648 = .ok (.iadd, 1) := by decide +kernel
theorem dL_law_649 : decode code 649 = .ok (.iaload, 1) := by decide +kernel
theorem dL_law_650 : decode code 650 = .ok (.invokevirtual 71, 3) := by decide +kernel
theorem dL_law_653 : decode code 653 = .ok (.if_icmp .eq 682, 3) := by decide +kernel
theorem dL_law_656 : decode code 656 = .ok (.iconst 0, 1) := by decide +kernel
theorem dL_law_657 : decode code 657 = .ok (.ireturn, 1) := by decide +kernel
theorem dL_law_658 : decode code 658 = .ok (.aload_n 1, 1) := by decide +kernel
theorem dL_law_659 : decode code 659 = .ok (.aload_n 0, 1) := by decide +kernel
theorem dL_law_660 : decode code 660 = .ok (.iload_n 3, 1) := by decide +kernel
theorem dL_law_661 : decode code 661 = .ok (.iconst 1, 1) := by decide +kernel
theorem dL_law_662 : decode code 662 = .ok (.iadd, 1) := by decide +kernel
theorem dL_law_663 : decode code 663 = .ok (.iaload, 1) := by decide +kernel
theorem dL_law_664 : decode code 664 = .ok (.aload_n 0, 1) := by decide +kernel
theorem dL_law_665 : decode code 665 = .ok (.iload_n 3, 1) := by decide +kernel
theorem dL_law_666 : decode code 666 = .ok (.iconst 2, 1) := by decide +kernel
theorem dL_law_667 : decode code 667 = .ok (.iadd, 1) := by decide +kernel
theorem dL_law_668 : decode code 668 = .ok (.iaload, 1) := by decide +kernel
theorem dL_law_669 : decode code 669 = .ok (.invokevirtual 72, 3) := by decide +kernel
theorem dL_law_672 : decode code 672 = .ok (.aload_n 2, 1) := by decide +kernel
theorem dL_law_673 : decode code 673 = .ok (.aload_n 0, 1) := by decide +kernel
theorem dL_law_674 : decode code 674 = .ok (.iload_n 3, 1) := by decide +kernel
theorem dL_law_675 : decode code 675 = .ok (.iconst 1, 1) := by decide +kernel
theorem dL_law_676 : decode code 676 = .ok (.iadd, 1) := by decide +kernel
theorem dL_law_677 : decode code 677 = .ok (.iaload, 1) := by decide +kernel
theorem dL_law_678 : decode code 678 = .ok (.aload_n 0, 1) := by decide +kernel
theorem dL_law_679 : decode code 679 = .ok (.iload_n 3, 1) := by decide +kernel
theorem dL_law_680 : decode code 680 = .ok (.iconst 2, 1) := by decide +kernel
theorem dL_law_681 : decode code 681 = .ok (.iadd, 1) := by decide +kernel
theorem dL_law_682 : decode code 682 = .ok (.iaload, 1) := by decide +kernel
theorem dL_law_683 : decode code 683 = .ok (.invokevirtual 75, 3) := by decide +kernel
theorem dL_law_686 : decode code 686 = .ok (.if_icmp .eq 649, 3) := by decide +kernel
theorem dL_law_689 : decode code 689 = .ok (.iconst 0, 1) := by decide +kernel
theorem dL_law_690 : decode code 690 = .ok (.ireturn, 1) := by decide +kernel
theorem dL_law_691 : decode code 691 = .ok (.aload_n 1, 1) := by decide +kernel
theorem dL_law_692 : decode code 692 = .ok (.aload_n 0, 1) := by decide +kernel
theorem dL_law_693 : decode code 693 = .ok (.iload_n 3, 1) := by decide +kernel
theorem dL_law_694 : decode code 694 = .ok (.iconst 1, 1) := by decide +kernel
theorem dL_law_695 : decode code 695 = .ok (.iadd, 1) := by decide +kernel
theorem dL_law_696 : decode code 696 = .ok (.iaload, 1) := by decide +kernel
theorem dL_law_697 : decode code 697 = .ok (.aload_n 0, 1) := by decide +kernel
theorem dL_law_698 : decode code 698 = .ok (.iload_n 3, 1) := by decide +kernel
theorem dL_law_699 : decode code 699 = .ok (.iconst 2, 1) := by decide +kernel
theorem dL_law_700 : decode code 700 = .ok (.iadd, 1) := by decide +kernel
theorem dL_law_701 : decode code 701 = .ok (.iaload, 1) := by decide +kernel
theorem dL_law_702 : decode code 702 = .ok (.invokevirtual 76, 3) := by decide +kernel
theorem dL_law_705 : decode code 705 = .ok (.aload_n 2, 1) := by decide +kernel
theorem dL_law_706 : decode code 706 = .ok (.aload_n 0, 1) := by decide +kernel
theorem dL_law_707 : decode code 707 = .ok (.iload_n 3, 1) := by decide +kernel
theorem dL_law_708 : decode code 708 = .ok (.iconst 1, 1) := by decide +kernel
theorem dL_law_709 : decode code 709 = .ok (.iadd, 1) := by decide +kernel
theorem dL_law_710 : decode code 710 = .ok (.iaload, 1) := by decide +kernel
theorem dL_law_711 : decode code 711 = .ok (.aload_n 0, 1) := by decide +kernel
theorem dL_law_712 : decode code 712 = .ok (.iload_n 3, 1) := by decide +kernel
theorem dL_law_713 : decode code 713 = .ok (.iconst 2, 1) := by decide +kernel
theorem dL_law_714 : decode code 714 = .ok (.iadd, 1) := by decide +kernel
theorem dL_law_715 : decode code 715 = .ok (.iaload, 1) := by decide +kernel
theorem dL_law_716 : decode code 716 = .ok (.invokevirtual 80, 3) := by decide +kernel
theorem dL_law_719 : decode code 719 = .ok (.lcmp, 1) := by decide +kernel
theorem dL_law_720 : decode code 720 = .ok (.ifCond .eq 615, 3) := by decide +kernel
theorem dL_law_723 : decode code 723 = .ok (.iconst 0, 1) := by decide +kernel
theorem dL_law_724 : decode code 724 = .ok (.ireturn, 1) := by decide +kernel
theorem dL_law_725 : decode code 725 = .ok (.aload_n 1, 1) := by decide +kernel
theorem dL_law_726 : decode code 726 = .ok (.aload_n 0, 1) := by decide +kernel
theorem dL_law_727 : decode code 727 = .ok (.iload_n 3, 1) := by decide +kernel
theorem dL_law_728 : decode code 728 = .ok (.iconst 1, 1) := by decide +kernel
theorem dL_law_729 : decode code 729 = .ok (.iadd, 1) := by decide +kernel
theorem dL_law_730 : decode code 730 = .ok (.iaload, 1) := by decide +kernel
theorem dL_law_731 : decode code 731 = .ok (.aload_n 0, 1) := by decide +kernel
theorem dL_law_732 : decode code 732 = .ok (.iload_n 3, 1) := by decide +kernel
theorem dL_law_733 : decode code 733 = .ok (.iconst 2, 1) := by decide +kernel
theorem dL_law_734 : decode code 734 = .ok (.iadd, 1) := by decide +kernel
theorem dL_law_735 : decode code 735 = .ok (.iaload, 1) := by decide +kernel
theorem dL_law_736 : decode code 736 = .ok (.aload_n 0, 1) := by decide +kernel
theorem dL_law_737 : decode code 737 = .ok (.iload_n 3, 1) := by decide +kernel
theorem dL_law_738 : decode code 738 = .ok (.iconst 3, 1) := by decide +kernel
theorem dL_law_739 : decode code 739 = .ok (.iadd, 1) := by decide +kernel
theorem dL_law_740 : decode code 740 = .ok (.iaload, 1) := by decide +kernel
theorem dL_law_741 : decode code 741 = .ok (.invokevirtual 81, 3) := by decide +kernel
theorem dL_law_744 : decode code 744 = .ok (.aload_n 2, 1) := by decide +kernel
theorem dL_law_745 : decode code 745 = .ok (.aload_n 0, 1) := by decide +kernel
theorem dL_law_746 : decode code 746 = .ok (.iload_n 3, 1) := by decide +kernel
theorem dL_law_747 : decode code 747 = .ok (.iconst 1, 1) := by decide +kernel
theorem dL_law_748 : decode code 748 = .ok (.iadd, 1) := by decide +kernel
theorem dL_law_749 : decode code 749 = .ok (.iaload, 1) := by decide +kernel
theorem dL_law_750 : decode code 750 = .ok (.aload_n 0, 1) := by decide +kernel
theorem dL_law_751 : decode code 751 = .ok (.iload_n 3, 1) := by decide +kernel
theorem dL_law_752 : decode code 752 = .ok (.iconst 2, 1) := by decide +kernel
theorem dL_law_753 : decode code 753 = .ok (.iadd, 1) := by decide +kernel
theorem dL_law_754 : decode code 754 = .ok (.iaload, 1) := by decide +kernel
theorem dL_law_755 : decode code 755 = .ok (.aload_n 0, 1) := by decide +kernel
theorem dL_law_756 : decode code 756 = .ok (.iload_n 3, 1) := by decide +kernel
theorem dL_law_757 : decode code 757 = .ok (.iconst 3, 1) := by decide +kernel
theorem dL_law_758 : decode code 758 = .ok (.iadd, 1) := by decide +kernel
theorem dL_law_759 : decode code 759 = .ok (.iaload, 1) := by decide +kernel
theorem dL_law_760 : decode code 760 = .ok (.invokevirtual 84, 3) := by decide +kernel
theorem dL_law_763 : decode code 763 = .ok (.lcmp, 1) := by decide +kernel
theorem dL_law_764 : decode code 764 = .ok (.ifCond .eq 571, 3) := by decide +kernel
theorem dL_law_767 : decode code 767 = .ok (.iconst 0, 1) := by decide +kernel
theorem dL_law_768 : decode code 768 = .ok (.ireturn, 1) := by decide +kernel
theorem dL_law_769 : decode code 769 = .ok (.aload_n 1, 1) := by decide +kernel
theorem dL_law_770 : decode code 770 = .ok (.aload_n 0, 1) := by decide +kernel
theorem dL_law_771 : decode code 771 = .ok (.iload_n 3, 1) := by decide +kernel
theorem dL_law_772 : decode code 772 = .ok (.iconst 1, 1) := by decide +kernel
theorem dL_law_773 : decode code 773 = .ok (.iadd, 1) := by decide +kernel
theorem dL_law_774 : decode code 774 = .ok (.iaload, 1) := by decide +kernel
theorem dL_law_775 : decode code 775 = .ok (.aload_n 0, 1) := by decide +kernel
theorem dL_law_776 : decode code 776 = .ok (.iload_n 3, 1) := by decide +kernel
theorem dL_law_777 : decode code 777 = .ok (.iconst 2, 1) := by decide +kernel
theorem dL_law_778 : decode code 778 = .ok (.iadd, 1) := by decide +kernel
theorem dL_law_779 : decode code 779 = .ok (.iaload, 1) := by decide +kernel
theorem dL_law_780 : decode code 780 = .ok (.aload_n 0, 1) := by decide +kernel
theorem dL_law_781 : decode code 781 = .ok (.iload_n 3, 1) := by decide +kernel
theorem dL_law_782 : decode code 782 = .ok (.iconst 3, 1) := by decide +kernel
theorem dL_law_783 : decode code 783 = .ok (.iadd, 1) := by decide +kernel
theorem dL_law_784 : decode code 784 = .ok (.iaload, 1) := by decide +kernel
theorem dL_law_785 : decode code 785 = .ok (.aload_n 0, 1) := by decide +kernel
theorem dL_law_786 : decode code 786 = .ok (.iload_n 3, 1) := by decide +kernel
theorem dL_law_787 : decode code 787 = .ok (.iconst 4, 1) := by decide +kernel
theorem dL_law_788 : decode code 788 = .ok (.iadd, 1) := by decide +kernel
theorem dL_law_789 : decode code 789 = .ok (.iaload, 1) := by decide +kernel
theorem dL_law_790 : decode code 790 = .ok (.invokevirtual 85, 3) := by decide +kernel
theorem dL_law_793 : decode code 793 = .ok (.aload_n 2, 1) := by decide +kernel
theorem dL_law_794 : decode code 794 = .ok (.aload_n 0, 1) := by decide +kernel
theorem dL_law_795 : decode code 795 = .ok (.iload_n 3, 1) := by decide +kernel
theorem dL_law_796 : decode code 796 = .ok (.iconst 1, 1) := by decide +kernel
theorem dL_law_797 : decode code 797 = .ok (.iadd, 1) := by decide +kernel
theorem dL_law_798 : decode code 798 = .ok (.iaload, 1) := by decide +kernel
theorem dL_law_799 : decode code 799 = .ok (.aload_n 0, 1) := by decide +kernel
theorem dL_law_800 : decode code 800 = .ok (.iload_n 3, 1) := by decide +kernel
theorem dL_law_801 : decode code 801 = .ok (.iconst 2, 1) := by decide +kernel
theorem dL_law_802 : decode code 802 = .ok (.iadd, 1) := by decide +kernel
theorem dL_law_803 : decode code 803 = .ok (.iaload, 1) := by decide +kernel
theorem dL_law_804 : decode code 804 = .ok (.aload_n 0, 1) := by decide +kernel
theorem dL_law_805 : decode code 805 = .ok (.iload_n 3, 1) := by decide +kernel
theorem dL_law_806 : decode code 806 = .ok (.iconst 3, 1) := by decide +kernel
theorem dL_law_807 : decode code 807 = .ok (.iadd, 1) := by decide +kernel
theorem dL_law_808 : decode code 808 = .ok (.iaload, 1) := by decide +kernel
theorem dL_law_809 : decode code 809 = .ok (.aload_n 0, 1) := by decide +kernel
theorem dL_law_810 : decode code 810 = .ok (.iload_n 3, 1) := by decide +kernel
theorem dL_law_811 : decode code 811 = .ok (.iconst 4, 1) := by decide +kernel
theorem dL_law_812 : decode code 812 = .ok (.iadd, 1) := by decide +kernel
theorem dL_law_813 : decode code 813 = .ok (.iaload, 1) := by decide +kernel
theorem dL_law_814 : decode code 814 = .ok (.invokevirtual 89, 3) := by decide +kernel
theorem dL_law_817 : decode code 817 = .ok (.lcmp, 1) := by decide +kernel
theorem dL_law_818 : decode code 818 = .ok (.ifCond .eq 517, 3) := by decide +kernel
theorem dL_law_821 : decode code 821 = .ok (.iconst 0, 1) := by decide +kernel
theorem dL_law_822 : decode code 822 = .ok (.ireturn, 1) := by decide +kernel
theorem dL_law_823 : decode code 823 = .ok (.aload_n 1, 1) := by decide +kernel
theorem dL_law_824 : decode code 824 = .ok (.aload_n 0, 1) := by decide +kernel
theorem dL_law_825 : decode code 825 = .ok (.iload_n 3, 1) := by decide +kernel
theorem dL_law_826 : decode code 826 = .ok (.iconst 1, 1) := by decide +kernel
theorem dL_law_827 : decode code 827 = .ok (.iadd, 1) := by decide +kernel
theorem dL_law_828 : decode code 828 = .ok (.iaload, 1) := by decide +kernel
theorem dL_law_829 : decode code 829 = .ok (.aload_n 0, 1) := by decide +kernel
theorem dL_law_830 : decode code 830 = .ok (.iload_n 3, 1) := by decide +kernel
theorem dL_law_831 : decode code 831 = .ok (.iconst 2, 1) := by decide +kernel
theorem dL_law_832 : decode code 832 = .ok (.iadd, 1) := by decide +kernel
theorem dL_law_833 : decode code 833 = .ok (.iaload, 1) := by decide +kernel
theorem dL_law_834 : decode code 834 = .ok (.invokevirtual 90, 3) := by decide +kernel
theorem dL_law_837 : decode code 837 = .ok (.aload_n 2, 1) := by decide +kernel
theorem dL_law_838 : decode code 838 = .ok (.aload_n 0, 1) := by decide +kernel
theorem dL_law_839 : decode code 839 = .ok (.iload_n 3, 1) := by decide +kernel
theorem dL_law_840 : decode code 840 = .ok (.iconst 1, 1) := by decide +kernel
theorem dL_law_841 : decode code 841 = .ok (.iadd, 1) := by decide +kernel
theorem dL_law_842 : decode code 842 = .ok (.iaload, 1) := by decide +kernel
theorem dL_law_843 : decode code 843 = .ok (.aload_n 0, 1) := by decide +kernel
theorem dL_law_844 : decode code 844 = .ok (.iload_n 3, 1) := by decide +kernel
theorem dL_law_845 : decode code 845 = .ok (.iconst 2, 1) := by decide +kernel
theorem dL_law_846 : decode code 846 = .ok (.iadd, 1) := by decide +kernel
theorem dL_law_847 : decode code 847 = .ok (.iaload, 1) := by decide +kernel
theorem dL_law_848 : decode code 848 = .ok (.invokevirtual 93, 3) := by decide +kernel
theorem dL_law_851 : decode code 851 = .ok (.if_icmp .eq 484, 3) := by decide +kernel
theorem dL_law_854 : decode code 854 = .ok (.iconst 0, 1) := by decide +kernel
theorem dL_law_855 : decode code 855 = .ok (.ireturn, 1) := by decide +kernel
theorem dL_law_856 : decode code 856 = .ok (.aload_n 1, 1) := by decide +kernel
theorem dL_law_857 : decode code 857 = .ok (.aload_n 0, 1) := by decide +kernel
theorem dL_law_858 : decode code 858 = .ok (.iload_n 3, 1) := by decide +kernel
theorem dL_law_859 : decode code 859 = .ok (.iconst 1, 1) := by decide +kernel
theorem dL_law_860 : decode code 860 = .ok (.iadd, 1) := by decide +kernel
theorem dL_law_861 : decode code 861 = .ok (.iaload, 1) := by decide +kernel
theorem dL_law_862 : decode code 862 = .ok (.invokevirtual 94, 3) := by decide +kernel
theorem dL_law_865 : decode code 865 = .ok (.aload_n 2, 1) := by decide +kernel
theorem dL_law_866 : decode code 866 = .ok (.aload_n 0, 1) := by decide +kernel
theorem dL_law_867 : decode code 867 = .ok (.iload_n 3, 1) := by decide +kernel
theorem dL_law_868 : decode code 868 = .ok (.iconst 1, 1) := by decide +kernel
theorem dL_law_869 : decode code 869 = .ok (.iadd, 1) := by decide +kernel
theorem dL_law_870 : decode code 870 = .ok (.iaload, 1) := by decide +kernel
theorem dL_law_871 : decode code 871 = .ok (.invokevirtual 97, 3) := by decide +kernel
theorem dL_law_874 : decode code 874 = .ok (.if_icmp .eq 461, 3) := by decide +kernel
theorem dL_law_877 : decode code 877 = .ok (.iconst 0, 1) := by decide +kernel
theorem dL_law_878 : decode code 878 = .ok (.ireturn, 1) := by decide +kernel
theorem dL_law_879 : decode code 879 = .ok (.aload_n 1, 1) := by decide +kernel
theorem dL_law_880 : decode code 880 = .ok (.invokevirtual 98, 3) := by decide +kernel
theorem dL_law_883 : decode code 883 = .ok (.aload_n 2, 1) := by decide +kernel
theorem dL_law_884 : decode code 884 = .ok (.invokevirtual 101, 3) := by decide +kernel
theorem dL_law_887 : decode code 887 = .ok (.if_icmp .eq 448, 3) := by decide +kernel
theorem dL_law_890 : decode code 890 = .ok (.iconst 0, 1) := by decide +kernel
theorem dL_law_891 : decode code 891 = .ok (.ireturn, 1) := by decide +kernel
theorem dL_law_892 : decode code 892 = .ok (.aload_n 1, 1) := by decide +kernel
theorem dL_law_893 : decode code 893 = .ok (.invokevirtual 102, 3) := by decide +kernel
theorem dL_law_896 : decode code 896 = .ok (.aload_n 2, 1) := by decide +kernel
theorem dL_law_897 : decode code 897 = .ok (.invokevirtual 105, 3) := by decide +kernel
theorem dL_law_900 : decode code 900 = .ok (.if_icmp .eq 435, 3) := by decide +kernel
theorem dL_law_903 : decode code 903 = .ok (.iconst 0, 1) := by decide +kernel
theorem dL_law_904 : decode code 904 = .ok (.ireturn, 1) := by decide +kernel
theorem dL_law_905 : decode code 905 = .ok (.aload_n 1, 1) := by decide +kernel
theorem dL_law_906 : decode code 906 = .ok (.aload_n 0, 1) := by decide +kernel
theorem dL_law_907 : decode code 907 = .ok (.iload_n 3, 1) := by decide +kernel
theorem dL_law_908 : decode code 908 = .ok (.iconst 1, 1) := by decide +kernel
theorem dL_law_909 : decode code 909 = .ok (.iadd, 1) := by decide +kernel
theorem dL_law_910 : decode code 910 = .ok (.iaload, 1) := by decide +kernel
theorem dL_law_911 : decode code 911 = .ok (.aload_n 0, 1) := by decide +kernel
theorem dL_law_912 : decode code 912 = .ok (.iload_n 3, 1) := by decide +kernel
theorem dL_law_913 : decode code 913 = .ok (.iconst 2, 1) := by decide +kernel
theorem dL_law_914 : decode code 914 = .ok (.iadd, 1) := by decide +kernel
theorem dL_law_915 : decode code 915 = .ok (.iaload, 1) := by decide +kernel
theorem dL_law_916 : decode code 916 = .ok (.aload_n 0, 1) := by decide +kernel
theorem dL_law_917 : decode code 917 = .ok (.iload_n 3, 1) := by decide +kernel
theorem dL_law_918 : decode code 918 = .ok (.iconst 3, 1) := by decide +kernel
theorem dL_law_919 : decode code 919 = .ok (.iadd, 1) := by decide +kernel
theorem dL_law_920 : decode code 920 = .ok (.iaload, 1) := by decide +kernel
theorem dL_law_921 : decode code 921 = .ok (.invokevirtual 106, 3) := by decide +kernel
theorem dL_law_924 : decode code 924 = .ok (.aload_n 2, 1) := by decide +kernel
theorem dL_law_925 : decode code 925 = .ok (.aload_n 0, 1) := by decide +kernel
theorem dL_law_926 : decode code 926 = .ok (.iload_n 3, 1) := by decide +kernel
theorem dL_law_927 : decode code 927 = .ok (.iconst 1, 1) := by decide +kernel
theorem dL_law_928 : decode code 928 = .ok (.iadd, 1) := by decide +kernel
theorem dL_law_929 : decode code 929 = .ok (.iaload, 1) := by decide +kernel
theorem dL_law_930 : decode code 930 = .ok (.aload_n 0, 1) := by decide +kernel
theorem dL_law_931 : decode code 931 = .ok (.iload_n 3, 1) := by decide +kernel
theorem dL_law_932 : decode code 932 = .ok (.iconst 2, 1) := by decide +kernel
theorem dL_law_933 : decode code 933 = .ok (.iadd, 1) := by decide +kernel
theorem dL_law_934 : decode code 934 = .ok (.iaload, 1) := by decide +kernel
theorem dL_law_935 : decode code 935 = .ok (.aload_n 0, 1) := by decide +kernel
theorem dL_law_936 : decode code 936 = .ok (.iload_n 3, 1) := by decide +kernel
theorem dL_law_937 : decode code 937 = .ok (.iconst 3, 1) := by decide +kernel
theorem dL_law_938 : decode code 938 = .ok (.iadd, 1) := by decide +kernel
theorem dL_law_939 : decode code 939 = .ok (.iaload, 1) := by decide +kernel
theorem dL_law_940 : decode code 940 = .ok (.invokevirtual 109, 3) := by decide +kernel
theorem dL_law_943 : decode code 943 = .ok (.lcmp, 1) := by decide +kernel
theorem dL_law_944 : decode code 944 = .ok (.ifCond .eq 391, 3) := by decide +kernel
theorem dL_law_947 : decode code 947 = .ok (.iconst 0, 1) := by decide +kernel
theorem dL_law_948 : decode code 948 = .ok (.ireturn, 1) := by decide +kernel
theorem dL_law_949 : decode code 949 = .ok (.aload_n 1, 1) := by decide +kernel
theorem dL_law_950 : decode code 950 = .ok (.aload_n 0, 1) := by decide +kernel
theorem dL_law_951 : decode code 951 = .ok (.iload_n 3, 1) := by decide +kernel
theorem dL_law_952 : decode code 952 = .ok (.iconst 1, 1) := by decide +kernel
theorem dL_law_953 : decode code 953 = .ok (.iadd, 1) := by decide +kernel
theorem dL_law_954 : decode code 954 = .ok (.iaload, 1) := by decide +kernel
theorem dL_law_955 : decode code 955 = .ok (.aload_n 0, 1) := by decide +kernel
theorem dL_law_956 : decode code 956 = .ok (.iload_n 3, 1) := by decide +kernel
theorem dL_law_957 : decode code 957 = .ok (.iconst 2, 1) := by decide +kernel
theorem dL_law_958 : decode code 958 = .ok (.iadd, 1) := by decide +kernel
theorem dL_law_959 : decode code 959 = .ok (.iaload, 1) := by decide +kernel
theorem dL_law_960 : decode code 960 = .ok (.aload_n 0, 1) := by decide +kernel
theorem dL_law_961 : decode code 961 = .ok (.iload_n 3, 1) := by decide +kernel
theorem dL_law_962 : decode code 962 = .ok (.iconst 3, 1) := by decide +kernel
theorem dL_law_963 : decode code 963 = .ok (.iadd, 1) := by decide +kernel
theorem dL_law_964 : decode code 964 = .ok (.iaload, 1) := by decide +kernel
theorem dL_law_965 : decode code 965 = .ok (.aload_n 0, 1) := by decide +kernel
theorem dL_law_966 : decode code 966 = .ok (.iload_n 3, 1) := by decide +kernel
theorem dL_law_967 : decode code 967 = .ok (.iconst 4, 1) := by decide +kernel
theorem dL_law_968 : decode code 968 = .ok (.iadd, 1) := by decide +kernel
theorem dL_law_969 : decode code 969 = .ok (.iaload, 1) := by decide +kernel
theorem dL_law_970 : decode code 970 = .ok (.invokevirtual 110, 3) := by decide +kernel
theorem dL_law_973 : decode code 973 = .ok (.aload_n 2, 1) := by decide +kernel
theorem dL_law_974 : decode code 974 = .ok (.aload_n 0, 1) := by decide +kernel
theorem dL_law_975 : decode code 975 = .ok (.iload_n 3, 1) := by decide +kernel
theorem dL_law_976 : decode code 976 = .ok (.iconst 1, 1) := by decide +kernel
theorem dL_law_977 : decode code 977 = .ok (.iadd, 1) := by decide +kernel
theorem dL_law_978 : decode code 978 = .ok (.iaload, 1) := by decide +kernel
theorem dL_law_979 : decode code 979 = .ok (.aload_n 0, 1) := by decide +kernel
theorem dL_law_980 : decode code 980 = .ok (.iload_n 3, 1) := by decide +kernel
theorem dL_law_981 : decode code 981 = .ok (.iconst 2, 1) := by decide +kernel
theorem dL_law_982 : decode code 982 = .ok (.iadd, 1) := by decide +kernel
theorem dL_law_983 : decode code 983 = .ok (.iaload, 1) := by decide +kernel
theorem dL_law_984 : decode code 984 = .ok (.aload_n 0, 1) := by decide +kernel
theorem dL_law_985 : decode code 985 = .ok (.iload_n 3, 1) := by decide +kernel
theorem dL_law_986 : decode code 986 = .ok (.iconst 3, 1) := by decide +kernel
theorem dL_law_987 : decode code 987 = .ok (.iadd, 1) := by decide +kernel
theorem dL_law_988 : decode code 988 = .ok (.iaload, 1) := by decide +kernel
theorem dL_law_989 : decode code 989 = .ok (.aload_n 0, 1) := by decide +kernel
theorem dL_law_990 : decode code 990 = .ok (.iload_n 3, 1) := by decide +kernel
theorem dL_law_991 : decode code 991 = .ok (.iconst 4, 1) := by decide +kernel
theorem dL_law_992 : decode code 992 = .ok (.iadd, 1) := by decide +kernel
theorem dL_law_993 : decode code 993 = .ok (.iaload, 1) := by decide +kernel
theorem dL_law_994 : decode code 994 = .ok (.invokevirtual 113, 3) := by decide +kernel
theorem dL_law_997 : decode code 997 = .ok (.lcmp, 1) := by decide +kernel
theorem dL_law_998 : decode code 998 = .ok (.ifCond .eq 337, 3) := by decide +kernel
theorem dL_law_1001 : decode code 1001 = .ok (.iconst 0, 1) := by decide +kernel
theorem dL_law_1002 : decode code 1002 = .ok (.ireturn, 1) := by decide +kernel
theorem dL_law_1003 : decode code 1003 = .ok (.aload_n 1, 1) := by decide +kernel
theorem dL_law_1004 : decode code 1004 = .ok (.aload_n 0, 1) := by decide +kernel
theorem dL_law_1005 : decode code 1005 = .ok (.iload_n 3, 1) := by decide +kernel
theorem dL_law_1006 : decode code 1006 = .ok (.iconst 1, 1) := by decide +kernel
theorem dL_law_1007 : decode code 1007 = .ok (.iadd, 1) := by decide +kernel
theorem dL_law_1008 : decode code 1008 = .ok (.iaload, 1) := by decide +kernel
theorem dL_law_1009 : decode code 1009 = .ok (.aload_n 0, 1) := by decide +kernel
theorem dL_law_1010 : decode code 1010 = .ok (.iload_n 3, 1) := by decide +kernel
theorem dL_law_1011 : decode code 1011 = .ok (.iconst 2, 1) := by decide +kernel
theorem dL_law_1012 : decode code 1012 = .ok (.iadd, 1) := by decide +kernel
theorem dL_law_1013 : decode code 1013 = .ok (.iaload, 1) := by decide +kernel
theorem dL_law_1014 : decode code 1014 = .ok (.aload_n 0, 1) := by decide +kernel
theorem dL_law_1015 : decode code 1015 = .ok (.iload_n 3, 1) := by decide +kernel
theorem dL_law_1016 : decode code 1016 = .ok (.iconst 3, 1) := by decide +kernel
theorem dL_law_1017 : decode code 1017 = .ok (.iadd, 1) := by decide +kernel
theorem dL_law_1018 : decode code 1018 = .ok (.iaload, 1) := by decide +kernel
theorem dL_law_1019 : decode code 1019 = .ok (.aload_n 0, 1) := by decide +kernel
theorem dL_law_1020 : decode code 1020 = .ok (.iload_n 3, 1) := by decide +kernel
theorem dL_law_1021 : decode code 1021 = .ok (.iconst 4, 1) := by decide +kernel
theorem dL_law_1022 : decode code 1022 = .ok (.iadd, 1) := by decide +kernel
theorem dL_law_1023 : decode code 1023 = .ok (.iaload, 1) := by decide +kernel
theorem dL_law_1024 : decode code 1024 = .ok (.invokevirtual 114, 3) := by decide +kernel
theorem dL_law_1027 : decode code 1027 = .ok (.aload_n 2, 1) := by decide +kernel
theorem dL_law_1028 : decode code 1028 = .ok (.aload_n 0, 1) := by decide +kernel
theorem dL_law_1029 : decode code 1029 = .ok (.iload_n 3, 1) := by decide +kernel
theorem dL_law_1030 : decode code 1030 = .ok (.iconst 1, 1) := by decide +kernel
theorem dL_law_1031 : decode code 1031 = .ok (.iadd, 1) := by decide +kernel
theorem dL_law_1032 : decode code 1032 = .ok (.iaload, 1) := by decide +kernel
theorem dL_law_1033 : decode code 1033 = .ok (.aload_n 0, 1) := by decide +kernel
theorem dL_law_1034 : decode code 1034 = .ok (.iload_n 3, 1) := by decide +kernel
theorem dL_law_1035 : decode code 1035 = .ok (.iconst 2, 1) := by decide +kernel
theorem dL_law_1036 : decode code 1036 = .ok (.iadd, 1) := by decide +kernel
theorem dL_law_1037 : decode code 1037 = .ok (.iaload, 1) := by decide +kernel
theorem dL_law_1038 : decode code 1038 = .ok (.aload_n 0, 1) := by decide +kernel
theorem dL_law_1039 : decode code 1039 = .ok (.iload_n 3, 1) := by decide +kernel
theorem dL_law_1040 : decode code 1040 = .ok (.iconst 3, 1) := by decide +kernel
theorem dL_law_1041 : decode code 1041 = .ok (.iadd, 1) := by decide +kernel
theorem dL_law_1042 : decode code 1042 = .ok (.iaload, 1) := by decide +kernel
theorem dL_law_1043 : decode code 1043 = .ok (.aload_n 0, 1) := by decide +kernel
theorem dL_law_1044 : decode code 1044 = .ok (.iload_n 3, 1) := by decide +kernel
theorem dL_law_1045 : decode code 1045 = .ok (.iconst 4, 1) := by decide +kernel
theorem dL_law_1046 : decode code 1046 = .ok (.iadd, 1) := by decide +kernel
theorem dL_law_1047 : decode code 1047 = .ok (.iaload, 1) := by decide +kernel
theorem dL_law_1048 : decode code 1048 = .ok (.invokevirtual 117, 3) := by decide +kernel
theorem dL_law_1051 : decode code 1051 = .ok (.lcmp, 1) := by decide +kernel
theorem dL_law_1052 : decode code 1052 = .ok (.ifCond .eq 283, 3) := by decide +kernel
theorem dL_law_1055 : decode code 1055 = .ok (.iconst 0, 1) := by decide +kernel
theorem dL_law_1056 : decode code 1056 = .ok (.ireturn, 1) := by decide +kernel
theorem dL_law_1057 : decode code 1057 = .ok (.aload_n 1, 1) := by decide +kernel
theorem dL_law_1058 : decode code 1058 = .ok (.aload_n 0, 1) := by decide +kernel
theorem dL_law_1059 : decode code 1059 = .ok (.iload_n 3, 1) := by decide +kernel
theorem dL_law_1060 : decode code 1060 = .ok (.iconst 1, 1) := by decide +kernel
theorem dL_law_1061 : decode code 1061 = .ok (.iadd, 1) := by decide +kernel
theorem dL_law_1062 : decode code 1062 = .ok (.iaload, 1) := by decide +kernel
theorem dL_law_1063 : decode code 1063 = .ok (.aload_n 0, 1) := by decide +kernel
theorem dL_law_1064 : decode code 1064 = .ok (.iload_n 3, 1) := by decide +kernel
theorem dL_law_1065 : decode code 1065 = .ok (.iconst 2, 1) := by decide +kernel
theorem dL_law_1066 : decode code 1066 = .ok (.iadd, 1) := by decide +kernel
theorem dL_law_1067 : decode code 1067 = .ok (.iaload, 1) := by decide +kernel
theorem dL_law_1068 : decode code 1068 = .ok (.invokevirtual 118, 3) := by decide +kernel
theorem dL_law_1071 : decode code 1071 = .ok (.aload_n 2, 1) := by decide +kernel
theorem dL_law_1072 : decode code 1072 = .ok (.aload_n 0, 1) := by decide +kernel
theorem dL_law_1073 : decode code 1073 = .ok (.iload_n 3, 1) := by decide +kernel
theorem dL_law_1074 : decode code 1074 = .ok (.iconst 1, 1) := by decide +kernel
theorem dL_law_1075 : decode code 1075 = .ok (.iadd, 1) := by decide +kernel
theorem dL_law_1076 : decode code 1076 = .ok (.iaload, 1) := by decide +kernel
theorem dL_law_1077 : decode code 1077 = .ok (.aload_n 0, 1) := by decide +kernel
theorem dL_law_1078 : decode code 1078 = .ok (.iload_n 3, 1) := by decide +kernel
theorem dL_law_1079 : decode code 1079 = .ok (.iconst 2, 1) := by decide +kernel
theorem dL_law_1080 : decode code 1080 = .ok (.iadd, 1) := by decide +kernel
theorem dL_law_1081 : decode code 1081 = .ok (.iaload, 1) := by decide +kernel
theorem dL_law_1082 : decode code 1082 = .ok (.invokevirtual 121, 3) := by decide +kernel
theorem dL_law_1085 : decode code 1085 = .ok (.if_icmp .eq 250, 3) := by decide +kernel
theorem dL_law_1088 : decode code 1088 = .ok (.iconst 0, 1) := by decide +kernel
theorem dL_law_1089 : decode code 1089 = .ok (.ireturn, 1) := by decide +kernel
theorem dL_law_1090 : decode code 1090 = .ok (.aload_n 1, 1) := by decide +kernel
theorem dL_law_1091 : decode code 1091 = .ok (.aload_n 0, 1) := by decide +kernel
theorem dL_law_1092 : decode code 1092 = .ok (.iload_n 3, 1) := by decide +kernel
theorem dL_law_1093 : decode code 1093 = .ok (.iconst 1, 1) := by decide +kernel
theorem dL_law_1094 : decode code 1094 = .ok (.iadd, 1) := by decide +kernel
theorem dL_law_1095 : decode code 1095 = .ok (.iaload, 1) := by decide +kernel
theorem dL_law_1096 : decode code 1096 = .ok (.aload_n 0, 1) := by decide +kernel
theorem dL_law_1097 : decode code 1097 = .ok (.iload_n 3, 1) := by decide +kernel
theorem dL_law_1098 : decode code 1098 = .ok (.iconst 2, 1) := by decide +kernel
theorem dL_law_1099 : decode code 1099 = .ok (.iadd, 1) := by decide +kernel
theorem dL_law_1100 : decode code 1100 = .ok (.iaload, 1) := by decide +kernel
theorem dL_law_1101 : decode code 1101 = .ok (.invokevirtual 122, 3) := by decide +kernel
theorem dL_law_1104 : decode code 1104 = .ok (.aload_n 2, 1) := by decide +kernel
theorem dL_law_1105 : decode code 1105 = .ok (.aload_n 0, 1) := by decide +kernel
theorem dL_law_1106 : decode code 1106 = .ok (.iload_n 3, 1) := by decide +kernel
theorem dL_law_1107 : decode code 1107 = .ok (.iconst 1, 1) := by decide +kernel
theorem dL_law_1108 : decode code 1108 = .ok (.iadd, 1) := by decide +kernel
theorem dL_law_1109 : decode code 1109 = .ok (.iaload, 1) := by decide +kernel
theorem dL_law_1110 : decode code 1110 = .ok (.aload_n 0, 1) := by decide +kernel
theorem dL_law_1111 : decode code 1111 = .ok (.iload_n 3, 1) := by decide +kernel
theorem dL_law_1112 : decode code 1112 = .ok (.iconst 2, 1) := by decide +kernel
theorem dL_law_1113 : decode code 1113 = .ok (.iadd, 1) := by decide +kernel
theorem dL_law_1114 : decode code 1114 = .ok (.iaload, 1) := by decide +kernel
theorem dL_law_1115 : decode code 1115 = .ok (.invokevirtual 125, 3) := by decide +kernel
theorem dL_law_1118 : decode code 1118 = .ok (.if_icmp .eq 217, 3) := by decide +kernel
theorem dL_law_1121 : decode code 1121 = .ok (.iconst 0, 1) := by decide +kernel
theorem dL_law_1122 : decode code 1122 = .ok (.ireturn, 1) := by decide +kernel
theorem dL_law_1123 : decode code 1123 = .ok (.aload_n 1, 1) := by decide +kernel
theorem dL_law_1124 : decode code 1124 = .ok (.aload_n 0, 1) := by decide +kernel
theorem dL_law_1125 : decode code 1125 = .ok (.iload_n 3, 1) := by decide +kernel
theorem dL_law_1126 : decode code 1126 = .ok (.iconst 1, 1) := by decide +kernel
theorem dL_law_1127 : decode code 1127 = .ok (.iadd, 1) := by decide +kernel
theorem dL_law_1128 : decode code 1128 = .ok (.iaload, 1) := by decide +kernel
theorem dL_law_1129 : decode code 1129 = .ok (.aload_n 0, 1) := by decide +kernel
theorem dL_law_1130 : decode code 1130 = .ok (.iload_n 3, 1) := by decide +kernel
theorem dL_law_1131 : decode code 1131 = .ok (.iconst 2, 1) := by decide +kernel
theorem dL_law_1132 : decode code 1132 = .ok (.iadd, 1) := by decide +kernel
theorem dL_law_1133 : decode code 1133 = .ok (.iaload, 1) := by decide +kernel
theorem dL_law_1134 : decode code 1134 = .ok (.aload_n 0, 1) := by decide +kernel
theorem dL_law_1135 : decode code 1135 = .ok (.iload_n 3, 1) := by decide +kernel
theorem dL_law_1136 : decode code 1136 = .ok (.iconst 3, 1) := by decide +kernel
theorem dL_law_1137 : decode code 1137 = .ok (.iadd, 1) := by decide +kernel
theorem dL_law_1138 : decode code 1138 = .ok (.iaload, 1) := by decide +kernel
theorem dL_law_1139 : decode code 1139 = .ok (.invokevirtual 126, 3) := by decide +kernel
theorem dL_law_1142 : decode code 1142 = .ok (.aload_n 2, 1) := by decide +kernel
theorem dL_law_1143 : decode code 1143 = .ok (.aload_n 0, 1) := by decide +kernel
theorem dL_law_1144 : decode code 1144 = .ok (.iload_n 3, 1) := by decide +kernel
theorem dL_law_1145 : decode code 1145 = .ok (.iconst 1, 1) := by decide +kernel
theorem dL_law_1146 : decode code 1146 = .ok (.iadd, 1) := by decide +kernel
theorem dL_law_1147 : decode code 1147 = .ok (.iaload, 1) := by decide +kernel
theorem dL_law_1148 : decode code 1148 = .ok (.aload_n 0, 1) := by decide +kernel
theorem dL_law_1149 : decode code 1149 = .ok (.iload_n 3, 1) := by decide +kernel
theorem dL_law_1150 : decode code 1150 = .ok (.iconst 2, 1) := by decide +kernel
theorem dL_law_1151 : decode code 1151 = .ok (.iadd, 1) := by decide +kernel
theorem dL_law_1152 : decode code 1152 = .ok (.iaload, 1) := by decide +kernel
theorem dL_law_1153 : decode code 1153 = .ok (.aload_n 0, 1) := by decide +kernel
theorem dL_law_1154 : decode code 1154 = .ok (.iload_n 3, 1) := by decide +kernel
theorem dL_law_1155 : decode code 1155 = .ok (.iconst 3, 1) := by decide +kernel
theorem dL_law_1156 : decode code 1156 = .ok (.iadd, 1) := by decide +kernel
theorem dL_law_1157 : decode code 1157 = .ok (.iaload, 1) := by decide +kernel
theorem dL_law_1158 : decode code 1158 = .ok (.invokevirtual 129, 3) := by decide +kernel
theorem dL_law_1161 : decode code 1161 = .ok (.if_icmp .eq 174, 3) := by decide +kernel
theorem dL_law_1164 : decode code 1164 = .ok (.iconst 0, 1) := by decide +kernel
theorem dL_law_1165 : decode code 1165 = .ok (.ireturn, 1) := by decide +kernel
theorem dL_law_1166 : decode code 1166 = .ok (.aload_n 1, 1) := by decide +kernel
theorem dL_law_1167 : decode code 1167 = .ok (.aload_n 0, 1) := by decide +kernel
theorem dL_law_1168 : decode code 1168 = .ok (.iload_n 3, 1) := by decide +kernel
theorem dL_law_1169 : decode code 1169 = .ok (.iconst 1, 1) := by decide +kernel
theorem dL_law_1170 : decode code 1170 = .ok (.iadd, 1) := by decide +kernel
theorem dL_law_1171 : decode code 1171 = .ok (.iaload, 1) := by decide +kernel
theorem dL_law_1172 : decode code 1172 = .ok (.aload_n 0, 1) := by decide +kernel
theorem dL_law_1173 : decode code 1173 = .ok (.iload_n 3, 1) := by decide +kernel
theorem dL_law_1174 : decode code 1174 = .ok (.iconst 2, 1) := by decide +kernel
theorem dL_law_1175 : decode code 1175 = .ok (.iadd, 1) := by decide +kernel
theorem dL_law_1176 : decode code 1176 = .ok (.iaload, 1) := by decide +kernel
theorem dL_law_1177 : decode code 1177 = .ok (.invokevirtual 130, 3) := by decide +kernel
theorem dL_law_1180 : decode code 1180 = .ok (.aload_n 2, 1) := by decide +kernel
theorem dL_law_1181 : decode code 1181 = .ok (.aload_n 0, 1) := by decide +kernel
theorem dL_law_1182 : decode code 1182 = .ok (.iload_n 3, 1) := by decide +kernel
theorem dL_law_1183 : decode code 1183 = .ok (.iconst 1, 1) := by decide +kernel
theorem dL_law_1184 : decode code 1184 = .ok (.iadd, 1) := by decide +kernel
theorem dL_law_1185 : decode code 1185 = .ok (.iaload, 1) := by decide +kernel
theorem dL_law_1186 : decode code 1186 = .ok (.aload_n 0, 1) := by decide +kernel
theorem dL_law_1187 : decode code 1187 = .ok (.iload_n 3, 1) := by decide +kernel
theorem dL_law_1188 : decode code 1188 = .ok (.iconst 2, 1) := by decide +kernel
theorem dL_law_1189 : decode code 1189 = .ok (.iadd, 1) := by decide +kernel
theorem dL_law_1190 : decode code 1190 = .ok (.iaload, 1) := by decide +kernel
theorem dL_law_1191 : decode code 1191 = .ok (.invokevirtual 133, 3) := by decide +kernel
theorem dL_law_1194 : decode code 1194 = .ok (.lcmp, 1) := by decide +kernel
theorem dL_law_1195 : decode code 1195 = .ok (.ifCond .eq 140, 3) := by decide +kernel
theorem dL_law_1198 : decode code 1198 = .ok (.iconst 0, 1) := by decide +kernel
theorem dL_law_1199 : decode code 1199 = .ok (.ireturn, 1) := by decide +kernel
theorem dL_law_1200 : decode code 1200 = .ok (.aload_n 1, 1) := by decide +kernel
theorem dL_law_1201 : decode code 1201 = .ok (.aload_n 0, 1) := by decide +kernel
theorem dL_law_1202 : decode code 1202 = .ok (.iload_n 3, 1) := by decide +kernel
theorem dL_law_1203 : decode code 1203 = .ok (.iconst 1, 1) := by decide +kernel
theorem dL_law_1204 : decode code 1204 = .ok (.iadd, 1) := by decide +kernel
theorem dL_law_1205 : decode code 1205 = .ok (.iaload, 1) := by decide +kernel
theorem dL_law_1206 : decode code 1206 = .ok (.aload_n 0, 1) := by decide +kernel
theorem dL_law_1207 : decode code 1207 = .ok (.iload_n 3, 1) := by decide +kernel
theorem dL_law_1208 : decode code 1208 = .ok (.iconst 2, 1) := by decide +kernel
theorem dL_law_1209 : decode code 1209 = .ok (.iadd, 1) := by decide +kernel
theorem dL_law_1210 : decode code 1210 = .ok (.iaload, 1) := by decide +kernel
theorem dL_law_1211 : decode code 1211 = .ok (.aload_n 0, 1) := by decide +kernel
theorem dL_law_1212 : decode code 1212 = .ok (.iload_n 3, 1) := by decide +kernel
theorem dL_law_1213 : decode code 1213 = .ok (.iconst 3, 1) := by decide +kernel
theorem dL_law_1214 : decode code 1214 = .ok (.iadd, 1) := by decide +kernel
theorem dL_law_1215 : decode code 1215 = .ok (.iaload, 1) := by decide +kernel
theorem dL_law_1216 : decode code 1216 = .ok (.invokevirtual 134, 3) := by decide +kernel
theorem dL_law_1219 : decode code 1219 = .ok (.aload_n 2, 1) := by decide +kernel
theorem dL_law_1220 : decode code 1220 = .ok (.aload_n 0, 1) := by decide +kernel
theorem dL_law_1221 : decode code 1221 = .ok (.iload_n 3, 1) := by decide +kernel
theorem dL_law_1222 : decode code 1222 = .ok (.iconst 1, 1) := by decide +kernel
theorem dL_law_1223 : decode code 1223 = .ok (.iadd, 1) := by decide +kernel
theorem dL_law_1224 : decode code 1224 = .ok (.iaload, 1) := by decide +kernel
theorem dL_law_1225 : decode code 1225 = .ok (.aload_n 0, 1) := by decide +kernel
theorem dL_law_1226 : decode code 1226 = .ok (.iload_n 3, 1) := by decide +kernel
theorem dL_law_1227 : decode code 1227 = .ok (.iconst 2, 1) := by decide +kernel
theorem dL_law_1228 : decode code 1228 = .ok (.iadd, 1) := by decide +kernel
theorem dL_law_1229 : decode code 1229 = .ok (.iaload, 1) := by decide +kernel
theorem dL_law_1230 : decode code 1230 = .ok (.aload_n 0, 1) := by decide +kernel
theorem dL_law_1231 : decode code 1231 = .ok (.iload_n 3, 1) := by decide +kernel
theorem dL_law_1232 : decode code 1232 = .ok (.iconst 3, 1) := by decide +kernel
theorem dL_law_1233 : decode code 1233 = .ok (.iadd, 1) := by decide +kernel
theorem dL_law_1234 : decode code 1234 = .ok (.iaload, 1) := by decide +kernel
theorem dL_law_1235 : decode code 1235 = .ok (.invokevirtual 137, 3) := by decide +kernel
theorem dL_law_1238 : decode code 1238 = .ok (.if_icmp .eq 97, 3) := by decide +kernel
theorem dL_law_1241 : decode code 1241 = .ok (.iconst 0, 1) := by decide +kernel
theorem dL_law_1242 : decode code 1242 = .ok (.ireturn, 1) := by decide +kernel
theorem dL_law_1243 : decode code 1243 = .ok (.aload_n 1, 1) := by decide +kernel
theorem dL_law_1244 : decode code 1244 = .ok (.aload_n 0, 1) := by decide +kernel
theorem dL_law_1245 : decode code 1245 = .ok (.iload_n 3, 1) := by decide +kernel
theorem dL_law_1246 : decode code 1246 = .ok (.iconst 1, 1) := by decide +kernel
theorem dL_law_1247 : decode code 1247 = .ok (.iadd, 1) := by decide +kernel
theorem dL_law_1248 : decode code 1248 = .ok (.iaload, 1) := by decide +kernel
theorem dL_law_1249 : decode code 1249 = .ok (.aload_n 0, 1) := by decide +kernel
theorem dL_law_1250 : decode code 1250 = .ok (.iload_n 3, 1) := by decide +kernel
theorem dL_law_1251 : decode code 1251 = .ok (.iconst 2, 1) := by decide +kernel
theorem dL_law_1252 : decode code 1252 = .ok (.iadd, 1) := by decide +kernel
theorem dL_law_1253 : decode code 1253 = .ok (.iaload, 1) := by decide +kernel
theorem dL_law_1254 : decode code 1254 = .ok (.aload_n 0, 1) := by decide +kernel
theorem dL_law_1255 : decode code 1255 = .ok (.iload_n 3, 1) := by decide +kernel
theorem dL_law_1256 : decode code 1256 = .ok (.iconst 3, 1) := by decide +kernel
theorem dL_law_1257 : decode code 1257 = .ok (.iadd, 1) := by decide +kernel
theorem dL_law_1258 : decode code 1258 = .ok (.iaload, 1) := by decide +kernel
theorem dL_law_1259 : decode code 1259 = .ok (.invokevirtual 138, 3) := by decide +kernel
theorem dL_law_1262 : decode code 1262 = .ok (.aload_n 2, 1) := by decide +kernel
theorem dL_law_1263 : decode code 1263 = .ok (.aload_n 0, 1) := by decide +kernel
theorem dL_law_1264 : decode code 1264 = .ok (.iload_n 3, 1) := by decide +kernel
theorem dL_law_1265 : decode code 1265 = .ok (.iconst 1, 1) := by decide +kernel
theorem dL_law_1266 : decode code 1266 = .ok (.iadd, 1) := by decide +kernel
theorem dL_law_1267 : decode code 1267 = .ok (.iaload, 1) := by decide +kernel
theorem dL_law_1268 : decode code 1268 = .ok (.aload_n 0, 1) := by decide +kernel
theorem dL_law_1269 : decode code 1269 = .ok (.iload_n 3, 1) := by decide +kernel
theorem dL_law_1270 : decode code 1270 = .ok (.iconst 2, 1) := by decide +kernel
theorem dL_law_1271 : decode code 1271 = .ok (.iadd, 1) := by decide +kernel
theorem dL_law_1272 : decode code 1272 = .ok (.iaload, 1) := by decide +kernel
theorem dL_law_1273 : decode code 1273 = .ok (.aload_n 0, 1) := by decide +kernel
theorem dL_law_1274 : decode code 1274 = .ok (.iload_n 3, 1) := by decide +kernel
theorem dL_law_1275 : decode code 1275 = .ok (.iconst 3, 1) := by decide +kernel
theorem dL_law_1276 : decode code 1276 = .ok (.iadd, 1) := by decide +kernel
theorem dL_law_1277 : decode code 1277 = .ok (.iaload, 1) := by decide +kernel
theorem dL_law_1278 : decode code 1278 = .ok (.invokevirtual 141, 3) := by decide +kernel
theorem dL_law_1281 : decode code 1281 = .ok (.if_icmp .eq 54, 3) := by decide +kernel
theorem dL_law_1284 : decode code 1284 = .ok (.iconst 0, 1) := by decide +kernel
theorem dL_law_1285 : decode code 1285 = .ok (.ireturn, 1) := by decide +kernel
theorem dL_law_1286 : decode code 1286 = .ok (.aload_n 1, 1) := by decide +kernel
theorem dL_law_1287 : decode code 1287 = .ok (.invokevirtual 142, 3) := by decide +kernel
theorem dL_law_1290 : decode code 1290 = .ok (.aload_n 2, 1) := by decide +kernel
theorem dL_law_1291 : decode code 1291 = .ok (.invokevirtual 145, 3) := by decide +kernel
theorem dL_law_1294 : decode code 1294 = .ok (.if_icmp .eq 41, 3) := by decide +kernel
theorem dL_law_1297 : decode code 1297 = .ok (.iconst 0, 1) := by decide +kernel
theorem dL_law_1298 : decode code 1298 = .ok (.ireturn, 1) := by decide +kernel
theorem dL_law_1299 : decode code 1299 = .ok (.aload_n 1, 1) := by decide +kernel
theorem dL_law_1300 : decode code 1300 = .ok (.invokevirtual 146, 3) := by decide +kernel
theorem dL_law_1303 : decode code 1303 = .ok (.aload_n 2, 1) := by decide +kernel
theorem dL_law_1304 : decode code 1304 = .ok (.invokevirtual 149, 3) := by decide +kernel
theorem dL_law_1307 : decode code 1307 = .ok (.if_icmp .eq 28, 3) := by decide +kernel
theorem dL_law_1310 : decode code 1310 = .ok (.iconst 0, 1) := by decide +kernel
theorem dL_law_1311 : decode code 1311 = .ok (.ireturn, 1) := by decide +kernel
theorem dL_law_1312 : decode code 1312 = .ok (.aload_n 1, 1) := by decide +kernel
theorem dL_law_1313 : decode code 1313 = .ok (.aload_n 0, 1) := by decide +kernel
theorem dL_law_1314 : decode code 1314 = .ok (.iload_n 3, 1) := by decide +kernel
theorem dL_law_1315 : decode code 1315 = .ok (.iconst 1, 1) := by decide +kernel
theorem dL_law_1316 : decode code 1316 = .ok (.iadd, 1) := by decide +kernel
theorem dL_law_1317 : decode code 1317 = .ok (.iaload, 1) := by decide +kernel
theorem dL_law_1318 : decode code 1318 = .ok (.invokevirtual 150, 3) := by decide +kernel
theorem dL_law_1321 : decode code 1321 = .ok (.aload_n 2, 1) := by decide +kernel
theorem dL_law_1322 : decode code 1322 = .ok (.aload_n 0, 1) := by decide +kernel
theorem dL_law_1323 : decode code 1323 = .ok (.iload_n 3, 1) := by decide +kernel
theorem dL_law_1324 : decode code 1324 = .ok (.iconst 1, 1) := by decide +kernel
theorem dL_law_1325 : decode code 1325 = .ok (.iadd, 1) := by decide +kernel
theorem dL_law_1326 : decode code 1326 = .ok (.iaload, 1) := by decide +kernel
theorem dL_law_1327 : decode code 1327 = .ok (.invokevirtual 153, 3) := by decide +kernel
theorem dL_law_1330 : decode code 1330 = .ok (.if_icmp .eq 5, 3) := by decide +kernel
theorem dL_law_1333 : decode code 1333 = .ok (.iconst 0, 1) := by decide +kernel
theorem dL_law_1334 : decode code 1334 = .ok (.ireturn, 1) := by decide +kernel
theorem dL_law_1335 : decode code 1335 = .ok (.iinc 3 8, 3) := by decide +kernel
theorem dL_law_1338 : decode code 1338 = .ok (.goto (-1320), 3) := by decide +kernel
theorem dL_law_1341 : decode code 1341 = .ok (.iconst 1, 1) := by decide +kernel
theorem dL_law_1342 : decode code 1342 = .ok (.ireturn, 1) := by decide +kernel
