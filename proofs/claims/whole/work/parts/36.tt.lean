/-! (laid by prog/gen2.py) -/
theorem t1_0 : q_tb (PP 1) 0 = some (.iload_n 1, 1, []) := rfl
theorem t1_1 : q_tb (PP 1) 1 = some (.iload_n 2, 1, []) := rfl
theorem t1_2 : q_tb (PP 1) 2 = some (.invokestatic 49, 3, []) := rfl
theorem t1_5 : q_tb (PP 1) 5 = some (.ifCond .eq 32, 3, []) := rfl
theorem t1_8 : q_tb (PP 1) 8 = some (.iload_n 3, 1, []) := rfl
theorem t1_9 : q_tb (PP 1) 9 = some (.iconst 1, 1, []) := rfl
theorem t1_10 : q_tb (PP 1) 10 = some (.iconst 3, 1, []) := rfl
theorem t1_11 : q_tb (PP 1) 11 = some (.invokestatic 38, 3, []) := rfl
theorem t1_14 : q_tb (PP 1) 14 = some (.ifCond .eq 23, 3, []) := rfl
theorem t1_17 : q_tb (PP 1) 17 = some (.iload 4, 2, []) := rfl
theorem t1_19 : q_tb (PP 1) 19 = some (.iconst 1, 1, []) := rfl
theorem t1_20 : q_tb (PP 1) 20 = some (.iconst 3, 1, []) := rfl
theorem t1_21 : q_tb (PP 1) 21 = some (.invokestatic 38, 3, []) := rfl
theorem t1_24 : q_tb (PP 1) 24 = some (.ifCond .eq 13, 3, []) := rfl
theorem t1_27 : q_tb (PP 1) 27 = some (.iload 5, 2, []) := rfl
theorem t1_29 : q_tb (PP 1) 29 = some (.iconst 1, 1, []) := rfl
theorem t1_30 : q_tb (PP 1) 30 = some (.iconst 3, 1, []) := rfl
theorem t1_31 : q_tb (PP 1) 31 = some (.invokestatic 38, 3, []) := rfl
theorem t1_34 : q_tb (PP 1) 34 = some (.ifCond .ne 11, 3, []) := rfl
theorem t1_37 : q_tb (PP 1) 37 = some (.athrow, 3, [0, 1, 2, 3, 4, 5]) := rfl
theorem t1_40 : q_tb (PP 1) 40 = some (.dup, 1, []) := rfl
theorem t1_41 : q_tb (PP 1) 41 = some (.invokespecial 55, 3, []) := rfl
theorem t1_44 : q_tb (PP 1) 44 = some (.athrow, 1, []) := rfl
theorem t1_45 : q_tb (PP 1) 45 = some (.aload_n 0, 1, []) := rfl
theorem t1_46 : q_tb (PP 1) 46 = some (.getfield 45, 3, []) := rfl
theorem t1_49 : q_tb (PP 1) 49 = some (.getfield 56, 3, []) := rfl
theorem t1_52 : q_tb (PP 1) 52 = some (.iconst 3, 1, []) := rfl
theorem t1_53 : q_tb (PP 1) 53 = some (.if_icmp .lt 11, 3, []) := rfl
theorem t1_56 : q_tb (PP 1) 56 = some (.athrow, 3, []) := rfl
theorem t1_59 : q_tb (PP 1) 59 = some (.dup, 1, []) := rfl
theorem t1_60 : q_tb (PP 1) 60 = some (.invokespecial 62, 3, []) := rfl
theorem t1_63 : q_tb (PP 1) 63 = some (.athrow, 1, []) := rfl
theorem t1_64 : q_tb (PP 1) 64 = some (.aload_n 0, 1, []) := rfl
theorem t1_65 : q_tb (PP 1) 65 = some (.getfield 45, 3, []) := rfl
theorem t1_68 : q_tb (PP 1) 68 = some (.getfield 56, 3, []) := rfl
theorem t1_71 : q_tb (PP 1) 71 = some (.istore 6, 2, []) := rfl
theorem t1_73 : q_tb (PP 1) 73 = some (.aload_n 0, 1, []) := rfl
theorem t1_74 : q_tb (PP 1) 74 = some (.getfield 45, 3, []) := rfl
theorem t1_77 : q_tb (PP 1) 77 = some (.getfield 63, 3, []) := rfl
theorem t1_80 : q_tb (PP 1) 80 = some (.iload 6, 2, []) := rfl
theorem t1_82 : q_tb (PP 1) 82 = some (.aaload, 1, []) := rfl
theorem t1_83 : q_tb (PP 1) 83 = some (.iload_n 1, 1, []) := rfl
theorem t1_84 : q_tb (PP 1) 84 = some (.iload_n 2, 1, []) := rfl
theorem t1_85 : q_tb (PP 1) 85 = some (.iload_n 3, 1, []) := rfl
theorem t1_86 : q_tb (PP 1) 86 = some (.iload 4, 2, []) := rfl
theorem t1_88 : q_tb (PP 1) 88 = some (.iload 5, 2, []) := rfl
theorem t1_90 : q_tb (PP 1) 90 = some (.invokevirtual 67, 3, []) := rfl
theorem t1_93 : q_tb (PP 1) 93 = some (.aload_n 0, 1, []) := rfl
theorem t1_94 : q_tb (PP 1) 94 = some (.getfield 45, 3, []) := rfl
theorem t1_97 : q_tb (PP 1) 97 = some (.iload 6, 2, []) := rfl
theorem t1_99 : q_tb (PP 1) 99 = some (.iconst 1, 1, []) := rfl
theorem t1_100 : q_tb (PP 1) 100 = some (.iadd, 1, []) := rfl
theorem t1_101 : q_tb (PP 1) 101 = some (.putfield 56, 3, []) := rfl
theorem t1_104 : q_tb (PP 1) 104 = some (.aload_n 0, 1, []) := rfl
theorem t1_105 : q_tb (PP 1) 105 = some (.getfield 19, 3, []) := rfl
theorem t1_108 : q_tb (PP 1) 108 = some (.invokevirtual 73, 3, []) := rfl
theorem t1_111 : q_tb (PP 1) 111 = some (.iload 6, 2, []) := rfl
theorem t1_113 : q_tb (PP 1) 113 = some (.ireturn, 1, []) := rfl
theorem t2_0 : q_tb (PP 2) 0 = some (.aload_n 0, 1, []) := rfl
theorem t2_1 : q_tb (PP 2) 1 = some (.getfield 45, 3, []) := rfl
theorem t2_4 : q_tb (PP 2) 4 = some (.iload_n 1, 1, []) := rfl
theorem t2_5 : q_tb (PP 2) 5 = some (.invokevirtual 76, 3, []) := rfl
theorem t2_8 : q_tb (PP 2) 8 = some (.ifCond .eq 33, 3, []) := rfl
theorem t2_11 : q_tb (PP 2) 11 = some (.iload_n 2, 1, []) := rfl
theorem t2_12 : q_tb (PP 2) 12 = some (.invokestatic 80, 3, []) := rfl
theorem t2_15 : q_tb (PP 2) 15 = some (.ifCond .eq 26, 3, []) := rfl
theorem t2_18 : q_tb (PP 2) 18 = some (.iload_n 3, 1, []) := rfl
theorem t2_19 : q_tb (PP 2) 19 = some (.invokestatic 80, 3, []) := rfl
theorem t2_22 : q_tb (PP 2) 22 = some (.ifCond .eq 19, 3, []) := rfl
theorem t2_25 : q_tb (PP 2) 25 = some (.iload 4, 2, []) := rfl
theorem t2_27 : q_tb (PP 2) 27 = some (.invokestatic 80, 3, []) := rfl
theorem t2_30 : q_tb (PP 2) 30 = some (.ifCond .eq 11, 3, []) := rfl
theorem t2_33 : q_tb (PP 2) 33 = some (.iload 5, 2, []) := rfl
theorem t2_35 : q_tb (PP 2) 35 = some (.invokestatic 80, 3, []) := rfl
theorem t2_38 : q_tb (PP 2) 38 = some (.ifCond .ne 5, 3, []) := rfl
theorem t2_41 : q_tb (PP 2) 41 = some (.iconst 0, 1, [0, 1, 2, 3, 4, 5]) := rfl
theorem t2_42 : q_tb (PP 2) 42 = some (.ireturn, 1, []) := rfl
theorem t2_43 : q_tb (PP 2) 43 = some (.aload_n 0, 1, []) := rfl
theorem t2_44 : q_tb (PP 2) 44 = some (.getfield 45, 3, []) := rfl
theorem t2_47 : q_tb (PP 2) 47 = some (.getfield 63, 3, []) := rfl
theorem t2_50 : q_tb (PP 2) 50 = some (.iload_n 1, 1, []) := rfl
theorem t2_51 : q_tb (PP 2) 51 = some (.aaload, 1, []) := rfl
theorem t2_52 : q_tb (PP 2) 52 = some (.iload_n 2, 1, []) := rfl
theorem t2_53 : q_tb (PP 2) 53 = some (.iload_n 3, 1, []) := rfl
theorem t2_54 : q_tb (PP 2) 54 = some (.iload 4, 2, []) := rfl
theorem t2_56 : q_tb (PP 2) 56 = some (.iload 5, 2, []) := rfl
theorem t2_58 : q_tb (PP 2) 58 = some (.invokevirtual 83, 3, []) := rfl
theorem t2_61 : q_tb (PP 2) 61 = some (.aload_n 0, 1, []) := rfl
theorem t2_62 : q_tb (PP 2) 62 = some (.getfield 19, 3, []) := rfl
theorem t2_65 : q_tb (PP 2) 65 = some (.invokevirtual 73, 3, []) := rfl
theorem t2_68 : q_tb (PP 2) 68 = some (.iconst 1, 1, []) := rfl
theorem t2_69 : q_tb (PP 2) 69 = some (.ireturn, 1, []) := rfl
theorem t3_0 : q_tb (PP 3) 0 = some (.aload_n 0, 1, []) := rfl
theorem t3_1 : q_tb (PP 3) 1 = some (.getfield 45, 3, []) := rfl
theorem t3_4 : q_tb (PP 3) 4 = some (.iload_n 1, 1, []) := rfl
theorem t3_5 : q_tb (PP 3) 5 = some (.invokevirtual 76, 3, []) := rfl
theorem t3_8 : q_tb (PP 3) 8 = some (.ifCond .eq 25, 3, []) := rfl
theorem t3_11 : q_tb (PP 3) 11 = some (.iload_n 2, 1, []) := rfl
theorem t3_12 : q_tb (PP 3) 12 = some (.invokestatic 80, 3, []) := rfl
theorem t3_15 : q_tb (PP 3) 15 = some (.ifCond .eq 18, 3, []) := rfl
theorem t3_18 : q_tb (PP 3) 18 = some (.iload_n 3, 1, []) := rfl
theorem t3_19 : q_tb (PP 3) 19 = some (.invokestatic 80, 3, []) := rfl
theorem t3_22 : q_tb (PP 3) 22 = some (.ifCond .eq 11, 3, []) := rfl
theorem t3_25 : q_tb (PP 3) 25 = some (.iload 4, 2, []) := rfl
theorem t3_27 : q_tb (PP 3) 27 = some (.invokestatic 80, 3, []) := rfl
theorem t3_30 : q_tb (PP 3) 30 = some (.ifCond .ne 5, 3, []) := rfl
theorem t3_33 : q_tb (PP 3) 33 = some (.iconst 0, 1, [0, 1, 2, 3, 4]) := rfl
theorem t3_34 : q_tb (PP 3) 34 = some (.ireturn, 1, []) := rfl
theorem t3_35 : q_tb (PP 3) 35 = some (.aload_n 0, 1, []) := rfl
theorem t3_36 : q_tb (PP 3) 36 = some (.getfield 45, 3, []) := rfl
theorem t3_39 : q_tb (PP 3) 39 = some (.getfield 63, 3, []) := rfl
theorem t3_42 : q_tb (PP 3) 42 = some (.iload_n 1, 1, []) := rfl
theorem t3_43 : q_tb (PP 3) 43 = some (.aaload, 1, []) := rfl
theorem t3_44 : q_tb (PP 3) 44 = some (.iload_n 2, 1, []) := rfl
theorem t3_45 : q_tb (PP 3) 45 = some (.iload_n 3, 1, []) := rfl
theorem t3_46 : q_tb (PP 3) 46 = some (.iload 4, 2, []) := rfl
theorem t3_48 : q_tb (PP 3) 48 = some (.invokevirtual 87, 3, []) := rfl
theorem t3_51 : q_tb (PP 3) 51 = some (.aload_n 0, 1, []) := rfl
theorem t3_52 : q_tb (PP 3) 52 = some (.getfield 19, 3, []) := rfl
theorem t3_55 : q_tb (PP 3) 55 = some (.invokevirtual 73, 3, []) := rfl
theorem t3_58 : q_tb (PP 3) 58 = some (.iconst 1, 1, []) := rfl
theorem t3_59 : q_tb (PP 3) 59 = some (.ireturn, 1, []) := rfl
theorem t4_0 : q_tb (PP 4) 0 = some (.aload_n 0, 1, []) := rfl
theorem t4_1 : q_tb (PP 4) 1 = some (.getfield 45, 3, []) := rfl
theorem t4_4 : q_tb (PP 4) 4 = some (.iload_n 1, 1, []) := rfl
theorem t4_5 : q_tb (PP 4) 5 = some (.invokevirtual 76, 3, []) := rfl
theorem t4_8 : q_tb (PP 4) 8 = some (.ifCond .eq 13, 3, []) := rfl
theorem t4_11 : q_tb (PP 4) 11 = some (.iload_n 3, 1, []) := rfl
theorem t4_12 : q_tb (PP 4) 12 = some (.iconst 1, 1, []) := rfl
theorem t4_13 : q_tb (PP 4) 13 = some (.bipush 100, 2, []) := rfl
theorem t4_15 : q_tb (PP 4) 15 = some (.invokestatic 38, 3, []) := rfl
theorem t4_18 : q_tb (PP 4) 18 = some (.ifCond .ne 5, 3, []) := rfl
theorem t4_21 : q_tb (PP 4) 21 = some (.iconst 0, 1, [0, 1, 2, 3]) := rfl
theorem t4_22 : q_tb (PP 4) 22 = some (.ireturn, 1, []) := rfl
theorem t4_23 : q_tb (PP 4) 23 = some (.aload_n 0, 1, []) := rfl
theorem t4_24 : q_tb (PP 4) 24 = some (.getfield 45, 3, []) := rfl
theorem t4_27 : q_tb (PP 4) 27 = some (.getfield 63, 3, []) := rfl
theorem t4_30 : q_tb (PP 4) 30 = some (.iload_n 1, 1, []) := rfl
theorem t4_31 : q_tb (PP 4) 31 = some (.aaload, 1, []) := rfl
theorem t4_32 : q_tb (PP 4) 32 = some (.astore 4, 2, []) := rfl
theorem t4_34 : q_tb (PP 4) 34 = some (.iload_n 2, 1, []) := rfl
theorem t4_35 : q_tb (PP 4) 35 = some (.ifCond .eq 14, 3, []) := rfl
theorem t4_38 : q_tb (PP 4) 38 = some (.aload 4, 2, []) := rfl
theorem t4_40 : q_tb (PP 4) 40 = some (.iload_n 2, 1, []) := rfl
theorem t4_41 : q_tb (PP 4) 41 = some (.invokevirtual 91, 3, []) := rfl
theorem t4_44 : q_tb (PP 4) 44 = some (.ifCond .ne 5, 3, []) := rfl
theorem t4_47 : q_tb (PP 4) 47 = some (.iconst 0, 1, []) := rfl
theorem t4_48 : q_tb (PP 4) 48 = some (.ireturn, 1, []) := rfl
theorem t4_49 : q_tb (PP 4) 49 = some (.aload 4, 2, [1]) := rfl
theorem t4_51 : q_tb (PP 4) 51 = some (.iload_n 2, 1, []) := rfl
theorem t4_52 : q_tb (PP 4) 52 = some (.putfield 94, 3, []) := rfl
theorem t4_55 : q_tb (PP 4) 55 = some (.aload 4, 2, []) := rfl
theorem t4_57 : q_tb (PP 4) 57 = some (.iload_n 3, 1, []) := rfl
theorem t4_58 : q_tb (PP 4) 58 = some (.putfield 97, 3, []) := rfl
theorem t4_61 : q_tb (PP 4) 61 = some (.aload_n 0, 1, []) := rfl
theorem t4_62 : q_tb (PP 4) 62 = some (.getfield 19, 3, []) := rfl
theorem t4_65 : q_tb (PP 4) 65 = some (.invokevirtual 73, 3, []) := rfl
theorem t4_68 : q_tb (PP 4) 68 = some (.iconst 1, 1, []) := rfl
theorem t4_69 : q_tb (PP 4) 69 = some (.ireturn, 1, []) := rfl
theorem t5_0 : q_tb (PP 5) 0 = some (.aload_n 0, 1, []) := rfl
theorem t5_1 : q_tb (PP 5) 1 = some (.getfield 45, 3, []) := rfl
theorem t5_4 : q_tb (PP 5) 4 = some (.iload_n 1, 1, []) := rfl
theorem t5_5 : q_tb (PP 5) 5 = some (.invokevirtual 100, 3, []) := rfl
theorem t5_8 : q_tb (PP 5) 8 = some (.ifCond .eq 25, 3, []) := rfl
theorem t5_11 : q_tb (PP 5) 11 = some (.iload_n 2, 1, []) := rfl
theorem t5_12 : q_tb (PP 5) 12 = some (.iconst 0, 1, []) := rfl
theorem t5_13 : q_tb (PP 5) 13 = some (.sipush 200, 3, []) := rfl
theorem t5_16 : q_tb (PP 5) 16 = some (.invokestatic 38, 3, []) := rfl
theorem t5_19 : q_tb (PP 5) 19 = some (.ifCond .eq 14, 3, []) := rfl
theorem t5_22 : q_tb (PP 5) 22 = some (.iload_n 3, 1, []) := rfl
theorem t5_23 : q_tb (PP 5) 23 = some (.iconst 0, 1, []) := rfl
theorem t5_24 : q_tb (PP 5) 24 = some (.sipush 200, 3, []) := rfl
theorem t5_27 : q_tb (PP 5) 27 = some (.invokestatic 38, 3, []) := rfl
theorem t5_30 : q_tb (PP 5) 30 = some (.ifCond .ne 5, 3, []) := rfl
theorem t5_33 : q_tb (PP 5) 33 = some (.iconst 0, 1, [0, 1, 2, 3]) := rfl
theorem t5_34 : q_tb (PP 5) 34 = some (.ireturn, 1, []) := rfl
theorem t5_35 : q_tb (PP 5) 35 = some (.aload_n 0, 1, []) := rfl
theorem t5_36 : q_tb (PP 5) 36 = some (.getfield 45, 3, []) := rfl
theorem t5_39 : q_tb (PP 5) 39 = some (.getfield 103, 3, []) := rfl
theorem t5_42 : q_tb (PP 5) 42 = some (.iload_n 1, 1, []) := rfl
theorem t5_43 : q_tb (PP 5) 43 = some (.iload_n 2, 1, []) := rfl
theorem t5_44 : q_tb (PP 5) 44 = some (.iastore, 1, []) := rfl
theorem t5_45 : q_tb (PP 5) 45 = some (.aload_n 0, 1, []) := rfl
theorem t5_46 : q_tb (PP 5) 46 = some (.getfield 45, 3, []) := rfl
theorem t5_49 : q_tb (PP 5) 49 = some (.getfield 106, 3, []) := rfl
theorem t5_52 : q_tb (PP 5) 52 = some (.iload_n 1, 1, []) := rfl
theorem t5_53 : q_tb (PP 5) 53 = some (.iload_n 3, 1, []) := rfl
theorem t5_54 : q_tb (PP 5) 54 = some (.iastore, 1, []) := rfl
theorem t5_55 : q_tb (PP 5) 55 = some (.aload_n 0, 1, []) := rfl
theorem t5_56 : q_tb (PP 5) 56 = some (.getfield 19, 3, []) := rfl
theorem t5_59 : q_tb (PP 5) 59 = some (.invokevirtual 73, 3, []) := rfl
theorem t5_62 : q_tb (PP 5) 62 = some (.iconst 1, 1, []) := rfl
theorem t5_63 : q_tb (PP 5) 63 = some (.ireturn, 1, []) := rfl
theorem t6_0 : q_tb (PP 6) 0 = some (.aload_n 0, 1, []) := rfl
theorem t6_1 : q_tb (PP 6) 1 = some (.getfield 12, 3, []) := rfl
theorem t6_4 : q_tb (PP 6) 4 = some (.aload_n 0, 1, []) := rfl
theorem t6_5 : q_tb (PP 6) 5 = some (.getfield 45, 3, []) := rfl
theorem t6_8 : q_tb (PP 6) 8 = some (.aload_n 0, 1, []) := rfl
theorem t6_9 : q_tb (PP 6) 9 = some (.getfield 23, 3, []) := rfl
theorem t6_12 : q_tb (PP 6) 12 = some (.iconst 0, 1, []) := rfl
theorem t6_13 : q_tb (PP 6) 13 = some (.invokevirtual 109, 3, []) := rfl
theorem t6_16 : q_tb (PP 6) 16 = some (.ireturn, 1, []) := rfl
theorem t7_0 : q_tb (PP 7) 0 = some (.aload_n 0, 1, []) := rfl
theorem t7_1 : q_tb (PP 7) 1 = some (.getfield 12, 3, []) := rfl
theorem t7_4 : q_tb (PP 7) 4 = some (.aload_n 0, 1, []) := rfl
theorem t7_5 : q_tb (PP 7) 5 = some (.getfield 45, 3, []) := rfl
theorem t7_8 : q_tb (PP 7) 8 = some (.aload_n 0, 1, []) := rfl
theorem t7_9 : q_tb (PP 7) 9 = some (.getfield 23, 3, []) := rfl
theorem t7_12 : q_tb (PP 7) 12 = some (.iconst 1, 1, []) := rfl
theorem t7_13 : q_tb (PP 7) 13 = some (.invokevirtual 109, 3, []) := rfl
theorem t7_16 : q_tb (PP 7) 16 = some (.ireturn, 1, []) := rfl
theorem t8_0 : q_tb (PP 8) 0 = some (.aload_n 0, 1, []) := rfl
theorem t8_1 : q_tb (PP 8) 1 = some (.getfield 45, 3, []) := rfl
theorem t8_4 : q_tb (PP 8) 4 = some (.iload_n 1, 1, []) := rfl
theorem t8_5 : q_tb (PP 8) 5 = some (.iload_n 2, 1, []) := rfl
theorem t8_6 : q_tb (PP 8) 6 = some (.invokevirtual 113, 3, []) := rfl
theorem t8_9 : q_tb (PP 8) 9 = some (.ifCond .ne 11, 3, []) := rfl
theorem t8_12 : q_tb (PP 8) 12 = some (.athrow, 3, []) := rfl
theorem t8_15 : q_tb (PP 8) 15 = some (.dup, 1, []) := rfl
theorem t8_16 : q_tb (PP 8) 16 = some (.invokespecial 118, 3, []) := rfl
theorem t8_19 : q_tb (PP 8) 19 = some (.athrow, 1, []) := rfl
theorem t8_20 : q_tb (PP 8) 20 = some (.aload_n 0, 1, []) := rfl
theorem t8_21 : q_tb (PP 8) 21 = some (.getfield 23, 3, []) := rfl
theorem t8_24 : q_tb (PP 8) 24 = some (.iload_n 1, 1, []) := rfl
theorem t8_25 : q_tb (PP 8) 25 = some (.iload_n 2, 1, []) := rfl
theorem t8_26 : q_tb (PP 8) 26 = some (.invokestatic 119, 3, []) := rfl
theorem t8_29 : q_tb (PP 8) 29 = some (.iaload, 1, []) := rfl
theorem t8_30 : q_tb (PP 8) 30 = some (.ireturn, 1, []) := rfl
theorem t9_0 : q_tb (PP 9) 0 = some (.aload_n 0, 1, []) := rfl
theorem t9_1 : q_tb (PP 9) 1 = some (.getfield 45, 3, []) := rfl
theorem t9_4 : q_tb (PP 9) 4 = some (.iload_n 1, 1, []) := rfl
theorem t9_5 : q_tb (PP 9) 5 = some (.iload_n 2, 1, []) := rfl
theorem t9_6 : q_tb (PP 9) 6 = some (.invokevirtual 113, 3, []) := rfl
theorem t9_9 : q_tb (PP 9) 9 = some (.ifCond .eq 13, 3, []) := rfl
theorem t9_12 : q_tb (PP 9) 12 = some (.iload_n 3, 1, []) := rfl
theorem t9_13 : q_tb (PP 9) 13 = some (.iconst 0, 1, []) := rfl
theorem t9_14 : q_tb (PP 9) 14 = some (.bipush 63, 2, []) := rfl
theorem t9_16 : q_tb (PP 9) 16 = some (.invokestatic 38, 3, []) := rfl
theorem t9_19 : q_tb (PP 9) 19 = some (.ifCond .ne 5, 3, []) := rfl
theorem t9_22 : q_tb (PP 9) 22 = some (.iconst 0, 1, [0, 1, 2, 3]) := rfl
theorem t9_23 : q_tb (PP 9) 23 = some (.ireturn, 1, []) := rfl
theorem t9_24 : q_tb (PP 9) 24 = some (.aload_n 0, 1, []) := rfl
theorem t9_25 : q_tb (PP 9) 25 = some (.getfield 23, 3, []) := rfl
theorem t9_28 : q_tb (PP 9) 28 = some (.iload_n 1, 1, []) := rfl
theorem t9_29 : q_tb (PP 9) 29 = some (.iload_n 2, 1, []) := rfl
theorem t9_30 : q_tb (PP 9) 30 = some (.invokestatic 119, 3, []) := rfl
theorem t9_33 : q_tb (PP 9) 33 = some (.iload_n 3, 1, []) := rfl
theorem t9_34 : q_tb (PP 9) 34 = some (.iastore, 1, []) := rfl
theorem t9_35 : q_tb (PP 9) 35 = some (.iconst 1, 1, []) := rfl
theorem t9_36 : q_tb (PP 9) 36 = some (.ireturn, 1, []) := rfl
theorem t10_0 : q_tb (PP 10) 0 = some (.aload_n 0, 1, []) := rfl
theorem t10_1 : q_tb (PP 10) 1 = some (.getfield 45, 3, []) := rfl
theorem t10_4 : q_tb (PP 10) 4 = some (.aload_n 0, 1, []) := rfl
theorem t10_5 : q_tb (PP 10) 5 = some (.getfield 23, 3, []) := rfl
theorem t10_8 : q_tb (PP 10) 8 = some (.invokevirtual 123, 3, []) := rfl
theorem t10_11 : q_tb (PP 10) 11 = some (.ireturn, 1, []) := rfl
theorem t11_0 : q_tb (PP 11) 0 = some (.iload_n 1, 1, []) := rfl
theorem t11_1 : q_tb (PP 11) 1 = some (.iconst 0, 1, []) := rfl
theorem t11_2 : q_tb (PP 11) 2 = some (.iconst 2, 1, []) := rfl
theorem t11_3 : q_tb (PP 11) 3 = some (.invokestatic 38, 3, []) := rfl
theorem t11_6 : q_tb (PP 11) 6 = some (.ifCond .ne 11, 3, []) := rfl
theorem t11_9 : q_tb (PP 11) 9 = some (.athrow, 3, []) := rfl
theorem t11_12 : q_tb (PP 11) 12 = some (.dup, 1, []) := rfl
theorem t11_13 : q_tb (PP 11) 13 = some (.invokespecial 55, 3, []) := rfl
theorem t11_16 : q_tb (PP 11) 16 = some (.athrow, 1, []) := rfl
theorem t11_17 : q_tb (PP 11) 17 = some (.aload_n 0, 1, []) := rfl
theorem t11_18 : q_tb (PP 11) 18 = some (.getfield 45, 3, []) := rfl
theorem t11_21 : q_tb (PP 11) 21 = some (.aload_n 0, 1, []) := rfl
theorem t11_22 : q_tb (PP 11) 22 = some (.getfield 23, 3, []) := rfl
theorem t11_25 : q_tb (PP 11) 25 = some (.invokevirtual 123, 3, []) := rfl
theorem t11_28 : q_tb (PP 11) 28 = some (.ifCond .eq 11, 3, []) := rfl
theorem t11_31 : q_tb (PP 11) 31 = some (.athrow, 3, []) := rfl
theorem t11_34 : q_tb (PP 11) 34 = some (.dup, 1, []) := rfl
theorem t11_35 : q_tb (PP 11) 35 = some (.invokespecial 62, 3, []) := rfl
theorem t11_38 : q_tb (PP 11) 38 = some (.athrow, 1, []) := rfl
theorem t11_39 : q_tb (PP 11) 39 = some (.iload_n 1, 1, []) := rfl
theorem t11_40 : q_tb (PP 11) 40 = some (.iconst 2, 1, []) := rfl
theorem t11_41 : q_tb (PP 11) 41 = some (.if_icmp .ne 7, 3, []) := rfl
theorem t11_44 : q_tb (PP 11) 44 = some (.iconst 0, 1, []) := rfl
theorem t11_45 : q_tb (PP 11) 45 = some (.goto 14, 3, []) := rfl
theorem t11_48 : q_tb (PP 11) 48 = some (.aload_n 0, 1, []) := rfl
theorem t11_49 : q_tb (PP 11) 49 = some (.getfield 45, 3, []) := rfl
theorem t11_52 : q_tb (PP 11) 52 = some (.aload_n 0, 1, []) := rfl
theorem t11_53 : q_tb (PP 11) 53 = some (.getfield 23, 3, []) := rfl
theorem t11_56 : q_tb (PP 11) 56 = some (.invokevirtual 127, 3, []) := rfl
theorem t11_59 : q_tb (PP 11) 59 = some (.istore_n 2, 1, []) := rfl
theorem t11_60 : q_tb (PP 11) 60 = some (.iload_n 1, 1, []) := rfl
theorem t11_61 : q_tb (PP 11) 61 = some (.iconst 1, 1, []) := rfl
theorem t11_62 : q_tb (PP 11) 62 = some (.if_icmp .ne 7, 3, []) := rfl
theorem t11_65 : q_tb (PP 11) 65 = some (.iconst 0, 1, []) := rfl
theorem t11_66 : q_tb (PP 11) 66 = some (.goto 14, 3, []) := rfl
theorem t11_69 : q_tb (PP 11) 69 = some (.aload_n 0, 1, []) := rfl
theorem t11_70 : q_tb (PP 11) 70 = some (.getfield 45, 3, []) := rfl
theorem t11_73 : q_tb (PP 11) 73 = some (.aload_n 0, 1, []) := rfl
theorem t11_74 : q_tb (PP 11) 74 = some (.getfield 23, 3, []) := rfl
theorem t11_77 : q_tb (PP 11) 77 = some (.invokevirtual 130, 3, []) := rfl
theorem t11_80 : q_tb (PP 11) 80 = some (.istore_n 3, 1, [0, 1]) := rfl
theorem t11_81 : q_tb (PP 11) 81 = some (.iload_n 2, 1, []) := rfl
theorem t11_82 : q_tb (PP 11) 82 = some (.iload_n 3, 1, []) := rfl
theorem t11_83 : q_tb (PP 11) 83 = some (.iadd, 1, []) := rfl
theorem t11_84 : q_tb (PP 11) 84 = some (.ireturn, 1, []) := rfl
theorem t12_0 : q_tb (PP 12) 0 = some (.aload_n 0, 1, []) := rfl
theorem t12_1 : q_tb (PP 12) 1 = some (.getfield 45, 3, []) := rfl
theorem t12_4 : q_tb (PP 12) 4 = some (.iload_n 1, 1, []) := rfl
theorem t12_5 : q_tb (PP 12) 5 = some (.invokevirtual 100, 3, []) := rfl
theorem t12_8 : q_tb (PP 12) 8 = some (.ifCond .eq 14, 3, []) := rfl
theorem t12_11 : q_tb (PP 12) 11 = some (.iload_n 2, 1, []) := rfl
theorem t12_12 : q_tb (PP 12) 12 = some (.ldc 133, 2, []) := rfl
theorem t12_14 : q_tb (PP 12) 14 = some (.ldc 134, 2, []) := rfl
theorem t12_16 : q_tb (PP 12) 16 = some (.invokestatic 38, 3, []) := rfl
theorem t12_19 : q_tb (PP 12) 19 = some (.ifCond .ne 5, 3, []) := rfl
theorem t12_22 : q_tb (PP 12) 22 = some (.iconst 0, 1, [0, 1, 2]) := rfl
theorem t12_23 : q_tb (PP 12) 23 = some (.ireturn, 1, []) := rfl
theorem t12_24 : q_tb (PP 12) 24 = some (.aload_n 0, 1, []) := rfl
theorem t12_25 : q_tb (PP 12) 25 = some (.getfield 19, 3, []) := rfl
theorem t12_28 : q_tb (PP 12) 28 = some (.getfield 135, 3, []) := rfl
theorem t12_31 : q_tb (PP 12) 31 = some (.iload_n 1, 1, []) := rfl
theorem t12_32 : q_tb (PP 12) 32 = some (.iload_n 2, 1, []) := rfl
theorem t12_33 : q_tb (PP 12) 33 = some (.iastore, 1, []) := rfl
theorem t12_34 : q_tb (PP 12) 34 = some (.aload_n 0, 1, []) := rfl
theorem t12_35 : q_tb (PP 12) 35 = some (.getfield 19, 3, []) := rfl
theorem t12_38 : q_tb (PP 12) 38 = some (.invokevirtual 73, 3, []) := rfl
theorem t12_41 : q_tb (PP 12) 41 = some (.iconst 1, 1, []) := rfl
theorem t12_42 : q_tb (PP 12) 42 = some (.ireturn, 1, []) := rfl
theorem t13_0 : q_tb (PP 13) 0 = some (.aload_n 0, 1, []) := rfl
theorem t13_1 : q_tb (PP 13) 1 = some (.getfield 45, 3, []) := rfl
theorem t13_4 : q_tb (PP 13) 4 = some (.iload_n 1, 1, []) := rfl
theorem t13_5 : q_tb (PP 13) 5 = some (.invokevirtual 100, 3, []) := rfl
theorem t13_8 : q_tb (PP 13) 8 = some (.ifCond .ne 11, 3, []) := rfl
theorem t13_11 : q_tb (PP 13) 11 = some (.athrow, 3, []) := rfl
theorem t13_14 : q_tb (PP 13) 14 = some (.dup, 1, []) := rfl
theorem t13_15 : q_tb (PP 13) 15 = some (.invokespecial 118, 3, []) := rfl
theorem t13_18 : q_tb (PP 13) 18 = some (.athrow, 1, []) := rfl
theorem t13_19 : q_tb (PP 13) 19 = some (.aload_n 0, 1, []) := rfl
theorem t13_20 : q_tb (PP 13) 20 = some (.getfield 19, 3, []) := rfl
theorem t13_23 : q_tb (PP 13) 23 = some (.getfield 135, 3, []) := rfl
theorem t13_26 : q_tb (PP 13) 26 = some (.iload_n 1, 1, []) := rfl
theorem t13_27 : q_tb (PP 13) 27 = some (.iaload, 1, []) := rfl
theorem t13_28 : q_tb (PP 13) 28 = some (.ireturn, 1, []) := rfl
theorem t14_0 : q_tb (PP 14) 0 = some (.aload_n 0, 1, []) := rfl
theorem t14_1 : q_tb (PP 14) 1 = some (.getfield 45, 3, []) := rfl
theorem t14_4 : q_tb (PP 14) 4 = some (.iload_n 1, 1, []) := rfl
theorem t14_5 : q_tb (PP 14) 5 = some (.invokevirtual 76, 3, []) := rfl
theorem t14_8 : q_tb (PP 14) 8 = some (.ifCond .ne 11, 3, []) := rfl
theorem t14_11 : q_tb (PP 14) 11 = some (.athrow, 3, []) := rfl
theorem t14_14 : q_tb (PP 14) 14 = some (.dup, 1, []) := rfl
theorem t14_15 : q_tb (PP 14) 15 = some (.invokespecial 118, 3, []) := rfl
theorem t14_18 : q_tb (PP 14) 18 = some (.athrow, 1, []) := rfl
theorem t14_19 : q_tb (PP 14) 19 = some (.aload_n 0, 1, []) := rfl
theorem t14_20 : q_tb (PP 14) 20 = some (.getfield 19, 3, []) := rfl
theorem t14_23 : q_tb (PP 14) 23 = some (.aload_n 0, 1, []) := rfl
theorem t14_24 : q_tb (PP 14) 24 = some (.getfield 45, 3, []) := rfl
theorem t14_27 : q_tb (PP 14) 27 = some (.invokevirtual 138, 3, []) := rfl
theorem t14_30 : q_tb (PP 14) 30 = some (.aload_n 0, 1, []) := rfl
theorem t14_31 : q_tb (PP 14) 31 = some (.getfield 19, 3, []) := rfl
theorem t14_34 : q_tb (PP 14) 34 = some (.getfield 142, 3, []) := rfl
theorem t14_37 : q_tb (PP 14) 37 = some (.iload_n 1, 1, []) := rfl
theorem t14_38 : q_tb (PP 14) 38 = some (.laload, 1, []) := rfl
theorem t14_39 : q_tb (PP 14) 39 = some (.lreturn, 1, []) := rfl
theorem t15_0 : q_tb (PP 15) 0 = some (.aload_n 0, 1, []) := rfl
theorem t15_1 : q_tb (PP 15) 1 = some (.getfield 45, 3, []) := rfl
theorem t15_4 : q_tb (PP 15) 4 = some (.iload_n 1, 1, []) := rfl
theorem t15_5 : q_tb (PP 15) 5 = some (.iload_n 2, 1, []) := rfl
theorem t15_6 : q_tb (PP 15) 6 = some (.invokevirtual 113, 3, []) := rfl
theorem t15_9 : q_tb (PP 15) 9 = some (.ifCond .ne 11, 3, []) := rfl
theorem t15_12 : q_tb (PP 15) 12 = some (.athrow, 3, []) := rfl
theorem t15_15 : q_tb (PP 15) 15 = some (.dup, 1, []) := rfl
theorem t15_16 : q_tb (PP 15) 16 = some (.invokespecial 118, 3, []) := rfl
theorem t15_19 : q_tb (PP 15) 19 = some (.athrow, 1, []) := rfl
theorem t15_20 : q_tb (PP 15) 20 = some (.aload_n 0, 1, []) := rfl
theorem t15_21 : q_tb (PP 15) 21 = some (.getfield 19, 3, []) := rfl
theorem t15_24 : q_tb (PP 15) 24 = some (.aload_n 0, 1, []) := rfl
theorem t15_25 : q_tb (PP 15) 25 = some (.getfield 45, 3, []) := rfl
theorem t15_28 : q_tb (PP 15) 28 = some (.invokevirtual 138, 3, []) := rfl
theorem t15_31 : q_tb (PP 15) 31 = some (.aload_n 0, 1, []) := rfl
theorem t15_32 : q_tb (PP 15) 32 = some (.getfield 19, 3, []) := rfl
theorem t15_35 : q_tb (PP 15) 35 = some (.getfield 146, 3, []) := rfl
theorem t15_38 : q_tb (PP 15) 38 = some (.iload_n 1, 1, []) := rfl
theorem t15_39 : q_tb (PP 15) 39 = some (.iload_n 2, 1, []) := rfl
theorem t15_40 : q_tb (PP 15) 40 = some (.invokestatic 119, 3, []) := rfl
theorem t15_43 : q_tb (PP 15) 43 = some (.iaload, 1, []) := rfl
theorem t15_44 : q_tb (PP 15) 44 = some (.ireturn, 1, []) := rfl
theorem t16_0 : q_tb (PP 16) 0 = some (.aload_n 0, 1, []) := rfl
theorem t16_1 : q_tb (PP 16) 1 = some (.getfield 19, 3, []) := rfl
theorem t16_4 : q_tb (PP 16) 4 = some (.aload_n 0, 1, []) := rfl
theorem t16_5 : q_tb (PP 16) 5 = some (.getfield 45, 3, []) := rfl
theorem t16_8 : q_tb (PP 16) 8 = some (.invokevirtual 138, 3, []) := rfl
theorem t16_11 : q_tb (PP 16) 11 = some (.aload_n 0, 1, []) := rfl
theorem t16_12 : q_tb (PP 16) 12 = some (.getfield 19, 3, []) := rfl
theorem t16_15 : q_tb (PP 16) 15 = some (.aload_n 0, 1, []) := rfl
theorem t16_16 : q_tb (PP 16) 16 = some (.getfield 45, 3, []) := rfl
theorem t16_19 : q_tb (PP 16) 19 = some (.invokevirtual 149, 3, []) := rfl
theorem t16_22 : q_tb (PP 16) 22 = some (.lreturn, 1, []) := rfl
theorem t17_0 : q_tb (PP 17) 0 = some (.iload_n 1, 1, []) := rfl
theorem t17_1 : q_tb (PP 17) 1 = some (.iconst 1, 1, []) := rfl
theorem t17_2 : q_tb (PP 17) 2 = some (.bipush 40, 2, []) := rfl
theorem t17_4 : q_tb (PP 17) 4 = some (.invokestatic 38, 3, []) := rfl
theorem t17_7 : q_tb (PP 17) 7 = some (.ifCond .ne 11, 3, []) := rfl
theorem t17_10 : q_tb (PP 17) 10 = some (.athrow, 3, []) := rfl
theorem t17_13 : q_tb (PP 17) 13 = some (.dup, 1, []) := rfl
theorem t17_14 : q_tb (PP 17) 14 = some (.invokespecial 55, 3, []) := rfl
theorem t17_17 : q_tb (PP 17) 17 = some (.athrow, 1, []) := rfl
theorem t17_18 : q_tb (PP 17) 18 = some (.aload_n 0, 1, []) := rfl
theorem t17_19 : q_tb (PP 17) 19 = some (.getfield 19, 3, []) := rfl
theorem t17_22 : q_tb (PP 17) 22 = some (.aload_n 0, 1, []) := rfl
theorem t17_23 : q_tb (PP 17) 23 = some (.getfield 45, 3, []) := rfl
theorem t17_26 : q_tb (PP 17) 26 = some (.invokevirtual 138, 3, []) := rfl
theorem t17_29 : q_tb (PP 17) 29 = some (.iconst 0, 1, []) := rfl
theorem t17_30 : q_tb (PP 17) 30 = some (.istore_n 2, 1, []) := rfl
theorem t17_31 : q_tb (PP 17) 31 = some (.iload_n 2, 1, []) := rfl
theorem t17_32 : q_tb (PP 17) 32 = some (.iload_n 1, 1, []) := rfl
theorem t17_33 : q_tb (PP 17) 33 = some (.if_icmp .ge 20, 3, []) := rfl
theorem t17_36 : q_tb (PP 17) 36 = some (.aload_n 0, 1, []) := rfl
theorem t17_37 : q_tb (PP 17) 37 = some (.getfield 19, 3, []) := rfl
theorem t17_40 : q_tb (PP 17) 40 = some (.aload_n 0, 1, []) := rfl
theorem t17_41 : q_tb (PP 17) 41 = some (.getfield 45, 3, []) := rfl
theorem t17_44 : q_tb (PP 17) 44 = some (.invokevirtual 153, 3, []) := rfl
theorem t17_47 : q_tb (PP 17) 47 = some (.iinc 2 1, 3, []) := rfl
theorem t17_50 : q_tb (PP 17) 50 = some (.goto (-19), 3, []) := rfl
theorem t17_53 : q_tb (PP 17) 53 = some (.aload_n 0, 1, []) := rfl
theorem t17_54 : q_tb (PP 17) 54 = some (.getfield 19, 3, []) := rfl
theorem t17_57 : q_tb (PP 17) 57 = some (.getfield 156, 3, []) := rfl
theorem t17_60 : q_tb (PP 17) 60 = some (.lreturn, 1, []) := rfl
theorem t18_0 : q_tb (PP 18) 0 = some (.iload_n 1, 1, []) := rfl
theorem t18_1 : q_tb (PP 18) 1 = some (.iconst 0, 1, []) := rfl
theorem t18_2 : q_tb (PP 18) 2 = some (.iconst 3, 1, []) := rfl
theorem t18_3 : q_tb (PP 18) 3 = some (.invokestatic 38, 3, []) := rfl
theorem t18_6 : q_tb (PP 18) 6 = some (.ifCond .ne 5, 3, []) := rfl
theorem t18_9 : q_tb (PP 18) 9 = some (.iconst 0, 1, []) := rfl
theorem t18_10 : q_tb (PP 18) 10 = some (.ireturn, 1, []) := rfl
theorem t18_11 : q_tb (PP 18) 11 = some (.aload_n 0, 1, []) := rfl
theorem t18_12 : q_tb (PP 18) 12 = some (.getfield 23, 3, []) := rfl
theorem t18_15 : q_tb (PP 18) 15 = some (.iconst 0, 1, []) := rfl
theorem t18_16 : q_tb (PP 18) 16 = some (.aload_n 0, 1, []) := rfl
theorem t18_17 : q_tb (PP 18) 17 = some (.getfield 29, 3, []) := rfl
theorem t18_20 : q_tb (PP 18) 20 = some (.iload_n 1, 1, []) := rfl
theorem t18_21 : q_tb (PP 18) 21 = some (.aaload, 1, []) := rfl
theorem t18_22 : q_tb (PP 18) 22 = some (.iconst 0, 1, []) := rfl
theorem t18_23 : q_tb (PP 18) 23 = some (.bipush 24, 2, []) := rfl
theorem t18_25 : q_tb (PP 18) 25 = some (.invokestatic 160, 3, []) := rfl
theorem t18_28 : q_tb (PP 18) 28 = some (.aload_n 0, 1, []) := rfl
theorem t18_29 : q_tb (PP 18) 29 = some (.getfield 32, 3, []) := rfl
theorem t18_32 : q_tb (PP 18) 32 = some (.iload_n 1, 1, []) := rfl
theorem t18_33 : q_tb (PP 18) 33 = some (.iconst 1, 1, []) := rfl
theorem t18_34 : q_tb (PP 18) 34 = some (.bastore, 1, []) := rfl
theorem t18_35 : q_tb (PP 18) 35 = some (.iconst 1, 1, []) := rfl
theorem t18_36 : q_tb (PP 18) 36 = some (.ireturn, 1, []) := rfl
theorem t19_0 : q_tb (PP 19) 0 = some (.iload_n 1, 1, []) := rfl
theorem t19_1 : q_tb (PP 19) 1 = some (.iconst 0, 1, []) := rfl
theorem t19_2 : q_tb (PP 19) 2 = some (.iconst 3, 1, []) := rfl
theorem t19_3 : q_tb (PP 19) 3 = some (.invokestatic 38, 3, []) := rfl
theorem t19_6 : q_tb (PP 19) 6 = some (.ifCond .eq 12, 3, []) := rfl
theorem t19_9 : q_tb (PP 19) 9 = some (.aload_n 0, 1, []) := rfl
theorem t19_10 : q_tb (PP 19) 10 = some (.getfield 32, 3, []) := rfl
theorem t19_13 : q_tb (PP 19) 13 = some (.iload_n 1, 1, []) := rfl
theorem t19_14 : q_tb (PP 19) 14 = some (.baload, 1, []) := rfl
theorem t19_15 : q_tb (PP 19) 15 = some (.ifCond .ne 5, 3, []) := rfl
theorem t19_18 : q_tb (PP 19) 18 = some (.iconst 0, 1, [0, 1]) := rfl
theorem t19_19 : q_tb (PP 19) 19 = some (.ireturn, 1, []) := rfl
theorem t19_20 : q_tb (PP 19) 20 = some (.aload_n 0, 1, []) := rfl
theorem t19_21 : q_tb (PP 19) 21 = some (.getfield 29, 3, []) := rfl
theorem t19_24 : q_tb (PP 19) 24 = some (.iload_n 1, 1, []) := rfl
theorem t19_25 : q_tb (PP 19) 25 = some (.aaload, 1, []) := rfl
theorem t19_26 : q_tb (PP 19) 26 = some (.iconst 0, 1, []) := rfl
theorem t19_27 : q_tb (PP 19) 27 = some (.aload_n 0, 1, []) := rfl
theorem t19_28 : q_tb (PP 19) 28 = some (.getfield 23, 3, []) := rfl
theorem t19_31 : q_tb (PP 19) 31 = some (.iconst 0, 1, []) := rfl
theorem t19_32 : q_tb (PP 19) 32 = some (.bipush 24, 2, []) := rfl
theorem t19_34 : q_tb (PP 19) 34 = some (.invokestatic 160, 3, []) := rfl
theorem t19_37 : q_tb (PP 19) 37 = some (.iconst 1, 1, []) := rfl
theorem t19_38 : q_tb (PP 19) 38 = some (.ireturn, 1, []) := rfl
theorem t20_0 : q_tb (PP 20) 0 = some (.iload_n 1, 1, []) := rfl
theorem t20_1 : q_tb (PP 20) 1 = some (.tableswitch 60 0 3 #[31, 39, 47, 55], 31, []) := rfl
theorem t20_32 : q_tb (PP 20) 32 = some (.aload_n 0, 1, []) := rfl
theorem t20_33 : q_tb (PP 20) 33 = some (.getfield 45, 3, []) := rfl
theorem t20_36 : q_tb (PP 20) 36 = some (.getfield 56, 3, []) := rfl
theorem t20_39 : q_tb (PP 20) 39 = some (.ireturn, 1, []) := rfl
theorem t20_40 : q_tb (PP 20) 40 = some (.aload_n 0, 1, []) := rfl
theorem t20_41 : q_tb (PP 20) 41 = some (.getfield 45, 3, []) := rfl
theorem t20_44 : q_tb (PP 20) 44 = some (.getfield 166, 3, []) := rfl
theorem t20_47 : q_tb (PP 20) 47 = some (.ireturn, 1, []) := rfl
theorem t20_48 : q_tb (PP 20) 48 = some (.aload_n 0, 1, []) := rfl
theorem t20_49 : q_tb (PP 20) 49 = some (.getfield 19, 3, []) := rfl
theorem t20_52 : q_tb (PP 20) 52 = some (.getfield 169, 3, []) := rfl
theorem t20_55 : q_tb (PP 20) 55 = some (.ireturn, 1, []) := rfl
theorem t20_56 : q_tb (PP 20) 56 = some (.aload_n 0, 1, []) := rfl
theorem t20_57 : q_tb (PP 20) 57 = some (.invokevirtual 172, 3, []) := rfl
theorem t20_60 : q_tb (PP 20) 60 = some (.ireturn, 1, []) := rfl
theorem t20_61 : q_tb (PP 20) 61 = some (.aload_n 0, 1, []) := rfl
theorem t20_62 : q_tb (PP 20) 62 = some (.iload_n 1, 1, []) := rfl
theorem t20_63 : q_tb (PP 20) 63 = some (.invokevirtual 176, 3, []) := rfl
theorem t20_66 : q_tb (PP 20) 66 = some (.ireturn, 1, []) := rfl
theorem t21_0 : q_tb (PP 21) 0 = some (.iload_n 1, 1, []) := rfl
theorem t21_1 : q_tb (PP 21) 1 = some (.bipush 20, 2, []) := rfl
theorem t21_3 : q_tb (PP 21) 3 = some (.if_icmp .lt 34, 3, []) := rfl
theorem t21_6 : q_tb (PP 21) 6 = some (.aload_n 0, 1, []) := rfl
theorem t21_7 : q_tb (PP 21) 7 = some (.getfield 45, 3, []) := rfl
theorem t21_10 : q_tb (PP 21) 10 = some (.iload_n 1, 1, []) := rfl
theorem t21_11 : q_tb (PP 21) 11 = some (.bipush 20, 2, []) := rfl
theorem t21_13 : q_tb (PP 21) 13 = some (.isub, 1, []) := rfl
theorem t21_14 : q_tb (PP 21) 14 = some (.invokevirtual 100, 3, []) := rfl
theorem t21_17 : q_tb (PP 21) 17 = some (.ifCond .eq 18, 3, []) := rfl
theorem t21_20 : q_tb (PP 21) 20 = some (.aload_n 0, 1, []) := rfl
theorem t21_21 : q_tb (PP 21) 21 = some (.getfield 45, 3, []) := rfl
theorem t21_24 : q_tb (PP 21) 24 = some (.getfield 106, 3, []) := rfl
theorem t21_27 : q_tb (PP 21) 27 = some (.iload_n 1, 1, []) := rfl
theorem t21_28 : q_tb (PP 21) 28 = some (.bipush 20, 2, []) := rfl
theorem t21_30 : q_tb (PP 21) 30 = some (.isub, 1, []) := rfl
theorem t21_31 : q_tb (PP 21) 31 = some (.iaload, 1, []) := rfl
theorem t21_32 : q_tb (PP 21) 32 = some (.goto 4, 3, []) := rfl
theorem t21_35 : q_tb (PP 21) 35 = some (.iconst (-1), 1, []) := rfl
theorem t21_36 : q_tb (PP 21) 36 = some (.ireturn, 1, [0, 1]) := rfl
theorem t21_37 : q_tb (PP 21) 37 = some (.iload_n 1, 1, []) := rfl
theorem t21_38 : q_tb (PP 21) 38 = some (.bipush 10, 2, []) := rfl
theorem t21_40 : q_tb (PP 21) 40 = some (.if_icmp .lt 34, 3, []) := rfl
theorem t21_43 : q_tb (PP 21) 43 = some (.aload_n 0, 1, []) := rfl
theorem t21_44 : q_tb (PP 21) 44 = some (.getfield 45, 3, []) := rfl
theorem t21_47 : q_tb (PP 21) 47 = some (.iload_n 1, 1, []) := rfl
theorem t21_48 : q_tb (PP 21) 48 = some (.bipush 10, 2, []) := rfl
theorem t21_50 : q_tb (PP 21) 50 = some (.isub, 1, []) := rfl
theorem t21_51 : q_tb (PP 21) 51 = some (.invokevirtual 100, 3, []) := rfl
theorem t21_54 : q_tb (PP 21) 54 = some (.ifCond .eq 18, 3, []) := rfl
theorem t21_57 : q_tb (PP 21) 57 = some (.aload_n 0, 1, []) := rfl
theorem t21_58 : q_tb (PP 21) 58 = some (.getfield 45, 3, []) := rfl
theorem t21_61 : q_tb (PP 21) 61 = some (.getfield 103, 3, []) := rfl
theorem t21_64 : q_tb (PP 21) 64 = some (.iload_n 1, 1, []) := rfl
theorem t21_65 : q_tb (PP 21) 65 = some (.bipush 10, 2, []) := rfl
theorem t21_67 : q_tb (PP 21) 67 = some (.isub, 1, []) := rfl
theorem t21_68 : q_tb (PP 21) 68 = some (.iaload, 1, []) := rfl
theorem t21_69 : q_tb (PP 21) 69 = some (.goto 4, 3, []) := rfl
theorem t21_72 : q_tb (PP 21) 72 = some (.iconst (-1), 1, []) := rfl
theorem t21_73 : q_tb (PP 21) 73 = some (.ireturn, 1, [0, 1]) := rfl
theorem t21_74 : q_tb (PP 21) 74 = some (.iconst (-1), 1, []) := rfl
theorem t21_75 : q_tb (PP 21) 75 = some (.ireturn, 1, []) := rfl
theorem t22_0 : q_tb (PP 22) 0 = some (.iconst 0, 1, []) := rfl
theorem t22_1 : q_tb (PP 22) 1 = some (.istore_n 1, 1, []) := rfl
theorem t22_2 : q_tb (PP 22) 2 = some (.iconst 0, 1, []) := rfl
theorem t22_3 : q_tb (PP 22) 3 = some (.istore_n 2, 1, []) := rfl
theorem t22_4 : q_tb (PP 22) 4 = some (.iload_n 2, 1, []) := rfl
theorem t22_5 : q_tb (PP 22) 5 = some (.iconst 4, 1, []) := rfl
theorem t22_6 : q_tb (PP 22) 6 = some (.if_icmp .ge 26, 3, []) := rfl
theorem t22_9 : q_tb (PP 22) 9 = some (.iload_n 1, 1, []) := rfl
theorem t22_10 : q_tb (PP 22) 10 = some (.aload_n 0, 1, []) := rfl
theorem t22_11 : q_tb (PP 22) 11 = some (.getfield 32, 3, []) := rfl
theorem t22_14 : q_tb (PP 22) 14 = some (.iload_n 2, 1, []) := rfl
theorem t22_15 : q_tb (PP 22) 15 = some (.baload, 1, []) := rfl
theorem t22_16 : q_tb (PP 22) 16 = some (.ifCond .eq 7, 3, []) := rfl
theorem t22_19 : q_tb (PP 22) 19 = some (.iconst 1, 1, []) := rfl
theorem t22_20 : q_tb (PP 22) 20 = some (.goto 4, 3, []) := rfl
theorem t22_23 : q_tb (PP 22) 23 = some (.iconst 0, 1, []) := rfl
theorem t22_24 : q_tb (PP 22) 24 = some (.iadd, 1, [1]) := rfl
theorem t22_25 : q_tb (PP 22) 25 = some (.istore_n 1, 1, []) := rfl
theorem t22_26 : q_tb (PP 22) 26 = some (.iinc 2 1, 3, []) := rfl
theorem t22_29 : q_tb (PP 22) 29 = some (.goto (-25), 3, []) := rfl
theorem t22_32 : q_tb (PP 22) 32 = some (.iload_n 1, 1, []) := rfl
theorem t22_33 : q_tb (PP 22) 33 = some (.ireturn, 1, []) := rfl
theorem t23_0 : q_tb (PP 23) 0 = some (.iload_n 1, 1, []) := rfl
theorem t23_1 : q_tb (PP 23) 1 = some (.iload_n 0, 1, []) := rfl
theorem t23_2 : q_tb (PP 23) 2 = some (.if_icmp .gt 12, 3, []) := rfl
theorem t23_5 : q_tb (PP 23) 5 = some (.iload_n 0, 1, []) := rfl
theorem t23_6 : q_tb (PP 23) 6 = some (.iload_n 2, 1, []) := rfl
theorem t23_7 : q_tb (PP 23) 7 = some (.if_icmp .gt 7, 3, []) := rfl
theorem t23_10 : q_tb (PP 23) 10 = some (.iconst 1, 1, []) := rfl
theorem t23_11 : q_tb (PP 23) 11 = some (.goto 4, 3, []) := rfl
theorem t23_14 : q_tb (PP 23) 14 = some (.iconst 0, 1, [0, 1, 2]) := rfl
theorem t23_15 : q_tb (PP 23) 15 = some (.ireturn, 1, [0, 1, 2]) := rfl
theorem t24_0 : q_tb (PP 24) 0 = some (.iload_n 0, 1, []) := rfl
theorem t24_1 : q_tb (PP 24) 1 = some (.iconst 1, 1, []) := rfl
theorem t24_2 : q_tb (PP 24) 2 = some (.bipush 60, 2, []) := rfl
theorem t24_4 : q_tb (PP 24) 4 = some (.invokestatic 38, 3, []) := rfl
theorem t24_7 : q_tb (PP 24) 7 = some (.ifCond .eq 24, 3, []) := rfl
theorem t24_10 : q_tb (PP 24) 10 = some (.iload_n 1, 1, []) := rfl
theorem t24_11 : q_tb (PP 24) 11 = some (.iload_n 0, 1, []) := rfl
theorem t24_12 : q_tb (PP 24) 12 = some (.iload_n 0, 1, []) := rfl
theorem t24_13 : q_tb (PP 24) 13 = some (.iconst 3, 1, []) := rfl
theorem t24_14 : q_tb (PP 24) 14 = some (.iadd, 1, []) := rfl
theorem t24_15 : q_tb (PP 24) 15 = some (.invokestatic 38, 3, []) := rfl
theorem t24_18 : q_tb (PP 24) 18 = some (.ifCond .eq 13, 3, []) := rfl
theorem t24_21 : q_tb (PP 24) 21 = some (.iload_n 1, 1, []) := rfl
theorem t24_22 : q_tb (PP 24) 22 = some (.bipush 60, 2, []) := rfl
theorem t24_24 : q_tb (PP 24) 24 = some (.if_icmp .gt 7, 3, []) := rfl
theorem t24_27 : q_tb (PP 24) 27 = some (.iconst 1, 1, []) := rfl
theorem t24_28 : q_tb (PP 24) 28 = some (.goto 4, 3, []) := rfl
theorem t24_31 : q_tb (PP 24) 31 = some (.iconst 0, 1, [0, 1]) := rfl
theorem t24_32 : q_tb (PP 24) 32 = some (.ireturn, 1, [0, 1]) := rfl
theorem t25_0 : q_tb (PP 25) 0 = some (.iload_n 0, 1, []) := rfl
theorem t25_1 : q_tb (PP 25) 1 = some (.iconst 0, 1, []) := rfl
theorem t25_2 : q_tb (PP 25) 2 = some (.sipush 10000, 3, []) := rfl
theorem t25_5 : q_tb (PP 25) 5 = some (.invokestatic 38, 3, []) := rfl
theorem t25_8 : q_tb (PP 25) 8 = some (.ireturn, 1, []) := rfl
theorem t26_0 : q_tb (PP 26) 0 = some (.iload_n 0, 1, []) := rfl
theorem t26_1 : q_tb (PP 26) 1 = some (.bipush 8, 2, []) := rfl
theorem t26_3 : q_tb (PP 26) 3 = some (.imul, 1, []) := rfl
theorem t26_4 : q_tb (PP 26) 4 = some (.iload_n 1, 1, []) := rfl
theorem t26_5 : q_tb (PP 26) 5 = some (.iadd, 1, []) := rfl
theorem t26_6 : q_tb (PP 26) 6 = some (.ireturn, 1, []) := rfl
theorem t27_0 : q_tb (PP 27) 0 = some (.aload_n 0, 1, []) := rfl
theorem t27_1 : q_tb (PP 27) 1 = some (.invokespecial 1, 3, []) := rfl
theorem t27_4 : q_tb (PP 27) 4 = some (.aload_n 0, 1, []) := rfl
theorem t27_5 : q_tb (PP 27) 5 = some (.iconst 3, 1, []) := rfl
theorem t27_6 : q_tb (PP 27) 6 = some (.newarray .int, 2, []) := rfl
theorem t27_8 : q_tb (PP 27) 8 = some (.putfield 7, 3, []) := rfl
theorem t27_11 : q_tb (PP 27) 11 = some (.aload_n 0, 1, []) := rfl
theorem t27_12 : q_tb (PP 27) 12 = some (.iconst 3, 1, []) := rfl
theorem t27_13 : q_tb (PP 27) 13 = some (.newarray .int, 2, []) := rfl
theorem t27_15 : q_tb (PP 27) 15 = some (.putfield 13, 3, []) := rfl
theorem t27_18 : q_tb (PP 27) 18 = some (.aload_n 0, 1, []) := rfl
theorem t27_19 : q_tb (PP 27) 19 = some (.iconst 3, 1, []) := rfl
theorem t27_20 : q_tb (PP 27) 20 = some (.newarray .int, 2, []) := rfl
theorem t27_22 : q_tb (PP 27) 22 = some (.putfield 16, 3, []) := rfl
theorem t27_25 : q_tb (PP 27) 25 = some (.aload_n 0, 1, []) := rfl
theorem t27_26 : q_tb (PP 27) 26 = some (.iconst 3, 1, []) := rfl
theorem t27_27 : q_tb (PP 27) 27 = some (.newarray .int, 2, []) := rfl
theorem t27_29 : q_tb (PP 27) 29 = some (.putfield 19, 3, []) := rfl
theorem t27_32 : q_tb (PP 27) 32 = some (.aload_n 0, 1, []) := rfl
theorem t27_33 : q_tb (PP 27) 33 = some (.iconst 3, 1, []) := rfl
theorem t27_34 : q_tb (PP 27) 34 = some (.newarray .int, 2, []) := rfl
theorem t27_36 : q_tb (PP 27) 36 = some (.putfield 22, 3, []) := rfl
theorem t27_39 : q_tb (PP 27) 39 = some (.aload_n 0, 1, []) := rfl
theorem t27_40 : q_tb (PP 27) 40 = some (.bipush 12, 2, []) := rfl
theorem t27_42 : q_tb (PP 27) 42 = some (.newarray .int, 2, []) := rfl
theorem t27_44 : q_tb (PP 27) 44 = some (.putfield 25, 3, []) := rfl
theorem t27_47 : q_tb (PP 27) 47 = some (.aload_n 0, 1, []) := rfl
theorem t27_48 : q_tb (PP 27) 48 = some (.bipush 9, 2, []) := rfl
theorem t27_50 : q_tb (PP 27) 50 = some (.newarray .int, 2, []) := rfl
theorem t27_52 : q_tb (PP 27) 52 = some (.putfield 28, 3, []) := rfl
theorem t27_55 : q_tb (PP 27) 55 = some (.aload_n 0, 1, []) := rfl
theorem t27_56 : q_tb (PP 27) 56 = some (.iconst 3, 1, []) := rfl
theorem t27_57 : q_tb (PP 27) 57 = some (.newarray .int, 2, []) := rfl
theorem t27_59 : q_tb (PP 27) 59 = some (.putfield 31, 3, []) := rfl
theorem t27_62 : q_tb (PP 27) 62 = some (.aload_n 0, 1, []) := rfl
theorem t27_63 : q_tb (PP 27) 63 = some (.iconst 3, 1, []) := rfl
theorem t27_64 : q_tb (PP 27) 64 = some (.newarray .int, 2, []) := rfl
theorem t27_66 : q_tb (PP 27) 66 = some (.putfield 34, 3, []) := rfl
theorem t27_69 : q_tb (PP 27) 69 = some (.aload_n 0, 1, []) := rfl
theorem t27_70 : q_tb (PP 27) 70 = some (.bipush 8, 2, []) := rfl
theorem t27_72 : q_tb (PP 27) 72 = some (.newarray .int, 2, []) := rfl
theorem t27_74 : q_tb (PP 27) 74 = some (.putfield 37, 3, []) := rfl
theorem t27_77 : q_tb (PP 27) 77 = some (.aload_n 0, 1, []) := rfl
theorem t27_78 : q_tb (PP 27) 78 = some (.bipush 8, 2, []) := rfl
theorem t27_80 : q_tb (PP 27) 80 = some (.newarray .int, 2, []) := rfl
theorem t27_82 : q_tb (PP 27) 82 = some (.putfield 40, 3, []) := rfl
theorem t27_85 : q_tb (PP 27) 85 = some (.aload_n 0, 1, []) := rfl
theorem t27_86 : q_tb (PP 27) 86 = some (.bipush 24, 2, []) := rfl
theorem t27_88 : q_tb (PP 27) 88 = some (.newarray .int, 2, []) := rfl
theorem t27_90 : q_tb (PP 27) 90 = some (.putfield 43, 3, []) := rfl
theorem t27_93 : q_tb (PP 27) 93 = some (.aload_n 0, 1, []) := rfl
theorem t27_94 : q_tb (PP 27) 94 = some (.bipush 96, 2, []) := rfl
theorem t27_96 : q_tb (PP 27) 96 = some (.newarray .int, 2, []) := rfl
theorem t27_98 : q_tb (PP 27) 98 = some (.putfield 46, 3, []) := rfl
theorem t27_101 : q_tb (PP 27) 101 = some (.aload_n 0, 1, []) := rfl
theorem t27_102 : q_tb (PP 27) 102 = some (.iconst 4, 1, []) := rfl
theorem t27_103 : q_tb (PP 27) 103 = some (.newarray .boolean, 2, []) := rfl
theorem t27_105 : q_tb (PP 27) 105 = some (.putfield 49, 3, []) := rfl
theorem t27_108 : q_tb (PP 27) 108 = some (.aload_n 0, 1, []) := rfl
theorem t27_109 : q_tb (PP 27) 109 = some (.bipush 8, 2, []) := rfl
theorem t27_111 : q_tb (PP 27) 111 = some (.newarray .int, 2, []) := rfl
theorem t27_113 : q_tb (PP 27) 113 = some (.putfield 53, 3, []) := rfl
theorem t27_116 : q_tb (PP 27) 116 = some (.aload_n 0, 1, []) := rfl
theorem t27_117 : q_tb (PP 27) 117 = some (.bipush 64, 2, []) := rfl
theorem t27_119 : q_tb (PP 27) 119 = some (.putfield 56, 3, []) := rfl
theorem t27_122 : q_tb (PP 27) 122 = some (.aload_n 0, 1, []) := rfl
theorem t27_123 : q_tb (PP 27) 123 = some (.sipush 30375, 3, []) := rfl
theorem t27_126 : q_tb (PP 27) 126 = some (.newarray .int, 2, []) := rfl
theorem t27_128 : q_tb (PP 27) 128 = some (.putfield 60, 3, []) := rfl
theorem t27_131 : q_tb (PP 27) 131 = some (.aload_n 0, 1, []) := rfl
theorem t27_132 : q_tb (PP 27) 132 = some (.sipush 135, 3, []) := rfl
theorem t27_135 : q_tb (PP 27) 135 = some (.newarray .long, 2, []) := rfl
theorem t27_137 : q_tb (PP 27) 137 = some (.putfield 63, 3, []) := rfl
theorem t27_140 : q_tb (PP 27) 140 = some (.aload_n 0, 1, []) := rfl
theorem t27_141 : q_tb (PP 27) 141 = some (.bipush 24, 2, []) := rfl
theorem t27_143 : q_tb (PP 27) 143 = some (.newarray .int, 2, []) := rfl
theorem t27_145 : q_tb (PP 27) 145 = some (.putfield 67, 3, []) := rfl
theorem t27_148 : q_tb (PP 27) 148 = some (.aload_n 0, 1, []) := rfl
theorem t27_149 : q_tb (PP 27) 149 = some (.iconst 3, 1, []) := rfl
theorem t27_150 : q_tb (PP 27) 150 = some (.newarray .long, 2, []) := rfl
theorem t27_152 : q_tb (PP 27) 152 = some (.putfield 70, 3, []) := rfl
theorem t27_155 : q_tb (PP 27) 155 = some (.aload_n 0, 1, []) := rfl
theorem t27_156 : q_tb (PP 27) 156 = some (.sipush 375, 3, []) := rfl
theorem t27_159 : q_tb (PP 27) 159 = some (.newarray .int, 2, []) := rfl
theorem t27_161 : q_tb (PP 27) 161 = some (.putfield 73, 3, []) := rfl
theorem t27_164 : q_tb (PP 27) 164 = some (.aload_n 0, 1, []) := rfl
theorem t27_165 : q_tb (PP 27) 165 = some (.iload_n 1, 1, []) := rfl
theorem t27_166 : q_tb (PP 27) 166 = some (.iconst 1, 1, []) := rfl
theorem t27_167 : q_tb (PP 27) 167 = some (.if_icmp .lt 13, 3, []) := rfl
theorem t27_170 : q_tb (PP 27) 170 = some (.iload_n 1, 1, []) := rfl
theorem t27_171 : q_tb (PP 27) 171 = some (.bipush 8, 2, []) := rfl
theorem t27_173 : q_tb (PP 27) 173 = some (.if_icmp .gt 7, 3, []) := rfl
theorem t27_176 : q_tb (PP 27) 176 = some (.iload_n 1, 1, []) := rfl
theorem t27_177 : q_tb (PP 27) 177 = some (.goto 5, 3, []) := rfl
theorem t27_180 : q_tb (PP 27) 180 = some (.bipush 6, 2, [0, 1]) := rfl
theorem t27_182 : q_tb (PP 27) 182 = some (.putfield 76, 3, [0, 1]) := rfl
theorem t27_185 : q_tb (PP 27) 185 = some (.return_, 1, []) := rfl
theorem t28_0 : q_tb (PP 28) 0 = some (.aload_n 0, 1, []) := rfl
theorem t28_1 : q_tb (PP 28) 1 = some (.getfield 79, 3, []) := rfl
theorem t28_4 : q_tb (PP 28) 4 = some (.ireturn, 1, []) := rfl
theorem t29_0 : q_tb (PP 29) 0 = some (.aload_n 0, 1, []) := rfl
theorem t29_1 : q_tb (PP 29) 1 = some (.iload_n 1, 1, []) := rfl
theorem t29_2 : q_tb (PP 29) 2 = some (.putfield 79, 3, []) := rfl
theorem t29_5 : q_tb (PP 29) 5 = some (.iconst 0, 1, []) := rfl
theorem t29_6 : q_tb (PP 29) 6 = some (.ireturn, 1, []) := rfl
theorem t30_0 : q_tb (PP 30) 0 = some (.iload_n 0, 1, []) := rfl
theorem t30_1 : q_tb (PP 30) 1 = some (.iload_n 1, 1, []) := rfl
theorem t30_2 : q_tb (PP 30) 2 = some (.if_icmp .lt 12, 3, []) := rfl
theorem t30_5 : q_tb (PP 30) 5 = some (.iload_n 0, 1, []) := rfl
theorem t30_6 : q_tb (PP 30) 6 = some (.iload_n 2, 1, []) := rfl
theorem t30_7 : q_tb (PP 30) 7 = some (.if_icmp .gt 7, 3, []) := rfl
theorem t30_10 : q_tb (PP 30) 10 = some (.iconst 1, 1, []) := rfl
theorem t30_11 : q_tb (PP 30) 11 = some (.goto 4, 3, []) := rfl
theorem t30_14 : q_tb (PP 30) 14 = some (.iconst 0, 1, [0, 1, 2]) := rfl
theorem t30_15 : q_tb (PP 30) 15 = some (.ireturn, 1, [0, 1, 2]) := rfl
theorem t31_0 : q_tb (PP 31) 0 = some (.iload_n 1, 1, []) := rfl
theorem t31_1 : q_tb (PP 31) 1 = some (.ifCond .lt 15, 3, []) := rfl
theorem t31_4 : q_tb (PP 31) 4 = some (.iload_n 1, 1, []) := rfl
theorem t31_5 : q_tb (PP 31) 5 = some (.aload_n 0, 1, []) := rfl
theorem t31_6 : q_tb (PP 31) 6 = some (.getfield 82, 3, []) := rfl
theorem t31_9 : q_tb (PP 31) 9 = some (.if_icmp .ge 7, 3, []) := rfl
theorem t31_12 : q_tb (PP 31) 12 = some (.iconst 1, 1, []) := rfl
theorem t31_13 : q_tb (PP 31) 13 = some (.goto 4, 3, []) := rfl
theorem t31_16 : q_tb (PP 31) 16 = some (.iconst 0, 1, [0, 1]) := rfl
theorem t31_17 : q_tb (PP 31) 17 = some (.ireturn, 1, [0, 1]) := rfl
theorem t32_0 : q_tb (PP 32) 0 = some (.iload_n 1, 1, []) := rfl
theorem t32_1 : q_tb (PP 32) 1 = some (.ifCond .lt 15, 3, []) := rfl
theorem t32_4 : q_tb (PP 32) 4 = some (.iload_n 1, 1, []) := rfl
theorem t32_5 : q_tb (PP 32) 5 = some (.aload_n 0, 1, []) := rfl
theorem t32_6 : q_tb (PP 32) 6 = some (.getfield 76, 3, []) := rfl
theorem t32_9 : q_tb (PP 32) 9 = some (.if_icmp .ge 7, 3, []) := rfl
theorem t32_12 : q_tb (PP 32) 12 = some (.iconst 1, 1, []) := rfl
theorem t32_13 : q_tb (PP 32) 13 = some (.goto 4, 3, []) := rfl
theorem t32_16 : q_tb (PP 32) 16 = some (.iconst 0, 1, [0, 1]) := rfl
theorem t32_17 : q_tb (PP 32) 17 = some (.ireturn, 1, [0, 1]) := rfl
theorem t33_0 : q_tb (PP 33) 0 = some (.aload_n 0, 1, []) := rfl
theorem t33_1 : q_tb (PP 33) 1 = some (.bipush 64, 2, []) := rfl
theorem t33_3 : q_tb (PP 33) 3 = some (.putfield 56, 3, []) := rfl
theorem t33_6 : q_tb (PP 33) 6 = some (.aload_n 0, 1, []) := rfl
theorem t33_7 : q_tb (PP 33) 7 = some (.aload_n 0, 1, []) := rfl
theorem t33_8 : q_tb (PP 33) 8 = some (.invokevirtual 85, 3, []) := rfl
theorem t33_11 : q_tb (PP 33) 11 = some (.putfield 89, 3, []) := rfl
theorem t33_14 : q_tb (PP 33) 14 = some (.return_, 1, []) := rfl
theorem t34_0 : q_tb (PP 34) 0 = some (.iload_n 1, 1, []) := rfl
theorem t34_1 : q_tb (PP 34) 1 = some (.iconst 1, 1, []) := rfl
theorem t34_2 : q_tb (PP 34) 2 = some (.bipush 60, 2, []) := rfl
theorem t34_4 : q_tb (PP 34) 4 = some (.invokestatic 93, 3, []) := rfl
theorem t34_7 : q_tb (PP 34) 7 = some (.ifCond .eq 49, 3, []) := rfl
theorem t34_10 : q_tb (PP 34) 10 = some (.iload_n 2, 1, []) := rfl
theorem t34_11 : q_tb (PP 34) 11 = some (.iload_n 1, 1, []) := rfl
theorem t34_12 : q_tb (PP 34) 12 = some (.bipush 60, 2, []) := rfl
theorem t34_14 : q_tb (PP 34) 14 = some (.invokestatic 93, 3, []) := rfl
theorem t34_17 : q_tb (PP 34) 17 = some (.ifCond .eq 39, 3, []) := rfl
theorem t34_20 : q_tb (PP 34) 20 = some (.iload_n 2, 1, []) := rfl
theorem t34_21 : q_tb (PP 34) 21 = some (.iload_n 1, 1, []) := rfl
theorem t34_22 : q_tb (PP 34) 22 = some (.iconst 3, 1, []) := rfl
theorem t34_23 : q_tb (PP 34) 23 = some (.iadd, 1, []) := rfl
theorem t34_24 : q_tb (PP 34) 24 = some (.if_icmp .gt 32, 3, []) := rfl
theorem t34_27 : q_tb (PP 34) 27 = some (.iload_n 3, 1, []) := rfl
theorem t34_28 : q_tb (PP 34) 28 = some (.iconst 1, 1, []) := rfl
theorem t34_29 : q_tb (PP 34) 29 = some (.iconst 3, 1, []) := rfl
theorem t34_30 : q_tb (PP 34) 30 = some (.invokestatic 93, 3, []) := rfl
theorem t34_33 : q_tb (PP 34) 33 = some (.ifCond .eq 23, 3, []) := rfl
theorem t34_36 : q_tb (PP 34) 36 = some (.iload 4, 2, []) := rfl
theorem t34_38 : q_tb (PP 34) 38 = some (.iconst 1, 1, []) := rfl
theorem t34_39 : q_tb (PP 34) 39 = some (.iconst 3, 1, []) := rfl
theorem t34_40 : q_tb (PP 34) 40 = some (.invokestatic 93, 3, []) := rfl
theorem t34_43 : q_tb (PP 34) 43 = some (.ifCond .eq 13, 3, []) := rfl
theorem t34_46 : q_tb (PP 34) 46 = some (.iload 5, 2, []) := rfl
theorem t34_48 : q_tb (PP 34) 48 = some (.iconst 1, 1, []) := rfl
theorem t34_49 : q_tb (PP 34) 49 = some (.iconst 3, 1, []) := rfl
theorem t34_50 : q_tb (PP 34) 50 = some (.invokestatic 93, 3, []) := rfl
theorem t34_53 : q_tb (PP 34) 53 = some (.ifCond .ne 9, 3, []) := rfl
theorem t34_56 : q_tb (PP 34) 56 = some (.aload_n 0, 1, [1, 2, 3, 4, 5]) := rfl
theorem t34_57 : q_tb (PP 34) 57 = some (.iconst 1, 1, []) := rfl
theorem t34_58 : q_tb (PP 34) 58 = some (.invokevirtual 97, 3, []) := rfl
theorem t34_61 : q_tb (PP 34) 61 = some (.ireturn, 1, []) := rfl
theorem t34_62 : q_tb (PP 34) 62 = some (.aload_n 0, 1, []) := rfl
theorem t34_63 : q_tb (PP 34) 63 = some (.getfield 82, 3, []) := rfl
theorem t34_66 : q_tb (PP 34) 66 = some (.iconst 3, 1, []) := rfl
theorem t34_67 : q_tb (PP 34) 67 = some (.if_icmp .ne 9, 3, []) := rfl
theorem t34_70 : q_tb (PP 34) 70 = some (.aload_n 0, 1, []) := rfl
theorem t34_71 : q_tb (PP 34) 71 = some (.iconst 2, 1, []) := rfl
theorem t34_72 : q_tb (PP 34) 72 = some (.invokevirtual 97, 3, []) := rfl
theorem t34_75 : q_tb (PP 34) 75 = some (.ireturn, 1, []) := rfl
theorem t34_76 : q_tb (PP 34) 76 = some (.aload_n 0, 1, []) := rfl
theorem t34_77 : q_tb (PP 34) 77 = some (.iconst 0, 1, []) := rfl
theorem t34_78 : q_tb (PP 34) 78 = some (.putfield 79, 3, []) := rfl
theorem t34_81 : q_tb (PP 34) 81 = some (.aload_n 0, 1, []) := rfl
theorem t34_82 : q_tb (PP 34) 82 = some (.getfield 7, 3, []) := rfl
theorem t34_85 : q_tb (PP 34) 85 = some (.aload_n 0, 1, []) := rfl
theorem t34_86 : q_tb (PP 34) 86 = some (.getfield 82, 3, []) := rfl
theorem t34_89 : q_tb (PP 34) 89 = some (.iload_n 1, 1, []) := rfl
theorem t34_90 : q_tb (PP 34) 90 = some (.iastore, 1, []) := rfl
theorem t34_91 : q_tb (PP 34) 91 = some (.aload_n 0, 1, []) := rfl
theorem t34_92 : q_tb (PP 34) 92 = some (.getfield 13, 3, []) := rfl
theorem t34_95 : q_tb (PP 34) 95 = some (.aload_n 0, 1, []) := rfl
theorem t34_96 : q_tb (PP 34) 96 = some (.getfield 82, 3, []) := rfl
theorem t34_99 : q_tb (PP 34) 99 = some (.iload_n 2, 1, []) := rfl
theorem t34_100 : q_tb (PP 34) 100 = some (.iastore, 1, []) := rfl
theorem t34_101 : q_tb (PP 34) 101 = some (.aload_n 0, 1, []) := rfl
theorem t34_102 : q_tb (PP 34) 102 = some (.getfield 16, 3, []) := rfl
theorem t34_105 : q_tb (PP 34) 105 = some (.aload_n 0, 1, []) := rfl
theorem t34_106 : q_tb (PP 34) 106 = some (.getfield 82, 3, []) := rfl
theorem t34_109 : q_tb (PP 34) 109 = some (.iload_n 3, 1, []) := rfl
theorem t34_110 : q_tb (PP 34) 110 = some (.iastore, 1, []) := rfl
theorem t34_111 : q_tb (PP 34) 111 = some (.aload_n 0, 1, []) := rfl
theorem t34_112 : q_tb (PP 34) 112 = some (.getfield 19, 3, []) := rfl
theorem t34_115 : q_tb (PP 34) 115 = some (.aload_n 0, 1, []) := rfl
theorem t34_116 : q_tb (PP 34) 116 = some (.getfield 82, 3, []) := rfl
theorem t34_119 : q_tb (PP 34) 119 = some (.iload 4, 2, []) := rfl
theorem t34_121 : q_tb (PP 34) 121 = some (.iastore, 1, []) := rfl
theorem t34_122 : q_tb (PP 34) 122 = some (.aload_n 0, 1, []) := rfl
theorem t34_123 : q_tb (PP 34) 123 = some (.getfield 22, 3, []) := rfl
theorem t34_126 : q_tb (PP 34) 126 = some (.aload_n 0, 1, []) := rfl
theorem t34_127 : q_tb (PP 34) 127 = some (.getfield 82, 3, []) := rfl
theorem t34_130 : q_tb (PP 34) 130 = some (.iload 5, 2, []) := rfl
theorem t34_132 : q_tb (PP 34) 132 = some (.iastore, 1, []) := rfl
theorem t34_133 : q_tb (PP 34) 133 = some (.aload_n 0, 1, []) := rfl
theorem t34_134 : q_tb (PP 34) 134 = some (.getfield 34, 3, []) := rfl
theorem t34_137 : q_tb (PP 34) 137 = some (.aload_n 0, 1, []) := rfl
theorem t34_138 : q_tb (PP 34) 138 = some (.getfield 82, 3, []) := rfl
theorem t34_141 : q_tb (PP 34) 141 = some (.iconst 3, 1, []) := rfl
theorem t34_142 : q_tb (PP 34) 142 = some (.iastore, 1, []) := rfl
theorem t34_143 : q_tb (PP 34) 143 = some (.aload_n 0, 1, []) := rfl
theorem t34_144 : q_tb (PP 34) 144 = some (.dup, 1, []) := rfl
theorem t34_145 : q_tb (PP 34) 145 = some (.getfield 82, 3, []) := rfl
theorem t34_148 : q_tb (PP 34) 148 = some (.iconst 1, 1, []) := rfl
theorem t34_149 : q_tb (PP 34) 149 = some (.iadd, 1, []) := rfl
theorem t34_150 : q_tb (PP 34) 150 = some (.putfield 82, 3, []) := rfl
theorem t34_153 : q_tb (PP 34) 153 = some (.aload_n 0, 1, []) := rfl
theorem t34_154 : q_tb (PP 34) 154 = some (.invokevirtual 101, 3, []) := rfl
theorem t34_157 : q_tb (PP 34) 157 = some (.aload_n 0, 1, []) := rfl
theorem t34_158 : q_tb (PP 34) 158 = some (.getfield 82, 3, []) := rfl
theorem t34_161 : q_tb (PP 34) 161 = some (.iconst 1, 1, []) := rfl
theorem t34_162 : q_tb (PP 34) 162 = some (.isub, 1, []) := rfl
theorem t34_163 : q_tb (PP 34) 163 = some (.ireturn, 1, []) := rfl
theorem t35_0 : q_tb (PP 35) 0 = some (.iload_n 0, 1, []) := rfl
theorem t35_1 : q_tb (PP 35) 1 = some (.iconst 0, 1, []) := rfl
theorem t35_2 : q_tb (PP 35) 2 = some (.sipush 10000, 3, []) := rfl
theorem t35_5 : q_tb (PP 35) 5 = some (.invokestatic 93, 3, []) := rfl
theorem t35_8 : q_tb (PP 35) 8 = some (.ireturn, 1, []) := rfl
theorem t36_0 : q_tb (PP 36) 0 = some (.aload_n 0, 1, []) := rfl
theorem t36_1 : q_tb (PP 36) 1 = some (.iconst 0, 1, []) := rfl
theorem t36_2 : q_tb (PP 36) 2 = some (.putfield 79, 3, []) := rfl
theorem t36_5 : q_tb (PP 36) 5 = some (.aload_n 0, 1, []) := rfl
theorem t36_6 : q_tb (PP 36) 6 = some (.iload_n 1, 1, []) := rfl
theorem t36_7 : q_tb (PP 36) 7 = some (.invokevirtual 104, 3, []) := rfl
theorem t36_10 : q_tb (PP 36) 10 = some (.ifCond .eq 33, 3, []) := rfl
theorem t36_13 : q_tb (PP 36) 13 = some (.iload_n 2, 1, []) := rfl
theorem t36_14 : q_tb (PP 36) 14 = some (.invokestatic 108, 3, []) := rfl
theorem t36_17 : q_tb (PP 36) 17 = some (.ifCond .eq 26, 3, []) := rfl
theorem t36_20 : q_tb (PP 36) 20 = some (.iload_n 3, 1, []) := rfl
theorem t36_21 : q_tb (PP 36) 21 = some (.invokestatic 108, 3, []) := rfl
theorem t36_24 : q_tb (PP 36) 24 = some (.ifCond .eq 19, 3, []) := rfl
theorem t36_27 : q_tb (PP 36) 27 = some (.iload 4, 2, []) := rfl
theorem t36_29 : q_tb (PP 36) 29 = some (.invokestatic 108, 3, []) := rfl
theorem t36_32 : q_tb (PP 36) 32 = some (.ifCond .eq 11, 3, []) := rfl
theorem t36_35 : q_tb (PP 36) 35 = some (.iload 5, 2, []) := rfl
theorem t36_37 : q_tb (PP 36) 37 = some (.invokestatic 108, 3, []) := rfl
theorem t36_40 : q_tb (PP 36) 40 = some (.ifCond .ne 5, 3, []) := rfl
theorem t36_43 : q_tb (PP 36) 43 = some (.iconst 0, 1, [0, 1, 2, 3, 4, 5]) := rfl
theorem t36_44 : q_tb (PP 36) 44 = some (.ireturn, 1, []) := rfl
theorem t36_45 : q_tb (PP 36) 45 = some (.aload_n 0, 1, []) := rfl
theorem t36_46 : q_tb (PP 36) 46 = some (.getfield 25, 3, []) := rfl
theorem t36_49 : q_tb (PP 36) 49 = some (.iconst 4, 1, []) := rfl
theorem t36_50 : q_tb (PP 36) 50 = some (.iload_n 1, 1, []) := rfl
theorem t36_51 : q_tb (PP 36) 51 = some (.imul, 1, []) := rfl
theorem t36_52 : q_tb (PP 36) 52 = some (.iload_n 2, 1, []) := rfl
theorem t36_53 : q_tb (PP 36) 53 = some (.iastore, 1, []) := rfl
theorem t36_54 : q_tb (PP 36) 54 = some (.aload_n 0, 1, []) := rfl
theorem t36_55 : q_tb (PP 36) 55 = some (.getfield 25, 3, []) := rfl
theorem t36_58 : q_tb (PP 36) 58 = some (.iconst 4, 1, []) := rfl
theorem t36_59 : q_tb (PP 36) 59 = some (.iload_n 1, 1, []) := rfl
theorem t36_60 : q_tb (PP 36) 60 = some (.imul, 1, []) := rfl
theorem t36_61 : q_tb (PP 36) 61 = some (.iconst 1, 1, []) := rfl
theorem t36_62 : q_tb (PP 36) 62 = some (.iadd, 1, []) := rfl
theorem t36_63 : q_tb (PP 36) 63 = some (.iload_n 2, 1, []) := rfl
theorem t36_64 : q_tb (PP 36) 64 = some (.iload_n 3, 1, []) := rfl
theorem t36_65 : q_tb (PP 36) 65 = some (.iadd, 1, []) := rfl
theorem t36_66 : q_tb (PP 36) 66 = some (.iastore, 1, []) := rfl
theorem t36_67 : q_tb (PP 36) 67 = some (.aload_n 0, 1, []) := rfl
theorem t36_68 : q_tb (PP 36) 68 = some (.getfield 25, 3, []) := rfl
theorem t36_71 : q_tb (PP 36) 71 = some (.iconst 4, 1, []) := rfl
theorem t36_72 : q_tb (PP 36) 72 = some (.iload_n 1, 1, []) := rfl
theorem t36_73 : q_tb (PP 36) 73 = some (.imul, 1, []) := rfl
theorem t36_74 : q_tb (PP 36) 74 = some (.iconst 2, 1, []) := rfl
theorem t36_75 : q_tb (PP 36) 75 = some (.iadd, 1, []) := rfl
theorem t36_76 : q_tb (PP 36) 76 = some (.iload_n 2, 1, []) := rfl
theorem t36_77 : q_tb (PP 36) 77 = some (.iload_n 3, 1, []) := rfl
theorem t36_78 : q_tb (PP 36) 78 = some (.iadd, 1, []) := rfl
theorem t36_79 : q_tb (PP 36) 79 = some (.iload 4, 2, []) := rfl
theorem t36_81 : q_tb (PP 36) 81 = some (.iadd, 1, []) := rfl
theorem t36_82 : q_tb (PP 36) 82 = some (.iastore, 1, []) := rfl
theorem t36_83 : q_tb (PP 36) 83 = some (.aload_n 0, 1, []) := rfl
theorem t36_84 : q_tb (PP 36) 84 = some (.getfield 25, 3, []) := rfl
theorem t36_87 : q_tb (PP 36) 87 = some (.iconst 4, 1, []) := rfl
theorem t36_88 : q_tb (PP 36) 88 = some (.iload_n 1, 1, []) := rfl
theorem t36_89 : q_tb (PP 36) 89 = some (.imul, 1, []) := rfl
theorem t36_90 : q_tb (PP 36) 90 = some (.iconst 3, 1, []) := rfl
theorem t36_91 : q_tb (PP 36) 91 = some (.iadd, 1, []) := rfl
theorem t36_92 : q_tb (PP 36) 92 = some (.iload_n 2, 1, []) := rfl
theorem t36_93 : q_tb (PP 36) 93 = some (.iload_n 3, 1, []) := rfl
theorem t36_94 : q_tb (PP 36) 94 = some (.iadd, 1, []) := rfl
theorem t36_95 : q_tb (PP 36) 95 = some (.iload 4, 2, []) := rfl
theorem t36_97 : q_tb (PP 36) 97 = some (.iadd, 1, []) := rfl
theorem t36_98 : q_tb (PP 36) 98 = some (.iload 5, 2, []) := rfl
theorem t36_100 : q_tb (PP 36) 100 = some (.iadd, 1, []) := rfl
theorem t36_101 : q_tb (PP 36) 101 = some (.iastore, 1, []) := rfl
theorem t36_102 : q_tb (PP 36) 102 = some (.aload_n 0, 1, []) := rfl
theorem t36_103 : q_tb (PP 36) 103 = some (.invokevirtual 101, 3, []) := rfl
theorem t36_106 : q_tb (PP 36) 106 = some (.iconst 1, 1, []) := rfl
theorem t36_107 : q_tb (PP 36) 107 = some (.ireturn, 1, []) := rfl
theorem t37_0 : q_tb (PP 37) 0 = some (.aload_n 0, 1, []) := rfl
theorem t37_1 : q_tb (PP 37) 1 = some (.iconst 0, 1, []) := rfl
theorem t37_2 : q_tb (PP 37) 2 = some (.putfield 79, 3, []) := rfl
theorem t37_5 : q_tb (PP 37) 5 = some (.aload_n 0, 1, []) := rfl
theorem t37_6 : q_tb (PP 37) 6 = some (.iload_n 1, 1, []) := rfl
theorem t37_7 : q_tb (PP 37) 7 = some (.invokevirtual 104, 3, []) := rfl
theorem t37_10 : q_tb (PP 37) 10 = some (.ifCond .eq 25, 3, []) := rfl
theorem t37_13 : q_tb (PP 37) 13 = some (.iload_n 2, 1, []) := rfl
theorem t37_14 : q_tb (PP 37) 14 = some (.invokestatic 108, 3, []) := rfl
theorem t37_17 : q_tb (PP 37) 17 = some (.ifCond .eq 18, 3, []) := rfl
theorem t37_20 : q_tb (PP 37) 20 = some (.iload_n 3, 1, []) := rfl
theorem t37_21 : q_tb (PP 37) 21 = some (.invokestatic 108, 3, []) := rfl
theorem t37_24 : q_tb (PP 37) 24 = some (.ifCond .eq 11, 3, []) := rfl
theorem t37_27 : q_tb (PP 37) 27 = some (.iload 4, 2, []) := rfl
theorem t37_29 : q_tb (PP 37) 29 = some (.invokestatic 108, 3, []) := rfl
theorem t37_32 : q_tb (PP 37) 32 = some (.ifCond .ne 5, 3, []) := rfl
theorem t37_35 : q_tb (PP 37) 35 = some (.iconst 0, 1, [0, 1, 2, 3, 4]) := rfl
theorem t37_36 : q_tb (PP 37) 36 = some (.ireturn, 1, []) := rfl
theorem t37_37 : q_tb (PP 37) 37 = some (.aload_n 0, 1, []) := rfl
theorem t37_38 : q_tb (PP 37) 38 = some (.getfield 28, 3, []) := rfl
theorem t37_41 : q_tb (PP 37) 41 = some (.iconst 3, 1, []) := rfl
theorem t37_42 : q_tb (PP 37) 42 = some (.iload_n 1, 1, []) := rfl
theorem t37_43 : q_tb (PP 37) 43 = some (.imul, 1, []) := rfl
theorem t37_44 : q_tb (PP 37) 44 = some (.iload_n 2, 1, []) := rfl
theorem t37_45 : q_tb (PP 37) 45 = some (.iastore, 1, []) := rfl
theorem t37_46 : q_tb (PP 37) 46 = some (.aload_n 0, 1, []) := rfl
theorem t37_47 : q_tb (PP 37) 47 = some (.getfield 28, 3, []) := rfl
theorem t37_50 : q_tb (PP 37) 50 = some (.iconst 3, 1, []) := rfl
theorem t37_51 : q_tb (PP 37) 51 = some (.iload_n 1, 1, []) := rfl
theorem t37_52 : q_tb (PP 37) 52 = some (.imul, 1, []) := rfl
theorem t37_53 : q_tb (PP 37) 53 = some (.iconst 1, 1, []) := rfl
theorem t37_54 : q_tb (PP 37) 54 = some (.iadd, 1, []) := rfl
theorem t37_55 : q_tb (PP 37) 55 = some (.iload_n 3, 1, []) := rfl
theorem t37_56 : q_tb (PP 37) 56 = some (.iastore, 1, []) := rfl
theorem t37_57 : q_tb (PP 37) 57 = some (.aload_n 0, 1, []) := rfl
theorem t37_58 : q_tb (PP 37) 58 = some (.getfield 28, 3, []) := rfl
theorem t37_61 : q_tb (PP 37) 61 = some (.iconst 3, 1, []) := rfl
theorem t37_62 : q_tb (PP 37) 62 = some (.iload_n 1, 1, []) := rfl
theorem t37_63 : q_tb (PP 37) 63 = some (.imul, 1, []) := rfl
theorem t37_64 : q_tb (PP 37) 64 = some (.iconst 2, 1, []) := rfl
theorem t37_65 : q_tb (PP 37) 65 = some (.iadd, 1, []) := rfl
theorem t37_66 : q_tb (PP 37) 66 = some (.iload 4, 2, []) := rfl
theorem t37_68 : q_tb (PP 37) 68 = some (.iastore, 1, []) := rfl
theorem t37_69 : q_tb (PP 37) 69 = some (.aload_n 0, 1, []) := rfl
theorem t37_70 : q_tb (PP 37) 70 = some (.invokevirtual 101, 3, []) := rfl
theorem t37_73 : q_tb (PP 37) 73 = some (.iconst 1, 1, []) := rfl
theorem t37_74 : q_tb (PP 37) 74 = some (.ireturn, 1, []) := rfl
theorem t38_0 : q_tb (PP 38) 0 = some (.aload_n 0, 1, []) := rfl
theorem t38_1 : q_tb (PP 38) 1 = some (.iconst 0, 1, []) := rfl
theorem t38_2 : q_tb (PP 38) 2 = some (.putfield 79, 3, []) := rfl
theorem t38_5 : q_tb (PP 38) 5 = some (.aload_n 0, 1, []) := rfl
theorem t38_6 : q_tb (PP 38) 6 = some (.iload_n 1, 1, []) := rfl
theorem t38_7 : q_tb (PP 38) 7 = some (.invokevirtual 104, 3, []) := rfl
theorem t38_10 : q_tb (PP 38) 10 = some (.ifCond .eq 36, 3, []) := rfl
theorem t38_13 : q_tb (PP 38) 13 = some (.iload_n 3, 1, []) := rfl
theorem t38_14 : q_tb (PP 38) 14 = some (.iconst 1, 1, []) := rfl
theorem t38_15 : q_tb (PP 38) 15 = some (.bipush 100, 2, []) := rfl
theorem t38_17 : q_tb (PP 38) 17 = some (.invokestatic 93, 3, []) := rfl
theorem t38_20 : q_tb (PP 38) 20 = some (.ifCond .eq 26, 3, []) := rfl
theorem t38_23 : q_tb (PP 38) 23 = some (.iload_n 2, 1, []) := rfl
theorem t38_24 : q_tb (PP 38) 24 = some (.ifCond .eq 24, 3, []) := rfl
theorem t38_27 : q_tb (PP 38) 27 = some (.iload_n 2, 1, []) := rfl
theorem t38_28 : q_tb (PP 38) 28 = some (.aload_n 0, 1, []) := rfl
theorem t38_29 : q_tb (PP 38) 29 = some (.getfield 7, 3, []) := rfl
theorem t38_32 : q_tb (PP 38) 32 = some (.iload_n 1, 1, []) := rfl
theorem t38_33 : q_tb (PP 38) 33 = some (.iaload, 1, []) := rfl
theorem t38_34 : q_tb (PP 38) 34 = some (.aload_n 0, 1, []) := rfl
theorem t38_35 : q_tb (PP 38) 35 = some (.getfield 13, 3, []) := rfl
theorem t38_38 : q_tb (PP 38) 38 = some (.iload_n 1, 1, []) := rfl
theorem t38_39 : q_tb (PP 38) 39 = some (.iaload, 1, []) := rfl
theorem t38_40 : q_tb (PP 38) 40 = some (.invokestatic 93, 3, []) := rfl
theorem t38_43 : q_tb (PP 38) 43 = some (.ifCond .ne 5, 3, []) := rfl
theorem t38_46 : q_tb (PP 38) 46 = some (.iconst 0, 1, [0, 1, 2, 3]) := rfl
theorem t38_47 : q_tb (PP 38) 47 = some (.ireturn, 1, []) := rfl
theorem t38_48 : q_tb (PP 38) 48 = some (.aload_n 0, 1, []) := rfl
theorem t38_49 : q_tb (PP 38) 49 = some (.getfield 31, 3, []) := rfl
theorem t38_52 : q_tb (PP 38) 52 = some (.iload_n 1, 1, []) := rfl
theorem t38_53 : q_tb (PP 38) 53 = some (.iload_n 2, 1, []) := rfl
theorem t38_54 : q_tb (PP 38) 54 = some (.iastore, 1, []) := rfl
theorem t38_55 : q_tb (PP 38) 55 = some (.aload_n 0, 1, []) := rfl
theorem t38_56 : q_tb (PP 38) 56 = some (.getfield 34, 3, []) := rfl
theorem t38_59 : q_tb (PP 38) 59 = some (.iload_n 1, 1, []) := rfl
theorem t38_60 : q_tb (PP 38) 60 = some (.iload_n 3, 1, []) := rfl
theorem t38_61 : q_tb (PP 38) 61 = some (.iastore, 1, []) := rfl
theorem t38_62 : q_tb (PP 38) 62 = some (.aload_n 0, 1, []) := rfl
theorem t38_63 : q_tb (PP 38) 63 = some (.invokevirtual 101, 3, []) := rfl
theorem t38_66 : q_tb (PP 38) 66 = some (.iconst 1, 1, []) := rfl
theorem t38_67 : q_tb (PP 38) 67 = some (.ireturn, 1, []) := rfl
theorem t39_0 : q_tb (PP 39) 0 = some (.aload_n 0, 1, []) := rfl
theorem t39_1 : q_tb (PP 39) 1 = some (.iconst 0, 1, []) := rfl
theorem t39_2 : q_tb (PP 39) 2 = some (.putfield 79, 3, []) := rfl
theorem t39_5 : q_tb (PP 39) 5 = some (.aload_n 0, 1, []) := rfl
theorem t39_6 : q_tb (PP 39) 6 = some (.iload_n 1, 1, []) := rfl
theorem t39_7 : q_tb (PP 39) 7 = some (.invokevirtual 111, 3, []) := rfl
theorem t39_10 : q_tb (PP 39) 10 = some (.ifCond .eq 25, 3, []) := rfl
theorem t39_13 : q_tb (PP 39) 13 = some (.iload_n 2, 1, []) := rfl
theorem t39_14 : q_tb (PP 39) 14 = some (.iconst 0, 1, []) := rfl
theorem t39_15 : q_tb (PP 39) 15 = some (.sipush 200, 3, []) := rfl
theorem t39_18 : q_tb (PP 39) 18 = some (.invokestatic 93, 3, []) := rfl
theorem t39_21 : q_tb (PP 39) 21 = some (.ifCond .eq 14, 3, []) := rfl
theorem t39_24 : q_tb (PP 39) 24 = some (.iload_n 3, 1, []) := rfl
theorem t39_25 : q_tb (PP 39) 25 = some (.iconst 0, 1, []) := rfl
theorem t39_26 : q_tb (PP 39) 26 = some (.sipush 200, 3, []) := rfl
theorem t39_29 : q_tb (PP 39) 29 = some (.invokestatic 93, 3, []) := rfl
theorem t39_32 : q_tb (PP 39) 32 = some (.ifCond .ne 5, 3, []) := rfl
theorem t39_35 : q_tb (PP 39) 35 = some (.iconst 0, 1, [0, 1, 2, 3]) := rfl
theorem t39_36 : q_tb (PP 39) 36 = some (.ireturn, 1, []) := rfl
theorem t39_37 : q_tb (PP 39) 37 = some (.aload_n 0, 1, []) := rfl
theorem t39_38 : q_tb (PP 39) 38 = some (.getfield 37, 3, []) := rfl
theorem t39_41 : q_tb (PP 39) 41 = some (.iload_n 1, 1, []) := rfl
theorem t39_42 : q_tb (PP 39) 42 = some (.iload_n 2, 1, []) := rfl
theorem t39_43 : q_tb (PP 39) 43 = some (.iastore, 1, []) := rfl
theorem t39_44 : q_tb (PP 39) 44 = some (.aload_n 0, 1, []) := rfl
theorem t39_45 : q_tb (PP 39) 45 = some (.getfield 40, 3, []) := rfl
theorem t39_48 : q_tb (PP 39) 48 = some (.iload_n 1, 1, []) := rfl
theorem t39_49 : q_tb (PP 39) 49 = some (.iload_n 3, 1, []) := rfl
theorem t39_50 : q_tb (PP 39) 50 = some (.iastore, 1, []) := rfl
theorem t39_51 : q_tb (PP 39) 51 = some (.aload_n 0, 1, []) := rfl
theorem t39_52 : q_tb (PP 39) 52 = some (.invokevirtual 101, 3, []) := rfl
theorem t39_55 : q_tb (PP 39) 55 = some (.iconst 1, 1, []) := rfl
theorem t39_56 : q_tb (PP 39) 56 = some (.ireturn, 1, []) := rfl
theorem t40_0 : q_tb (PP 40) 0 = some (.aload_n 0, 1, []) := rfl
theorem t40_1 : q_tb (PP 40) 1 = some (.getfield 34, 3, []) := rfl
theorem t40_4 : q_tb (PP 40) 4 = some (.iload_n 1, 1, []) := rfl
theorem t40_5 : q_tb (PP 40) 5 = some (.iaload, 1, []) := rfl
theorem t40_6 : q_tb (PP 40) 6 = some (.iconst 3, 1, []) := rfl
theorem t40_7 : q_tb (PP 40) 7 = some (.if_icmp .le 7, 3, []) := rfl
theorem t40_10 : q_tb (PP 40) 10 = some (.iconst 3, 1, []) := rfl
theorem t40_11 : q_tb (PP 40) 11 = some (.goto 9, 3, []) := rfl
theorem t40_14 : q_tb (PP 40) 14 = some (.aload_n 0, 1, []) := rfl
theorem t40_15 : q_tb (PP 40) 15 = some (.getfield 34, 3, []) := rfl
theorem t40_18 : q_tb (PP 40) 18 = some (.iload_n 1, 1, []) := rfl
theorem t40_19 : q_tb (PP 40) 19 = some (.iaload, 1, []) := rfl
theorem t40_20 : q_tb (PP 40) 20 = some (.iconst 1, 1, []) := rfl
theorem t40_21 : q_tb (PP 40) 21 = some (.isub, 1, []) := rfl
theorem t40_22 : q_tb (PP 40) 22 = some (.istore_n 2, 1, []) := rfl
theorem t40_23 : q_tb (PP 40) 23 = some (.aload_n 0, 1, []) := rfl
theorem t40_24 : q_tb (PP 40) 24 = some (.getfield 31, 3, []) := rfl
theorem t40_27 : q_tb (PP 40) 27 = some (.iload_n 1, 1, []) := rfl
theorem t40_28 : q_tb (PP 40) 28 = some (.iaload, 1, []) := rfl
theorem t40_29 : q_tb (PP 40) 29 = some (.ifCond .ne 7, 3, []) := rfl
theorem t40_32 : q_tb (PP 40) 32 = some (.iload_n 2, 1, []) := rfl
theorem t40_33 : q_tb (PP 40) 33 = some (.goto 22, 3, []) := rfl
theorem t40_36 : q_tb (PP 40) 36 = some (.iconst 3, 1, []) := rfl
theorem t40_37 : q_tb (PP 40) 37 = some (.iconst 3, 1, []) := rfl
theorem t40_38 : q_tb (PP 40) 38 = some (.aload_n 0, 1, []) := rfl
theorem t40_39 : q_tb (PP 40) 39 = some (.getfield 31, 3, []) := rfl
theorem t40_42 : q_tb (PP 40) 42 = some (.iload_n 1, 1, []) := rfl
theorem t40_43 : q_tb (PP 40) 43 = some (.iaload, 1, []) := rfl
theorem t40_44 : q_tb (PP 40) 44 = some (.aload_n 0, 1, []) := rfl
theorem t40_45 : q_tb (PP 40) 45 = some (.getfield 7, 3, []) := rfl
theorem t40_48 : q_tb (PP 40) 48 = some (.iload_n 1, 1, []) := rfl
theorem t40_49 : q_tb (PP 40) 49 = some (.iaload, 1, []) := rfl
theorem t40_50 : q_tb (PP 40) 50 = some (.isub, 1, []) := rfl
theorem t40_51 : q_tb (PP 40) 51 = some (.imul, 1, []) := rfl
theorem t40_52 : q_tb (PP 40) 52 = some (.iadd, 1, []) := rfl
theorem t40_53 : q_tb (PP 40) 53 = some (.iload_n 2, 1, []) := rfl
theorem t40_54 : q_tb (PP 40) 54 = some (.iadd, 1, []) := rfl
theorem t40_55 : q_tb (PP 40) 55 = some (.ireturn, 1, [0, 1, 2]) := rfl
theorem t41_0 : q_tb (PP 41) 0 = some (.iload_n 0, 1, []) := rfl
theorem t41_1 : q_tb (PP 41) 1 = some (.iconst 2, 1, []) := rfl
theorem t41_2 : q_tb (PP 41) 2 = some (.if_icmp .ge 9, 3, []) := rfl
theorem t41_5 : q_tb (PP 41) 5 = some (.iload_n 0, 1, []) := rfl
theorem t41_6 : q_tb (PP 41) 6 = some (.iconst 1, 1, []) := rfl
theorem t41_7 : q_tb (PP 41) 7 = some (.iadd, 1, []) := rfl
theorem t41_8 : q_tb (PP 41) 8 = some (.goto 4, 3, []) := rfl
theorem t41_11 : q_tb (PP 41) 11 = some (.iconst 2, 1, []) := rfl
theorem t41_12 : q_tb (PP 41) 12 = some (.ireturn, 1, [0]) := rfl
theorem t42_0 : q_tb (PP 42) 0 = some (.iload_n 2, 1, []) := rfl
theorem t42_1 : q_tb (PP 42) 1 = some (.iconst 3, 1, []) := rfl
theorem t42_2 : q_tb (PP 42) 2 = some (.irem, 1, []) := rfl
theorem t42_3 : q_tb (PP 42) 3 = some (.istore 4, 2, []) := rfl
theorem t42_5 : q_tb (PP 42) 5 = some (.iload_n 2, 1, []) := rfl
theorem t42_6 : q_tb (PP 42) 6 = some (.iconst 3, 1, []) := rfl
theorem t42_7 : q_tb (PP 42) 7 = some (.idiv, 1, []) := rfl
theorem t42_8 : q_tb (PP 42) 8 = some (.iconst 1, 1, []) := rfl
theorem t42_9 : q_tb (PP 42) 9 = some (.isub, 1, []) := rfl
theorem t42_10 : q_tb (PP 42) 10 = some (.istore 5, 2, []) := rfl
theorem t42_12 : q_tb (PP 42) 12 = some (.iload_n 3, 1, []) := rfl
theorem t42_13 : q_tb (PP 42) 13 = some (.iconst 1, 1, []) := rfl
theorem t42_14 : q_tb (PP 42) 14 = some (.isub, 1, []) := rfl
theorem t42_15 : q_tb (PP 42) 15 = some (.istore 6, 2, []) := rfl
theorem t42_17 : q_tb (PP 42) 17 = some (.iload_n 3, 1, []) := rfl
theorem t42_18 : q_tb (PP 42) 18 = some (.aload_n 0, 1, []) := rfl
theorem t42_19 : q_tb (PP 42) 19 = some (.getfield 13, 3, []) := rfl
theorem t42_22 : q_tb (PP 42) 22 = some (.iload_n 1, 1, []) := rfl
theorem t42_23 : q_tb (PP 42) 23 = some (.iaload, 1, []) := rfl
theorem t42_24 : q_tb (PP 42) 24 = some (.aload_n 0, 1, []) := rfl
theorem t42_25 : q_tb (PP 42) 25 = some (.getfield 7, 3, []) := rfl
theorem t42_28 : q_tb (PP 42) 28 = some (.iload_n 1, 1, []) := rfl
theorem t42_29 : q_tb (PP 42) 29 = some (.iaload, 1, []) := rfl
theorem t42_30 : q_tb (PP 42) 30 = some (.isub, 1, []) := rfl
theorem t42_31 : q_tb (PP 42) 31 = some (.iconst 1, 1, []) := rfl
theorem t42_32 : q_tb (PP 42) 32 = some (.iadd, 1, []) := rfl
theorem t42_33 : q_tb (PP 42) 33 = some (.if_icmp .le 5, 3, []) := rfl
theorem t42_36 : q_tb (PP 42) 36 = some (.iconst (-1), 1, []) := rfl
theorem t42_37 : q_tb (PP 42) 37 = some (.ireturn, 1, []) := rfl
theorem t42_38 : q_tb (PP 42) 38 = some (.iload_n 2, 1, []) := rfl
theorem t42_39 : q_tb (PP 42) 39 = some (.iconst 3, 1, []) := rfl
theorem t42_40 : q_tb (PP 42) 40 = some (.if_icmp .ge 50, 3, []) := rfl
theorem t42_43 : q_tb (PP 42) 43 = some (.iload_n 3, 1, []) := rfl
theorem t42_44 : q_tb (PP 42) 44 = some (.ifCond .ne 11, 3, []) := rfl
theorem t42_47 : q_tb (PP 42) 47 = some (.iload 4, 2, []) := rfl
theorem t42_49 : q_tb (PP 42) 49 = some (.invokestatic 114, 3, []) := rfl
theorem t42_52 : q_tb (PP 42) 52 = some (.goto 37, 3, []) := rfl
theorem t42_55 : q_tb (PP 42) 55 = some (.iload 4, 2, []) := rfl
theorem t42_57 : q_tb (PP 42) 57 = some (.iconst 1, 1, []) := rfl
theorem t42_58 : q_tb (PP 42) 58 = some (.iadd, 1, []) := rfl
theorem t42_59 : q_tb (PP 42) 59 = some (.aload_n 0, 1, []) := rfl
theorem t42_60 : q_tb (PP 42) 60 = some (.getfield 19, 3, []) := rfl
theorem t42_63 : q_tb (PP 42) 63 = some (.iload_n 1, 1, []) := rfl
theorem t42_64 : q_tb (PP 42) 64 = some (.iaload, 1, []) := rfl
theorem t42_65 : q_tb (PP 42) 65 = some (.if_icmp .lt 14, 3, []) := rfl
theorem t42_68 : q_tb (PP 42) 68 = some (.iload 6, 2, []) := rfl
theorem t42_70 : q_tb (PP 42) 70 = some (.aload_n 0, 1, []) := rfl
theorem t42_71 : q_tb (PP 42) 71 = some (.getfield 22, 3, []) := rfl
theorem t42_74 : q_tb (PP 42) 74 = some (.iload_n 1, 1, []) := rfl
theorem t42_75 : q_tb (PP 42) 75 = some (.iaload, 1, []) := rfl
theorem t42_76 : q_tb (PP 42) 76 = some (.if_icmp .le 7, 3, []) := rfl
theorem t42_79 : q_tb (PP 42) 79 = some (.iconst (-1), 1, [0, 1, 2, 3, 4, 5, 6]) := rfl
theorem t42_80 : q_tb (PP 42) 80 = some (.goto 9, 3, []) := rfl
theorem t42_83 : q_tb (PP 42) 83 = some (.iconst 3, 1, []) := rfl
theorem t42_84 : q_tb (PP 42) 84 = some (.iconst 3, 1, []) := rfl
theorem t42_85 : q_tb (PP 42) 85 = some (.iload 6, 2, []) := rfl
theorem t42_87 : q_tb (PP 42) 87 = some (.imul, 1, []) := rfl
theorem t42_88 : q_tb (PP 42) 88 = some (.iadd, 1, []) := rfl
theorem t42_89 : q_tb (PP 42) 89 = some (.ireturn, 1, [0, 1, 2, 3, 4, 5, 6]) := rfl
theorem t42_90 : q_tb (PP 42) 90 = some (.iload_n 3, 1, []) := rfl
theorem t42_91 : q_tb (PP 42) 91 = some (.ifCond .ne 22, 3, []) := rfl
theorem t42_94 : q_tb (PP 42) 94 = some (.iload 4, 2, []) := rfl
theorem t42_96 : q_tb (PP 42) 96 = some (.iconst 1, 1, []) := rfl
theorem t42_97 : q_tb (PP 42) 97 = some (.iadd, 1, []) := rfl
theorem t42_98 : q_tb (PP 42) 98 = some (.aload_n 0, 1, []) := rfl
theorem t42_99 : q_tb (PP 42) 99 = some (.getfield 16, 3, []) := rfl
theorem t42_102 : q_tb (PP 42) 102 = some (.iload_n 1, 1, []) := rfl
theorem t42_103 : q_tb (PP 42) 103 = some (.iaload, 1, []) := rfl
theorem t42_104 : q_tb (PP 42) 104 = some (.if_icmp .ge 7, 3, []) := rfl
theorem t42_107 : q_tb (PP 42) 107 = some (.iconst (-1), 1, []) := rfl
theorem t42_108 : q_tb (PP 42) 108 = some (.goto 4, 3, []) := rfl
theorem t42_111 : q_tb (PP 42) 111 = some (.iconst 0, 1, []) := rfl
theorem t42_112 : q_tb (PP 42) 112 = some (.ireturn, 1, [0, 1, 2, 3, 4, 5, 6]) := rfl
theorem t42_113 : q_tb (PP 42) 113 = some (.iload 6, 2, []) := rfl
theorem t42_115 : q_tb (PP 42) 115 = some (.iload 5, 2, []) := rfl
theorem t42_117 : q_tb (PP 42) 117 = some (.if_icmp .le 11, 3, []) := rfl
theorem t42_120 : q_tb (PP 42) 120 = some (.iload 6, 2, []) := rfl
theorem t42_122 : q_tb (PP 42) 122 = some (.iload 5, 2, []) := rfl
theorem t42_124 : q_tb (PP 42) 124 = some (.isub, 1, []) := rfl
theorem t42_125 : q_tb (PP 42) 125 = some (.goto 8, 3, []) := rfl
theorem t42_128 : q_tb (PP 42) 128 = some (.iload 5, 2, []) := rfl
theorem t42_130 : q_tb (PP 42) 130 = some (.iload 6, 2, []) := rfl
theorem t42_132 : q_tb (PP 42) 132 = some (.isub, 1, []) := rfl
theorem t42_133 : q_tb (PP 42) 133 = some (.istore 7, 2, [2, 3, 5]) := rfl
theorem t42_135 : q_tb (PP 42) 135 = some (.iload 7, 2, []) := rfl
theorem t42_137 : q_tb (PP 42) 137 = some (.aload_n 0, 1, []) := rfl
theorem t42_138 : q_tb (PP 42) 138 = some (.getfield 22, 3, []) := rfl
theorem t42_141 : q_tb (PP 42) 141 = some (.iload_n 1, 1, []) := rfl
theorem t42_142 : q_tb (PP 42) 142 = some (.iaload, 1, []) := rfl
theorem t42_143 : q_tb (PP 42) 143 = some (.if_icmp .le 7, 3, []) := rfl
theorem t42_146 : q_tb (PP 42) 146 = some (.iconst (-1), 1, []) := rfl
theorem t42_147 : q_tb (PP 42) 147 = some (.goto 15, 3, []) := rfl
theorem t42_150 : q_tb (PP 42) 150 = some (.iconst 3, 1, []) := rfl
theorem t42_151 : q_tb (PP 42) 151 = some (.iconst 3, 1, []) := rfl
theorem t42_152 : q_tb (PP 42) 152 = some (.iload 6, 2, []) := rfl
theorem t42_154 : q_tb (PP 42) 154 = some (.imul, 1, []) := rfl
theorem t42_155 : q_tb (PP 42) 155 = some (.iadd, 1, []) := rfl
theorem t42_156 : q_tb (PP 42) 156 = some (.iload 4, 2, []) := rfl
theorem t42_158 : q_tb (PP 42) 158 = some (.invokestatic 114, 3, []) := rfl
theorem t42_161 : q_tb (PP 42) 161 = some (.iadd, 1, []) := rfl
theorem t42_162 : q_tb (PP 42) 162 = some (.ireturn, 1, [0, 1, 2, 3, 4, 5, 6, 7]) := rfl
theorem t43_0 : q_tb (PP 43) 0 = some (.iload_n 3, 1, []) := rfl
theorem t43_1 : q_tb (PP 43) 1 = some (.ifCond .ne 7, 3, []) := rfl
theorem t43_4 : q_tb (PP 43) 4 = some (.iconst 0, 1, []) := rfl
theorem t43_5 : q_tb (PP 43) 5 = some (.goto 35, 3, []) := rfl
theorem t43_8 : q_tb (PP 43) 8 = some (.aload_n 0, 1, []) := rfl
theorem t43_9 : q_tb (PP 43) 9 = some (.getfield 25, 3, []) := rfl
theorem t43_12 : q_tb (PP 43) 12 = some (.iconst 4, 1, []) := rfl
theorem t43_13 : q_tb (PP 43) 13 = some (.iload_n 1, 1, []) := rfl
theorem t43_14 : q_tb (PP 43) 14 = some (.imul, 1, []) := rfl
theorem t43_15 : q_tb (PP 43) 15 = some (.iload_n 3, 1, []) := rfl
theorem t43_16 : q_tb (PP 43) 16 = some (.iadd, 1, []) := rfl
theorem t43_17 : q_tb (PP 43) 17 = some (.iconst 1, 1, []) := rfl
theorem t43_18 : q_tb (PP 43) 18 = some (.isub, 1, []) := rfl
theorem t43_19 : q_tb (PP 43) 19 = some (.iaload, 1, []) := rfl
theorem t43_20 : q_tb (PP 43) 20 = some (.iload_n 2, 1, []) := rfl
theorem t43_21 : q_tb (PP 43) 21 = some (.iconst 3, 1, []) := rfl
theorem t43_22 : q_tb (PP 43) 22 = some (.if_icmp .ge 16, 3, []) := rfl
theorem t43_25 : q_tb (PP 43) 25 = some (.aload_n 0, 1, []) := rfl
theorem t43_26 : q_tb (PP 43) 26 = some (.getfield 28, 3, []) := rfl
theorem t43_29 : q_tb (PP 43) 29 = some (.iconst 3, 1, []) := rfl
theorem t43_30 : q_tb (PP 43) 30 = some (.iload_n 1, 1, []) := rfl
theorem t43_31 : q_tb (PP 43) 31 = some (.imul, 1, []) := rfl
theorem t43_32 : q_tb (PP 43) 32 = some (.iload_n 2, 1, []) := rfl
theorem t43_33 : q_tb (PP 43) 33 = some (.iadd, 1, []) := rfl
theorem t43_34 : q_tb (PP 43) 34 = some (.iaload, 1, []) := rfl
theorem t43_35 : q_tb (PP 43) 35 = some (.goto 4, 3, []) := rfl
theorem t43_38 : q_tb (PP 43) 38 = some (.iconst 0, 1, []) := rfl
theorem t43_39 : q_tb (PP 43) 39 = some (.iadd, 1, [0, 1, 2, 3]) := rfl
theorem t43_40 : q_tb (PP 43) 40 = some (.ireturn, 1, [0, 1, 2, 3]) := rfl
theorem t44_0 : q_tb (PP 44) 0 = some (.iload_n 2, 1, []) := rfl
theorem t44_1 : q_tb (PP 44) 1 = some (.ifCond .ne 7, 3, []) := rfl
theorem t44_4 : q_tb (PP 44) 4 = some (.iconst 0, 1, []) := rfl
theorem t44_5 : q_tb (PP 44) 5 = some (.goto 13, 3, []) := rfl
theorem t44_8 : q_tb (PP 44) 8 = some (.aload_n 0, 1, []) := rfl
theorem t44_9 : q_tb (PP 44) 9 = some (.getfield 7, 3, []) := rfl
theorem t44_12 : q_tb (PP 44) 12 = some (.iload_n 1, 1, []) := rfl
theorem t44_13 : q_tb (PP 44) 13 = some (.iaload, 1, []) := rfl
theorem t44_14 : q_tb (PP 44) 14 = some (.iload_n 2, 1, []) := rfl
theorem t44_15 : q_tb (PP 44) 15 = some (.iadd, 1, []) := rfl
theorem t44_16 : q_tb (PP 44) 16 = some (.iconst 1, 1, []) := rfl
theorem t44_17 : q_tb (PP 44) 17 = some (.isub, 1, []) := rfl
theorem t44_18 : q_tb (PP 44) 18 = some (.ireturn, 1, [0, 1, 2]) := rfl
theorem t45_0 : q_tb (PP 45) 0 = some (.iload_n 1, 1, []) := rfl
theorem t45_1 : q_tb (PP 45) 1 = some (.ifCond .ne 11, 3, []) := rfl
theorem t45_4 : q_tb (PP 45) 4 = some (.iload_n 0, 1, []) := rfl
theorem t45_5 : q_tb (PP 45) 5 = some (.sipush 225, 3, []) := rfl
theorem t45_8 : q_tb (PP 45) 8 = some (.idiv, 1, []) := rfl
theorem t45_9 : q_tb (PP 45) 9 = some (.goto 22, 3, []) := rfl
theorem t45_12 : q_tb (PP 45) 12 = some (.iload_n 1, 1, []) := rfl
theorem t45_13 : q_tb (PP 45) 13 = some (.iconst 1, 1, []) := rfl
theorem t45_14 : q_tb (PP 45) 14 = some (.if_icmp .ne 13, 3, []) := rfl
theorem t45_17 : q_tb (PP 45) 17 = some (.iload_n 0, 1, []) := rfl
theorem t45_18 : q_tb (PP 45) 18 = some (.bipush 15, 2, []) := rfl
theorem t45_20 : q_tb (PP 45) 20 = some (.idiv, 1, []) := rfl
theorem t45_21 : q_tb (PP 45) 21 = some (.bipush 15, 2, []) := rfl
theorem t45_23 : q_tb (PP 45) 23 = some (.irem, 1, []) := rfl
theorem t45_24 : q_tb (PP 45) 24 = some (.goto 7, 3, []) := rfl
theorem t45_27 : q_tb (PP 45) 27 = some (.iload_n 0, 1, []) := rfl
theorem t45_28 : q_tb (PP 45) 28 = some (.bipush 15, 2, []) := rfl
theorem t45_30 : q_tb (PP 45) 30 = some (.irem, 1, []) := rfl
theorem t45_31 : q_tb (PP 45) 31 = some (.ireturn, 1, [0, 1]) := rfl
theorem t46_0 : q_tb (PP 46) 0 = some (.aload_n 0, 1, []) := rfl
theorem t46_1 : q_tb (PP 46) 1 = some (.getfield 43, 3, []) := rfl
theorem t46_4 : q_tb (PP 46) 4 = some (.bipush 8, 2, []) := rfl
theorem t46_6 : q_tb (PP 46) 6 = some (.iload_n 1, 1, []) := rfl
theorem t46_7 : q_tb (PP 46) 7 = some (.imul, 1, []) := rfl
theorem t46_8 : q_tb (PP 46) 8 = some (.iload_n 2, 1, []) := rfl
theorem t46_9 : q_tb (PP 46) 9 = some (.iadd, 1, []) := rfl
theorem t46_10 : q_tb (PP 46) 10 = some (.iaload, 1, []) := rfl
theorem t46_11 : q_tb (PP 46) 11 = some (.ifCond .eq 7, 3, []) := rfl
theorem t46_14 : q_tb (PP 46) 14 = some (.iconst 1, 1, []) := rfl
theorem t46_15 : q_tb (PP 46) 15 = some (.goto 4, 3, []) := rfl
theorem t46_18 : q_tb (PP 46) 18 = some (.iconst 0, 1, []) := rfl
theorem t46_19 : q_tb (PP 46) 19 = some (.ireturn, 1, [0, 1, 2]) := rfl
theorem t47_0 : q_tb (PP 47) 0 = some (.aload_n 0, 1, []) := rfl
theorem t47_1 : q_tb (PP 47) 1 = some (.iconst 0, 1, []) := rfl
theorem t47_2 : q_tb (PP 47) 2 = some (.putfield 117, 3, []) := rfl
theorem t47_5 : q_tb (PP 47) 5 = some (.iconst 0, 1, []) := rfl
theorem t47_6 : q_tb (PP 47) 6 = some (.istore_n 3, 1, []) := rfl
theorem t47_7 : q_tb (PP 47) 7 = some (.iload_n 3, 1, [4, 5, 6, 7, 8]) := rfl
theorem t47_8 : q_tb (PP 47) 8 = some (.bipush 125, 2, []) := rfl
theorem t47_10 : q_tb (PP 47) 10 = some (.if_icmp .ge 290, 3, []) := rfl
theorem t47_13 : q_tb (PP 47) 13 = some (.iconst 0, 1, []) := rfl
theorem t47_14 : q_tb (PP 47) 14 = some (.istore 4, 2, []) := rfl
theorem t47_16 : q_tb (PP 47) 16 = some (.iconst 0, 1, []) := rfl
theorem t47_17 : q_tb (PP 47) 17 = some (.istore 5, 2, []) := rfl
theorem t47_19 : q_tb (PP 47) 19 = some (.iconst 1, 1, []) := rfl
theorem t47_20 : q_tb (PP 47) 20 = some (.istore 6, 2, []) := rfl
theorem t47_22 : q_tb (PP 47) 22 = some (.iconst 0, 1, []) := rfl
theorem t47_23 : q_tb (PP 47) 23 = some (.istore 7, 2, []) := rfl
theorem t47_25 : q_tb (PP 47) 25 = some (.iload 7, 2, [8]) := rfl
theorem t47_27 : q_tb (PP 47) 27 = some (.iconst 3, 1, []) := rfl
theorem t47_28 : q_tb (PP 47) 28 = some (.if_icmp .ge 222, 3, []) := rfl
theorem t47_31 : q_tb (PP 47) 31 = some (.iload 7, 2, []) := rfl
theorem t47_33 : q_tb (PP 47) 33 = some (.ifCond .ne 10, 3, []) := rfl
theorem t47_36 : q_tb (PP 47) 36 = some (.iload_n 3, 1, []) := rfl
theorem t47_37 : q_tb (PP 47) 37 = some (.bipush 25, 2, []) := rfl
theorem t47_39 : q_tb (PP 47) 39 = some (.idiv, 1, []) := rfl
theorem t47_40 : q_tb (PP 47) 40 = some (.goto 20, 3, []) := rfl
theorem t47_43 : q_tb (PP 47) 43 = some (.iload 7, 2, []) := rfl
theorem t47_45 : q_tb (PP 47) 45 = some (.iconst 1, 1, []) := rfl
theorem t47_46 : q_tb (PP 47) 46 = some (.if_icmp .ne 11, 3, []) := rfl
theorem t47_49 : q_tb (PP 47) 49 = some (.iload_n 3, 1, []) := rfl
theorem t47_50 : q_tb (PP 47) 50 = some (.iconst 5, 1, []) := rfl
theorem t47_51 : q_tb (PP 47) 51 = some (.idiv, 1, []) := rfl
theorem t47_52 : q_tb (PP 47) 52 = some (.iconst 5, 1, []) := rfl
theorem t47_53 : q_tb (PP 47) 53 = some (.irem, 1, []) := rfl
theorem t47_54 : q_tb (PP 47) 54 = some (.goto 6, 3, []) := rfl
theorem t47_57 : q_tb (PP 47) 57 = some (.iload_n 3, 1, []) := rfl
theorem t47_58 : q_tb (PP 47) 58 = some (.iconst 5, 1, []) := rfl
theorem t47_59 : q_tb (PP 47) 59 = some (.irem, 1, []) := rfl
theorem t47_60 : q_tb (PP 47) 60 = some (.istore 8, 2, [8]) := rfl
theorem t47_62 : q_tb (PP 47) 62 = some (.iload 6, 2, []) := rfl
theorem t47_64 : q_tb (PP 47) 64 = some (.ifCond .eq 51, 3, []) := rfl
theorem t47_67 : q_tb (PP 47) 67 = some (.iload 7, 2, []) := rfl
theorem t47_69 : q_tb (PP 47) 69 = some (.aload_n 0, 1, []) := rfl
theorem t47_70 : q_tb (PP 47) 70 = some (.getfield 82, 3, []) := rfl
theorem t47_73 : q_tb (PP 47) 73 = some (.if_icmp .ge 33, 3, []) := rfl
theorem t47_76 : q_tb (PP 47) 76 = some (.iload 8, 2, []) := rfl
theorem t47_78 : q_tb (PP 47) 78 = some (.ifCond .eq 33, 3, []) := rfl
theorem t47_81 : q_tb (PP 47) 81 = some (.iload 8, 2, []) := rfl
theorem t47_83 : q_tb (PP 47) 83 = some (.iconst 1, 1, []) := rfl
theorem t47_84 : q_tb (PP 47) 84 = some (.isub, 1, []) := rfl
theorem t47_85 : q_tb (PP 47) 85 = some (.aload_n 0, 1, []) := rfl
theorem t47_86 : q_tb (PP 47) 86 = some (.getfield 13, 3, []) := rfl
theorem t47_89 : q_tb (PP 47) 89 = some (.iload 7, 2, []) := rfl
theorem t47_91 : q_tb (PP 47) 91 = some (.iaload, 1, []) := rfl
theorem t47_92 : q_tb (PP 47) 92 = some (.aload_n 0, 1, []) := rfl
theorem t47_93 : q_tb (PP 47) 93 = some (.getfield 7, 3, []) := rfl
theorem t47_96 : q_tb (PP 47) 96 = some (.iload 7, 2, []) := rfl
theorem t47_98 : q_tb (PP 47) 98 = some (.iaload, 1, []) := rfl
theorem t47_99 : q_tb (PP 47) 99 = some (.isub, 1, []) := rfl
theorem t47_100 : q_tb (PP 47) 100 = some (.if_icmp .gt 15, 3, []) := rfl
theorem t47_103 : q_tb (PP 47) 103 = some (.goto 8, 3, []) := rfl
theorem t47_106 : q_tb (PP 47) 106 = some (.iload 8, 2, []) := rfl
theorem t47_108 : q_tb (PP 47) 108 = some (.ifCond .ne 7, 3, []) := rfl
theorem t47_111 : q_tb (PP 47) 111 = some (.iconst 1, 1, [6]) := rfl
theorem t47_112 : q_tb (PP 47) 112 = some (.goto 4, 3, []) := rfl
theorem t47_115 : q_tb (PP 47) 115 = some (.iconst 0, 1, [6]) := rfl
theorem t47_116 : q_tb (PP 47) 116 = some (.istore 6, 2, [6]) := rfl
theorem t47_118 : q_tb (PP 47) 118 = some (.iload 6, 2, []) := rfl
theorem t47_120 : q_tb (PP 47) 120 = some (.ifCond .eq 40, 3, []) := rfl
theorem t47_123 : q_tb (PP 47) 123 = some (.iload_n 2, 1, []) := rfl
theorem t47_124 : q_tb (PP 47) 124 = some (.ifCond .eq 32, 3, []) := rfl
theorem t47_127 : q_tb (PP 47) 127 = some (.iload 7, 2, []) := rfl
theorem t47_129 : q_tb (PP 47) 129 = some (.aload_n 0, 1, []) := rfl
theorem t47_130 : q_tb (PP 47) 130 = some (.getfield 82, 3, []) := rfl
theorem t47_133 : q_tb (PP 47) 133 = some (.if_icmp .ge 23, 3, []) := rfl
theorem t47_136 : q_tb (PP 47) 136 = some (.aload_n 0, 1, []) := rfl
theorem t47_137 : q_tb (PP 47) 137 = some (.iload 7, 2, []) := rfl
theorem t47_139 : q_tb (PP 47) 139 = some (.iload_n 1, 1, []) := rfl
theorem t47_140 : q_tb (PP 47) 140 = some (.invokevirtual 120, 3, []) := rfl
theorem t47_143 : q_tb (PP 47) 143 = some (.iload 8, 2, []) := rfl
theorem t47_145 : q_tb (PP 47) 145 = some (.ifCond .le 7, 3, []) := rfl
theorem t47_148 : q_tb (PP 47) 148 = some (.iconst 1, 1, []) := rfl
theorem t47_149 : q_tb (PP 47) 149 = some (.goto 4, 3, []) := rfl
theorem t47_152 : q_tb (PP 47) 152 = some (.iconst 0, 1, []) := rfl
theorem t47_153 : q_tb (PP 47) 153 = some (.if_icmp .ne 7, 3, [6]) := rfl
theorem t47_156 : q_tb (PP 47) 156 = some (.iconst 1, 1, [6]) := rfl
theorem t47_157 : q_tb (PP 47) 157 = some (.goto 4, 3, []) := rfl
theorem t47_160 : q_tb (PP 47) 160 = some (.iconst 0, 1, [6]) := rfl
theorem t47_161 : q_tb (PP 47) 161 = some (.istore 6, 2, [6]) := rfl
theorem t47_163 : q_tb (PP 47) 163 = some (.iload 4, 2, []) := rfl
theorem t47_165 : q_tb (PP 47) 165 = some (.iload 8, 2, []) := rfl
theorem t47_167 : q_tb (PP 47) 167 = some (.ifCond .eq 12, 3, []) := rfl
theorem t47_170 : q_tb (PP 47) 170 = some (.iload 7, 2, []) := rfl
theorem t47_172 : q_tb (PP 47) 172 = some (.aload_n 0, 1, []) := rfl
theorem t47_173 : q_tb (PP 47) 173 = some (.getfield 82, 3, []) := rfl
theorem t47_176 : q_tb (PP 47) 176 = some (.if_icmp .lt 7, 3, []) := rfl
theorem t47_179 : q_tb (PP 47) 179 = some (.iconst 0, 1, [4]) := rfl
theorem t47_180 : q_tb (PP 47) 180 = some (.goto 15, 3, []) := rfl
theorem t47_183 : q_tb (PP 47) 183 = some (.aload_n 0, 1, []) := rfl
theorem t47_184 : q_tb (PP 47) 184 = some (.getfield 7, 3, []) := rfl
theorem t47_187 : q_tb (PP 47) 187 = some (.iload 7, 2, []) := rfl
theorem t47_189 : q_tb (PP 47) 189 = some (.iaload, 1, []) := rfl
theorem t47_190 : q_tb (PP 47) 190 = some (.iload 8, 2, []) := rfl
theorem t47_192 : q_tb (PP 47) 192 = some (.iadd, 1, []) := rfl
theorem t47_193 : q_tb (PP 47) 193 = some (.iconst 1, 1, []) := rfl
theorem t47_194 : q_tb (PP 47) 194 = some (.isub, 1, []) := rfl
theorem t47_195 : q_tb (PP 47) 195 = some (.iadd, 1, [4]) := rfl
theorem t47_196 : q_tb (PP 47) 196 = some (.istore 4, 2, []) := rfl
theorem t47_198 : q_tb (PP 47) 198 = some (.iload 5, 2, []) := rfl
theorem t47_200 : q_tb (PP 47) 200 = some (.iload 8, 2, []) := rfl
theorem t47_202 : q_tb (PP 47) 202 = some (.ifCond .eq 12, 3, []) := rfl
theorem t47_205 : q_tb (PP 47) 205 = some (.iload 7, 2, []) := rfl
theorem t47_207 : q_tb (PP 47) 207 = some (.aload_n 0, 1, []) := rfl
theorem t47_208 : q_tb (PP 47) 208 = some (.getfield 82, 3, []) := rfl
theorem t47_211 : q_tb (PP 47) 211 = some (.if_icmp .lt 7, 3, []) := rfl
theorem t47_214 : q_tb (PP 47) 214 = some (.iconst 0, 1, [5]) := rfl
theorem t47_215 : q_tb (PP 47) 215 = some (.goto 10, 3, []) := rfl
theorem t47_218 : q_tb (PP 47) 218 = some (.aload_n 0, 1, []) := rfl
theorem t47_219 : q_tb (PP 47) 219 = some (.getfield 13, 3, []) := rfl
theorem t47_222 : q_tb (PP 47) 222 = some (.iload 7, 2, []) := rfl
theorem t47_224 : q_tb (PP 47) 224 = some (.iaload, 1, []) := rfl
theorem t47_225 : q_tb (PP 47) 225 = some (.iadd, 1, [5]) := rfl
theorem t47_226 : q_tb (PP 47) 226 = some (.istore 5, 2, []) := rfl
theorem t47_228 : q_tb (PP 47) 228 = some (.aload_n 0, 1, []) := rfl
theorem t47_229 : q_tb (PP 47) 229 = some (.getfield 73, 3, []) := rfl
theorem t47_232 : q_tb (PP 47) 232 = some (.iconst 3, 1, []) := rfl
theorem t47_233 : q_tb (PP 47) 233 = some (.aload_n 0, 1, []) := rfl
theorem t47_234 : q_tb (PP 47) 234 = some (.getfield 117, 3, []) := rfl
theorem t47_237 : q_tb (PP 47) 237 = some (.imul, 1, []) := rfl
theorem t47_238 : q_tb (PP 47) 238 = some (.iload 7, 2, []) := rfl
theorem t47_240 : q_tb (PP 47) 240 = some (.iadd, 1, []) := rfl
theorem t47_241 : q_tb (PP 47) 241 = some (.iload 8, 2, []) := rfl
theorem t47_243 : q_tb (PP 47) 243 = some (.iastore, 1, []) := rfl
theorem t47_244 : q_tb (PP 47) 244 = some (.iinc 7 1, 3, []) := rfl
theorem t47_247 : q_tb (PP 47) 247 = some (.goto (-222), 3, []) := rfl
theorem t47_250 : q_tb (PP 47) 250 = some (.aload_n 0, 1, []) := rfl
theorem t47_251 : q_tb (PP 47) 251 = some (.dup, 1, []) := rfl
theorem t47_252 : q_tb (PP 47) 252 = some (.getfield 117, 3, []) := rfl
theorem t47_255 : q_tb (PP 47) 255 = some (.iload 6, 2, []) := rfl
theorem t47_257 : q_tb (PP 47) 257 = some (.ifCond .eq 32, 3, []) := rfl
theorem t47_260 : q_tb (PP 47) 260 = some (.iload 4, 2, []) := rfl
theorem t47_262 : q_tb (PP 47) 262 = some (.aload_n 0, 1, []) := rfl
theorem t47_263 : q_tb (PP 47) 263 = some (.getfield 37, 3, []) := rfl
theorem t47_266 : q_tb (PP 47) 266 = some (.iload_n 1, 1, []) := rfl
theorem t47_267 : q_tb (PP 47) 267 = some (.iaload, 1, []) := rfl
theorem t47_268 : q_tb (PP 47) 268 = some (.if_icmp .ne 21, 3, []) := rfl
theorem t47_271 : q_tb (PP 47) 271 = some (.iload 5, 2, []) := rfl
theorem t47_273 : q_tb (PP 47) 273 = some (.iload 4, 2, []) := rfl
theorem t47_275 : q_tb (PP 47) 275 = some (.isub, 1, []) := rfl
theorem t47_276 : q_tb (PP 47) 276 = some (.aload_n 0, 1, []) := rfl
theorem t47_277 : q_tb (PP 47) 277 = some (.getfield 40, 3, []) := rfl
theorem t47_280 : q_tb (PP 47) 280 = some (.iload_n 1, 1, []) := rfl
theorem t47_281 : q_tb (PP 47) 281 = some (.iaload, 1, []) := rfl
theorem t47_282 : q_tb (PP 47) 282 = some (.if_icmp .lt 7, 3, []) := rfl
theorem t47_285 : q_tb (PP 47) 285 = some (.iconst 1, 1, []) := rfl
theorem t47_286 : q_tb (PP 47) 286 = some (.goto 4, 3, []) := rfl
theorem t47_289 : q_tb (PP 47) 289 = some (.iconst 0, 1, [4, 5, 6, 7, 8]) := rfl
theorem t47_290 : q_tb (PP 47) 290 = some (.iadd, 1, [4, 5, 6, 7, 8]) := rfl
theorem t47_291 : q_tb (PP 47) 291 = some (.putfield 117, 3, []) := rfl
theorem t47_294 : q_tb (PP 47) 294 = some (.iinc 3 1, 3, []) := rfl
theorem t47_297 : q_tb (PP 47) 297 = some (.goto (-290), 3, []) := rfl
theorem t47_300 : q_tb (PP 47) 300 = some (.return_, 1, []) := rfl
theorem t48_0 : q_tb (PP 48) 0 = some (.iconst 0, 1, []) := rfl
theorem t48_1 : q_tb (PP 48) 1 = some (.istore_n 3, 1, []) := rfl
theorem t48_2 : q_tb (PP 48) 2 = some (.iconst 0, 1, []) := rfl
theorem t48_3 : q_tb (PP 48) 3 = some (.istore 4, 2, []) := rfl
theorem t48_5 : q_tb (PP 48) 5 = some (.iload 4, 2, [5]) := rfl
theorem t48_7 : q_tb (PP 48) 7 = some (.iconst 3, 1, []) := rfl
theorem t48_8 : q_tb (PP 48) 8 = some (.if_icmp .ge 68, 3, []) := rfl
theorem t48_11 : q_tb (PP 48) 11 = some (.iload 4, 2, []) := rfl
theorem t48_13 : q_tb (PP 48) 13 = some (.aload_n 0, 1, []) := rfl
theorem t48_14 : q_tb (PP 48) 14 = some (.getfield 82, 3, []) := rfl
theorem t48_17 : q_tb (PP 48) 17 = some (.if_icmp .ge 29, 3, []) := rfl
theorem t48_20 : q_tb (PP 48) 20 = some (.aload_n 0, 1, []) := rfl
theorem t48_21 : q_tb (PP 48) 21 = some (.iload 4, 2, []) := rfl
theorem t48_23 : q_tb (PP 48) 23 = some (.iload_n 1, 1, []) := rfl
theorem t48_24 : q_tb (PP 48) 24 = some (.iload 4, 2, []) := rfl
theorem t48_26 : q_tb (PP 48) 26 = some (.invokestatic 124, 3, []) := rfl
theorem t48_29 : q_tb (PP 48) 29 = some (.aload_n 0, 1, []) := rfl
theorem t48_30 : q_tb (PP 48) 30 = some (.getfield 73, 3, []) := rfl
theorem t48_33 : q_tb (PP 48) 33 = some (.iconst 3, 1, []) := rfl
theorem t48_34 : q_tb (PP 48) 34 = some (.iload_n 2, 1, []) := rfl
theorem t48_35 : q_tb (PP 48) 35 = some (.imul, 1, []) := rfl
theorem t48_36 : q_tb (PP 48) 36 = some (.iload 4, 2, []) := rfl
theorem t48_38 : q_tb (PP 48) 38 = some (.iadd, 1, []) := rfl
theorem t48_39 : q_tb (PP 48) 39 = some (.iaload, 1, []) := rfl
theorem t48_40 : q_tb (PP 48) 40 = some (.invokevirtual 128, 3, []) := rfl
theorem t48_43 : q_tb (PP 48) 43 = some (.goto 4, 3, []) := rfl
theorem t48_46 : q_tb (PP 48) 46 = some (.iconst 0, 1, []) := rfl
theorem t48_47 : q_tb (PP 48) 47 = some (.istore 5, 2, [5]) := rfl
theorem t48_49 : q_tb (PP 48) 49 = some (.iload_n 3, 1, []) := rfl
theorem t48_50 : q_tb (PP 48) 50 = some (.ifCond .lt 8, 3, []) := rfl
theorem t48_53 : q_tb (PP 48) 53 = some (.iload 5, 2, []) := rfl
theorem t48_55 : q_tb (PP 48) 55 = some (.ifCond .ge 7, 3, []) := rfl
theorem t48_58 : q_tb (PP 48) 58 = some (.iconst (-1), 1, [3, 5]) := rfl
theorem t48_59 : q_tb (PP 48) 59 = some (.goto 10, 3, []) := rfl
theorem t48_62 : q_tb (PP 48) 62 = some (.bipush 15, 2, []) := rfl
theorem t48_64 : q_tb (PP 48) 64 = some (.iload_n 3, 1, []) := rfl
theorem t48_65 : q_tb (PP 48) 65 = some (.imul, 1, []) := rfl
theorem t48_66 : q_tb (PP 48) 66 = some (.iload 5, 2, []) := rfl
theorem t48_68 : q_tb (PP 48) 68 = some (.iadd, 1, []) := rfl
theorem t48_69 : q_tb (PP 48) 69 = some (.istore_n 3, 1, [3, 5]) := rfl
theorem t48_70 : q_tb (PP 48) 70 = some (.iinc 4 1, 3, []) := rfl
theorem t48_73 : q_tb (PP 48) 73 = some (.goto (-68), 3, []) := rfl
theorem t48_76 : q_tb (PP 48) 76 = some (.iload_n 3, 1, []) := rfl
theorem t48_77 : q_tb (PP 48) 77 = some (.ireturn, 1, []) := rfl
theorem t49_0 : q_tb (PP 49) 0 = some (.iconst 0, 1, []) := rfl
theorem t49_1 : q_tb (PP 49) 1 = some (.istore_n 3, 1, []) := rfl
theorem t49_2 : q_tb (PP 49) 2 = some (.iconst 0, 1, []) := rfl
theorem t49_3 : q_tb (PP 49) 3 = some (.istore 4, 2, []) := rfl
theorem t49_5 : q_tb (PP 49) 5 = some (.iload 4, 2, []) := rfl
theorem t49_7 : q_tb (PP 49) 7 = some (.aload_n 0, 1, []) := rfl
theorem t49_8 : q_tb (PP 49) 8 = some (.getfield 82, 3, []) := rfl
theorem t49_11 : q_tb (PP 49) 11 = some (.if_icmp .ge 35, 3, []) := rfl
theorem t49_14 : q_tb (PP 49) 14 = some (.iload_n 3, 1, []) := rfl
theorem t49_15 : q_tb (PP 49) 15 = some (.aload_n 0, 1, []) := rfl
theorem t49_16 : q_tb (PP 49) 16 = some (.iload 4, 2, []) := rfl
theorem t49_18 : q_tb (PP 49) 18 = some (.iload_n 1, 1, []) := rfl
theorem t49_19 : q_tb (PP 49) 19 = some (.iload 4, 2, []) := rfl
theorem t49_21 : q_tb (PP 49) 21 = some (.invokestatic 124, 3, []) := rfl
theorem t49_24 : q_tb (PP 49) 24 = some (.aload_n 0, 1, []) := rfl
theorem t49_25 : q_tb (PP 49) 25 = some (.getfield 73, 3, []) := rfl
theorem t49_28 : q_tb (PP 49) 28 = some (.iconst 3, 1, []) := rfl
theorem t49_29 : q_tb (PP 49) 29 = some (.iload_n 2, 1, []) := rfl
theorem t49_30 : q_tb (PP 49) 30 = some (.imul, 1, []) := rfl
theorem t49_31 : q_tb (PP 49) 31 = some (.iload 4, 2, []) := rfl
theorem t49_33 : q_tb (PP 49) 33 = some (.iadd, 1, []) := rfl
theorem t49_34 : q_tb (PP 49) 34 = some (.iaload, 1, []) := rfl
theorem t49_35 : q_tb (PP 49) 35 = some (.invokevirtual 132, 3, []) := rfl
theorem t49_38 : q_tb (PP 49) 38 = some (.iadd, 1, []) := rfl
theorem t49_39 : q_tb (PP 49) 39 = some (.istore_n 3, 1, []) := rfl
theorem t49_40 : q_tb (PP 49) 40 = some (.iinc 4 1, 3, []) := rfl
theorem t49_43 : q_tb (PP 49) 43 = some (.goto (-38), 3, []) := rfl
theorem t49_46 : q_tb (PP 49) 46 = some (.iload_n 3, 1, []) := rfl
theorem t49_47 : q_tb (PP 49) 47 = some (.ireturn, 1, []) := rfl
theorem t50_0 : q_tb (PP 50) 0 = some (.aload_n 0, 1, []) := rfl
theorem t50_1 : q_tb (PP 50) 1 = some (.iload_n 1, 1, []) := rfl
theorem t50_2 : q_tb (PP 50) 2 = some (.iload_n 2, 1, []) := rfl
theorem t50_3 : q_tb (PP 50) 3 = some (.invokevirtual 135, 3, []) := rfl
theorem t50_6 : q_tb (PP 50) 6 = some (.iconst 0, 1, []) := rfl
theorem t50_7 : q_tb (PP 50) 7 = some (.istore_n 3, 1, []) := rfl
theorem t50_8 : q_tb (PP 50) 8 = some (.iload_n 3, 1, [2, 4, 5, 6, 7, 8]) := rfl
theorem t50_9 : q_tb (PP 50) 9 = some (.sipush 3375, 3, []) := rfl
theorem t50_12 : q_tb (PP 50) 12 = some (.if_icmp .ge 181, 3, []) := rfl
theorem t50_15 : q_tb (PP 50) 15 = some (.ldc 139, 2, []) := rfl
theorem t50_17 : q_tb (PP 50) 17 = some (.istore 4, 2, []) := rfl
theorem t50_19 : q_tb (PP 50) 19 = some (.aload_n 0, 1, []) := rfl
theorem t50_20 : q_tb (PP 50) 20 = some (.getfield 82, 3, []) := rfl
theorem t50_23 : q_tb (PP 50) 23 = some (.ifCond .gt 11, 3, []) := rfl
theorem t50_26 : q_tb (PP 50) 26 = some (.iload_n 3, 1, []) := rfl
theorem t50_27 : q_tb (PP 50) 27 = some (.sipush 225, 3, []) := rfl
theorem t50_30 : q_tb (PP 50) 30 = some (.idiv, 1, []) := rfl
theorem t50_31 : q_tb (PP 50) 31 = some (.ifCond .ne 40, 3, []) := rfl
theorem t50_34 : q_tb (PP 50) 34 = some (.aload_n 0, 1, [2, 5, 6, 7, 8]) := rfl
theorem t50_35 : q_tb (PP 50) 35 = some (.getfield 82, 3, []) := rfl
theorem t50_38 : q_tb (PP 50) 38 = some (.iconst 1, 1, []) := rfl
theorem t50_39 : q_tb (PP 50) 39 = some (.if_icmp .gt 13, 3, []) := rfl
theorem t50_42 : q_tb (PP 50) 42 = some (.iload_n 3, 1, []) := rfl
theorem t50_43 : q_tb (PP 50) 43 = some (.bipush 15, 2, []) := rfl
theorem t50_45 : q_tb (PP 50) 45 = some (.idiv, 1, []) := rfl
theorem t50_46 : q_tb (PP 50) 46 = some (.bipush 15, 2, []) := rfl
theorem t50_48 : q_tb (PP 50) 48 = some (.irem, 1, []) := rfl
theorem t50_49 : q_tb (PP 50) 49 = some (.ifCond .ne 22, 3, []) := rfl
theorem t50_52 : q_tb (PP 50) 52 = some (.aload_n 0, 1, [2, 5, 6, 7, 8]) := rfl
theorem t50_53 : q_tb (PP 50) 53 = some (.getfield 82, 3, []) := rfl
theorem t50_56 : q_tb (PP 50) 56 = some (.iconst 2, 1, []) := rfl
theorem t50_57 : q_tb (PP 50) 57 = some (.if_icmp .gt 10, 3, []) := rfl
theorem t50_60 : q_tb (PP 50) 60 = some (.iload_n 3, 1, []) := rfl
theorem t50_61 : q_tb (PP 50) 61 = some (.bipush 15, 2, []) := rfl
theorem t50_63 : q_tb (PP 50) 63 = some (.irem, 1, []) := rfl
theorem t50_64 : q_tb (PP 50) 64 = some (.ifCond .ne 7, 3, []) := rfl
theorem t50_67 : q_tb (PP 50) 67 = some (.iconst 1, 1, [2, 5, 6, 7, 8]) := rfl
theorem t50_68 : q_tb (PP 50) 68 = some (.goto 4, 3, []) := rfl
theorem t50_71 : q_tb (PP 50) 71 = some (.iconst 0, 1, [2, 5, 6, 7, 8]) := rfl
theorem t50_72 : q_tb (PP 50) 72 = some (.istore 5, 2, [2, 5, 6, 7, 8]) := rfl
theorem t50_74 : q_tb (PP 50) 74 = some (.iconst 0, 1, []) := rfl
theorem t50_75 : q_tb (PP 50) 75 = some (.istore 6, 2, []) := rfl
theorem t50_77 : q_tb (PP 50) 77 = some (.iload 6, 2, [2, 7, 8]) := rfl
theorem t50_79 : q_tb (PP 50) 79 = some (.aload_n 0, 1, []) := rfl
theorem t50_80 : q_tb (PP 50) 80 = some (.getfield 117, 3, []) := rfl
theorem t50_83 : q_tb (PP 50) 83 = some (.if_icmp .ge 90, 3, []) := rfl
theorem t50_86 : q_tb (PP 50) 86 = some (.iload 5, 2, []) := rfl
theorem t50_88 : q_tb (PP 50) 88 = some (.ifCond .eq 85, 3, []) := rfl
theorem t50_91 : q_tb (PP 50) 91 = some (.aload_n 0, 1, []) := rfl
theorem t50_92 : q_tb (PP 50) 92 = some (.iload_n 3, 1, []) := rfl
theorem t50_93 : q_tb (PP 50) 93 = some (.iload 6, 2, []) := rfl
theorem t50_95 : q_tb (PP 50) 95 = some (.invokevirtual 140, 3, []) := rfl
theorem t50_98 : q_tb (PP 50) 98 = some (.istore 7, 2, []) := rfl
theorem t50_100 : q_tb (PP 50) 100 = some (.iload 7, 2, []) := rfl
theorem t50_102 : q_tb (PP 50) 102 = some (.ifCond .ge 8, 3, []) := rfl
theorem t50_105 : q_tb (PP 50) 105 = some (.ldc 139, 2, []) := rfl
theorem t50_107 : q_tb (PP 50) 107 = some (.goto 18, 3, []) := rfl
theorem t50_110 : q_tb (PP 50) 110 = some (.aload_n 0, 1, []) := rfl
theorem t50_111 : q_tb (PP 50) 111 = some (.getfield 60, 3, []) := rfl
theorem t50_114 : q_tb (PP 50) 114 = some (.sipush 3375, 3, []) := rfl
theorem t50_117 : q_tb (PP 50) 117 = some (.iload_n 1, 1, []) := rfl
theorem t50_118 : q_tb (PP 50) 118 = some (.iconst 1, 1, []) := rfl
theorem t50_119 : q_tb (PP 50) 119 = some (.iadd, 1, []) := rfl
theorem t50_120 : q_tb (PP 50) 120 = some (.imul, 1, []) := rfl
theorem t50_121 : q_tb (PP 50) 121 = some (.iload 7, 2, []) := rfl
theorem t50_123 : q_tb (PP 50) 123 = some (.iadd, 1, []) := rfl
theorem t50_124 : q_tb (PP 50) 124 = some (.iaload, 1, []) := rfl
theorem t50_125 : q_tb (PP 50) 125 = some (.istore 8, 2, [2, 7, 8]) := rfl
theorem t50_127 : q_tb (PP 50) 127 = some (.iload 8, 2, []) := rfl
theorem t50_129 : q_tb (PP 50) 129 = some (.ldc 139, 2, []) := rfl
theorem t50_131 : q_tb (PP 50) 131 = some (.if_icmp .ne 8, 3, []) := rfl
theorem t50_134 : q_tb (PP 50) 134 = some (.ldc 139, 2, []) := rfl
theorem t50_136 : q_tb (PP 50) 136 = some (.goto 13, 3, []) := rfl
theorem t50_139 : q_tb (PP 50) 139 = some (.iload 8, 2, []) := rfl
theorem t50_141 : q_tb (PP 50) 141 = some (.aload_n 0, 1, []) := rfl
theorem t50_142 : q_tb (PP 50) 142 = some (.iload_n 3, 1, []) := rfl
theorem t50_143 : q_tb (PP 50) 143 = some (.iload 6, 2, []) := rfl
theorem t50_145 : q_tb (PP 50) 145 = some (.invokevirtual 143, 3, []) := rfl
theorem t50_148 : q_tb (PP 50) 148 = some (.iadd, 1, []) := rfl
theorem t50_149 : q_tb (PP 50) 149 = some (.istore 8, 2, [2, 7, 8]) := rfl
theorem t50_151 : q_tb (PP 50) 151 = some (.iload 8, 2, []) := rfl
theorem t50_153 : q_tb (PP 50) 153 = some (.iload 4, 2, []) := rfl
theorem t50_155 : q_tb (PP 50) 155 = some (.if_icmp .ge 8, 3, []) := rfl
theorem t50_158 : q_tb (PP 50) 158 = some (.iload 8, 2, []) := rfl
theorem t50_160 : q_tb (PP 50) 160 = some (.goto 5, 3, []) := rfl
theorem t50_163 : q_tb (PP 50) 163 = some (.iload 4, 2, []) := rfl
theorem t50_165 : q_tb (PP 50) 165 = some (.istore 4, 2, [2, 4, 7, 8]) := rfl
theorem t50_167 : q_tb (PP 50) 167 = some (.iinc 6 1, 3, []) := rfl
theorem t50_170 : q_tb (PP 50) 170 = some (.goto (-93), 3, []) := rfl
theorem t50_173 : q_tb (PP 50) 173 = some (.aload_n 0, 1, [2, 5, 6, 7, 8]) := rfl
theorem t50_174 : q_tb (PP 50) 174 = some (.getfield 60, 3, []) := rfl
theorem t50_177 : q_tb (PP 50) 177 = some (.sipush 3375, 3, []) := rfl
theorem t50_180 : q_tb (PP 50) 180 = some (.iload_n 1, 1, []) := rfl
theorem t50_181 : q_tb (PP 50) 181 = some (.imul, 1, []) := rfl
theorem t50_182 : q_tb (PP 50) 182 = some (.iload_n 3, 1, []) := rfl
theorem t50_183 : q_tb (PP 50) 183 = some (.iadd, 1, []) := rfl
theorem t50_184 : q_tb (PP 50) 184 = some (.iload 4, 2, []) := rfl
theorem t50_186 : q_tb (PP 50) 186 = some (.iastore, 1, []) := rfl
theorem t50_187 : q_tb (PP 50) 187 = some (.iinc 3 1, 3, []) := rfl
theorem t50_190 : q_tb (PP 50) 190 = some (.goto (-182), 3, []) := rfl
theorem t50_193 : q_tb (PP 50) 193 = some (.return_, 1, []) := rfl
theorem t51_0 : q_tb (PP 51) 0 = some (.iconst 0, 1, []) := rfl
theorem t51_1 : q_tb (PP 51) 1 = some (.istore_n 2, 1, []) := rfl
theorem t51_2 : q_tb (PP 51) 2 = some (.iload_n 2, 1, []) := rfl
theorem t51_3 : q_tb (PP 51) 3 = some (.sipush 3375, 3, []) := rfl
theorem t51_6 : q_tb (PP 51) 6 = some (.if_icmp .ge 25, 3, []) := rfl
theorem t51_9 : q_tb (PP 51) 9 = some (.aload_n 0, 1, []) := rfl
theorem t51_10 : q_tb (PP 51) 10 = some (.getfield 60, 3, []) := rfl
theorem t51_13 : q_tb (PP 51) 13 = some (.sipush 3375, 3, []) := rfl
theorem t51_16 : q_tb (PP 51) 16 = some (.aload_n 0, 1, []) := rfl
theorem t51_17 : q_tb (PP 51) 17 = some (.getfield 76, 3, []) := rfl
theorem t51_20 : q_tb (PP 51) 20 = some (.imul, 1, []) := rfl
theorem t51_21 : q_tb (PP 51) 21 = some (.iload_n 2, 1, []) := rfl
theorem t51_22 : q_tb (PP 51) 22 = some (.iadd, 1, []) := rfl
theorem t51_23 : q_tb (PP 51) 23 = some (.iconst 0, 1, []) := rfl
theorem t51_24 : q_tb (PP 51) 24 = some (.iastore, 1, []) := rfl
theorem t51_25 : q_tb (PP 51) 25 = some (.iinc 2 1, 3, []) := rfl
theorem t51_28 : q_tb (PP 51) 28 = some (.goto (-26), 3, []) := rfl
theorem t51_31 : q_tb (PP 51) 31 = some (.aload_n 0, 1, []) := rfl
theorem t51_32 : q_tb (PP 51) 32 = some (.getfield 76, 3, []) := rfl
theorem t51_35 : q_tb (PP 51) 35 = some (.iconst 1, 1, []) := rfl
theorem t51_36 : q_tb (PP 51) 36 = some (.isub, 1, []) := rfl
theorem t51_37 : q_tb (PP 51) 37 = some (.istore_n 2, 1, []) := rfl
theorem t51_38 : q_tb (PP 51) 38 = some (.iload_n 2, 1, []) := rfl
theorem t51_39 : q_tb (PP 51) 39 = some (.ifCond .lt 15, 3, []) := rfl
theorem t51_42 : q_tb (PP 51) 42 = some (.aload_n 0, 1, []) := rfl
theorem t51_43 : q_tb (PP 51) 43 = some (.iload_n 2, 1, []) := rfl
theorem t51_44 : q_tb (PP 51) 44 = some (.iload_n 1, 1, []) := rfl
theorem t51_45 : q_tb (PP 51) 45 = some (.invokevirtual 146, 3, []) := rfl
theorem t51_48 : q_tb (PP 51) 48 = some (.iinc 2 (-1), 3, []) := rfl
theorem t51_51 : q_tb (PP 51) 51 = some (.goto (-13), 3, []) := rfl
theorem t51_54 : q_tb (PP 51) 54 = some (.iconst 0, 1, []) := rfl
theorem t51_55 : q_tb (PP 51) 55 = some (.istore_n 2, 1, []) := rfl
theorem t51_56 : q_tb (PP 51) 56 = some (.iconst 0, 1, []) := rfl
theorem t51_57 : q_tb (PP 51) 57 = some (.istore_n 3, 1, []) := rfl
theorem t51_58 : q_tb (PP 51) 58 = some (.iload_n 3, 1, []) := rfl
theorem t51_59 : q_tb (PP 51) 59 = some (.iconst 3, 1, []) := rfl
theorem t51_60 : q_tb (PP 51) 60 = some (.if_icmp .ge 32, 3, []) := rfl
theorem t51_63 : q_tb (PP 51) 63 = some (.bipush 15, 2, []) := rfl
theorem t51_65 : q_tb (PP 51) 65 = some (.iload_n 2, 1, []) := rfl
theorem t51_66 : q_tb (PP 51) 66 = some (.imul, 1, []) := rfl
theorem t51_67 : q_tb (PP 51) 67 = some (.iload_n 3, 1, []) := rfl
theorem t51_68 : q_tb (PP 51) 68 = some (.aload_n 0, 1, []) := rfl
theorem t51_69 : q_tb (PP 51) 69 = some (.getfield 82, 3, []) := rfl
theorem t51_72 : q_tb (PP 51) 72 = some (.if_icmp .ge 11, 3, []) := rfl
theorem t51_75 : q_tb (PP 51) 75 = some (.aload_n 0, 1, []) := rfl
theorem t51_76 : q_tb (PP 51) 76 = some (.iload_n 3, 1, []) := rfl
theorem t51_77 : q_tb (PP 51) 77 = some (.invokevirtual 149, 3, []) := rfl
theorem t51_80 : q_tb (PP 51) 80 = some (.goto 4, 3, []) := rfl
theorem t51_83 : q_tb (PP 51) 83 = some (.iconst 0, 1, []) := rfl
theorem t51_84 : q_tb (PP 51) 84 = some (.iadd, 1, [2]) := rfl
theorem t51_85 : q_tb (PP 51) 85 = some (.istore_n 2, 1, []) := rfl
theorem t51_86 : q_tb (PP 51) 86 = some (.iinc 3 1, 3, []) := rfl
theorem t51_89 : q_tb (PP 51) 89 = some (.goto (-31), 3, []) := rfl
theorem t51_92 : q_tb (PP 51) 92 = some (.aload_n 0, 1, []) := rfl
theorem t51_93 : q_tb (PP 51) 93 = some (.getfield 60, 3, []) := rfl
theorem t51_96 : q_tb (PP 51) 96 = some (.iload_n 2, 1, []) := rfl
theorem t51_97 : q_tb (PP 51) 97 = some (.iaload, 1, []) := rfl
theorem t51_98 : q_tb (PP 51) 98 = some (.istore_n 3, 1, []) := rfl
theorem t51_99 : q_tb (PP 51) 99 = some (.iload_n 3, 1, []) := rfl
theorem t51_100 : q_tb (PP 51) 100 = some (.ldc 139, 2, []) := rfl
theorem t51_102 : q_tb (PP 51) 102 = some (.if_icmp .ne 5, 3, []) := rfl
theorem t51_105 : q_tb (PP 51) 105 = some (.iconst (-1), 1, []) := rfl
theorem t51_106 : q_tb (PP 51) 106 = some (.ireturn, 1, []) := rfl
theorem t51_107 : q_tb (PP 51) 107 = some (.iconst 0, 1, []) := rfl
theorem t51_108 : q_tb (PP 51) 108 = some (.istore 4, 2, []) := rfl
theorem t51_110 : q_tb (PP 51) 110 = some (.iload 4, 2, [5, 6, 7, 8]) := rfl
theorem t51_112 : q_tb (PP 51) 112 = some (.aload_n 0, 1, []) := rfl
theorem t51_113 : q_tb (PP 51) 113 = some (.getfield 76, 3, []) := rfl
theorem t51_116 : q_tb (PP 51) 116 = some (.if_icmp .ge 188, 3, []) := rfl
theorem t51_119 : q_tb (PP 51) 119 = some (.aload_n 0, 1, []) := rfl
theorem t51_120 : q_tb (PP 51) 120 = some (.iload 4, 2, []) := rfl
theorem t51_122 : q_tb (PP 51) 122 = some (.iload_n 1, 1, []) := rfl
theorem t51_123 : q_tb (PP 51) 123 = some (.invokevirtual 135, 3, []) := rfl
theorem t51_126 : q_tb (PP 51) 126 = some (.iconst 0, 1, []) := rfl
theorem t51_127 : q_tb (PP 51) 127 = some (.istore 5, 2, []) := rfl
theorem t51_129 : q_tb (PP 51) 129 = some (.iconst 0, 1, []) := rfl
theorem t51_130 : q_tb (PP 51) 130 = some (.istore 6, 2, []) := rfl
theorem t51_132 : q_tb (PP 51) 132 = some (.iload 6, 2, [7, 8]) := rfl
theorem t51_134 : q_tb (PP 51) 134 = some (.ifCond .ne 103, 3, []) := rfl
theorem t51_137 : q_tb (PP 51) 137 = some (.aload_n 0, 1, []) := rfl
theorem t51_138 : q_tb (PP 51) 138 = some (.iload_n 2, 1, []) := rfl
theorem t51_139 : q_tb (PP 51) 139 = some (.iload 5, 2, []) := rfl
theorem t51_141 : q_tb (PP 51) 141 = some (.invokevirtual 140, 3, []) := rfl
theorem t51_144 : q_tb (PP 51) 144 = some (.istore 7, 2, []) := rfl
theorem t51_146 : q_tb (PP 51) 146 = some (.iload 7, 2, []) := rfl
theorem t51_148 : q_tb (PP 51) 148 = some (.ifCond .lt 68, 3, []) := rfl
theorem t51_151 : q_tb (PP 51) 151 = some (.aload_n 0, 1, []) := rfl
theorem t51_152 : q_tb (PP 51) 152 = some (.getfield 60, 3, []) := rfl
theorem t51_155 : q_tb (PP 51) 155 = some (.sipush 3375, 3, []) := rfl
theorem t51_158 : q_tb (PP 51) 158 = some (.iload 4, 2, []) := rfl
theorem t51_160 : q_tb (PP 51) 160 = some (.iconst 1, 1, []) := rfl
theorem t51_161 : q_tb (PP 51) 161 = some (.iadd, 1, []) := rfl
theorem t51_162 : q_tb (PP 51) 162 = some (.imul, 1, []) := rfl
theorem t51_163 : q_tb (PP 51) 163 = some (.iload 7, 2, []) := rfl
theorem t51_165 : q_tb (PP 51) 165 = some (.iadd, 1, []) := rfl
theorem t51_166 : q_tb (PP 51) 166 = some (.iaload, 1, []) := rfl
theorem t51_167 : q_tb (PP 51) 167 = some (.ldc 139, 2, []) := rfl
theorem t51_169 : q_tb (PP 51) 169 = some (.if_icmp .ge 47, 3, []) := rfl
theorem t51_172 : q_tb (PP 51) 172 = some (.aload_n 0, 1, []) := rfl
theorem t51_173 : q_tb (PP 51) 173 = some (.getfield 60, 3, []) := rfl
theorem t51_176 : q_tb (PP 51) 176 = some (.sipush 3375, 3, []) := rfl
theorem t51_179 : q_tb (PP 51) 179 = some (.iload 4, 2, []) := rfl
theorem t51_181 : q_tb (PP 51) 181 = some (.iconst 1, 1, []) := rfl
theorem t51_182 : q_tb (PP 51) 182 = some (.iadd, 1, []) := rfl
theorem t51_183 : q_tb (PP 51) 183 = some (.imul, 1, []) := rfl
theorem t51_184 : q_tb (PP 51) 184 = some (.iload 7, 2, []) := rfl
theorem t51_186 : q_tb (PP 51) 186 = some (.iadd, 1, []) := rfl
theorem t51_187 : q_tb (PP 51) 187 = some (.iaload, 1, []) := rfl
theorem t51_188 : q_tb (PP 51) 188 = some (.aload_n 0, 1, []) := rfl
theorem t51_189 : q_tb (PP 51) 189 = some (.iload_n 2, 1, []) := rfl
theorem t51_190 : q_tb (PP 51) 190 = some (.iload 5, 2, []) := rfl
theorem t51_192 : q_tb (PP 51) 192 = some (.invokevirtual 143, 3, []) := rfl
theorem t51_195 : q_tb (PP 51) 195 = some (.iadd, 1, []) := rfl
theorem t51_196 : q_tb (PP 51) 196 = some (.aload_n 0, 1, []) := rfl
theorem t51_197 : q_tb (PP 51) 197 = some (.getfield 60, 3, []) := rfl
theorem t51_200 : q_tb (PP 51) 200 = some (.sipush 3375, 3, []) := rfl
theorem t51_203 : q_tb (PP 51) 203 = some (.iload 4, 2, []) := rfl
theorem t51_205 : q_tb (PP 51) 205 = some (.imul, 1, []) := rfl
theorem t51_206 : q_tb (PP 51) 206 = some (.iload_n 2, 1, []) := rfl
theorem t51_207 : q_tb (PP 51) 207 = some (.iadd, 1, []) := rfl
theorem t51_208 : q_tb (PP 51) 208 = some (.iaload, 1, []) := rfl
theorem t51_209 : q_tb (PP 51) 209 = some (.if_icmp .ne 7, 3, []) := rfl
theorem t51_212 : q_tb (PP 51) 212 = some (.iconst 1, 1, []) := rfl
theorem t51_213 : q_tb (PP 51) 213 = some (.goto 4, 3, []) := rfl
theorem t51_216 : q_tb (PP 51) 216 = some (.iconst 0, 1, [6, 7, 8]) := rfl
theorem t51_217 : q_tb (PP 51) 217 = some (.istore 6, 2, [6, 7, 8]) := rfl
theorem t51_219 : q_tb (PP 51) 219 = some (.iload 5, 2, []) := rfl
theorem t51_221 : q_tb (PP 51) 221 = some (.iload 6, 2, []) := rfl
theorem t51_223 : q_tb (PP 51) 223 = some (.ifCond .eq 7, 3, []) := rfl
theorem t51_226 : q_tb (PP 51) 226 = some (.iconst 0, 1, []) := rfl
theorem t51_227 : q_tb (PP 51) 227 = some (.goto 4, 3, []) := rfl
theorem t51_230 : q_tb (PP 51) 230 = some (.iconst 1, 1, []) := rfl
theorem t51_231 : q_tb (PP 51) 231 = some (.iadd, 1, [5, 7, 8]) := rfl
theorem t51_232 : q_tb (PP 51) 232 = some (.istore 5, 2, []) := rfl
theorem t51_234 : q_tb (PP 51) 234 = some (.goto (-102), 3, []) := rfl
theorem t51_237 : q_tb (PP 51) 237 = some (.aload_n 0, 1, []) := rfl
theorem t51_238 : q_tb (PP 51) 238 = some (.iload_n 2, 1, []) := rfl
theorem t51_239 : q_tb (PP 51) 239 = some (.iload 5, 2, []) := rfl
theorem t51_241 : q_tb (PP 51) 241 = some (.invokevirtual 140, 3, []) := rfl
theorem t51_244 : q_tb (PP 51) 244 = some (.istore 7, 2, []) := rfl
theorem t51_246 : q_tb (PP 51) 246 = some (.iconst 0, 1, []) := rfl
theorem t51_247 : q_tb (PP 51) 247 = some (.istore 8, 2, []) := rfl
theorem t51_249 : q_tb (PP 51) 249 = some (.iload 8, 2, [2, 6]) := rfl
theorem t51_251 : q_tb (PP 51) 251 = some (.aload_n 0, 1, []) := rfl
theorem t51_252 : q_tb (PP 51) 252 = some (.getfield 82, 3, []) := rfl
theorem t51_255 : q_tb (PP 51) 255 = some (.if_icmp .ge 40, 3, []) := rfl
theorem t51_258 : q_tb (PP 51) 258 = some (.aload_n 0, 1, []) := rfl
theorem t51_259 : q_tb (PP 51) 259 = some (.getfield 43, 3, []) := rfl
theorem t51_262 : q_tb (PP 51) 262 = some (.bipush 8, 2, []) := rfl
theorem t51_264 : q_tb (PP 51) 264 = some (.iload 8, 2, []) := rfl
theorem t51_266 : q_tb (PP 51) 266 = some (.imul, 1, []) := rfl
theorem t51_267 : q_tb (PP 51) 267 = some (.iload 4, 2, []) := rfl
theorem t51_269 : q_tb (PP 51) 269 = some (.iadd, 1, []) := rfl
theorem t51_270 : q_tb (PP 51) 270 = some (.aload_n 0, 1, []) := rfl
theorem t51_271 : q_tb (PP 51) 271 = some (.iload 8, 2, []) := rfl
theorem t51_273 : q_tb (PP 51) 273 = some (.aload_n 0, 1, []) := rfl
theorem t51_274 : q_tb (PP 51) 274 = some (.getfield 73, 3, []) := rfl
theorem t51_277 : q_tb (PP 51) 277 = some (.iconst 3, 1, []) := rfl
theorem t51_278 : q_tb (PP 51) 278 = some (.iload 5, 2, []) := rfl
theorem t51_280 : q_tb (PP 51) 280 = some (.imul, 1, []) := rfl
theorem t51_281 : q_tb (PP 51) 281 = some (.iload 8, 2, []) := rfl
theorem t51_283 : q_tb (PP 51) 283 = some (.iadd, 1, []) := rfl
theorem t51_284 : q_tb (PP 51) 284 = some (.iaload, 1, []) := rfl
theorem t51_285 : q_tb (PP 51) 285 = some (.invokevirtual 152, 3, []) := rfl
theorem t51_288 : q_tb (PP 51) 288 = some (.iastore, 1, []) := rfl
theorem t51_289 : q_tb (PP 51) 289 = some (.iinc 8 1, 3, []) := rfl
theorem t51_292 : q_tb (PP 51) 292 = some (.goto (-43), 3, []) := rfl
theorem t51_295 : q_tb (PP 51) 295 = some (.iload 7, 2, []) := rfl
theorem t51_297 : q_tb (PP 51) 297 = some (.istore_n 2, 1, []) := rfl
theorem t51_298 : q_tb (PP 51) 298 = some (.iinc 4 1, 3, []) := rfl
theorem t51_301 : q_tb (PP 51) 301 = some (.goto (-191), 3, []) := rfl
theorem t51_304 : q_tb (PP 51) 304 = some (.iload_n 3, 1, []) := rfl
theorem t51_305 : q_tb (PP 51) 305 = some (.ireturn, 1, []) := rfl
theorem t52_0 : q_tb (PP 52) 0 = some (.aload_n 0, 1, []) := rfl
theorem t52_1 : q_tb (PP 52) 1 = some (.iconst 0, 1, []) := rfl
theorem t52_2 : q_tb (PP 52) 2 = some (.putfield 79, 3, []) := rfl
theorem t52_5 : q_tb (PP 52) 5 = some (.aload_n 0, 1, []) := rfl
theorem t52_6 : q_tb (PP 52) 6 = some (.iconst 0, 1, []) := rfl
theorem t52_7 : q_tb (PP 52) 7 = some (.invokevirtual 155, 3, []) := rfl
theorem t52_10 : q_tb (PP 52) 10 = some (.ireturn, 1, []) := rfl
theorem t53_0 : q_tb (PP 53) 0 = some (.aload_n 0, 1, []) := rfl
theorem t53_1 : q_tb (PP 53) 1 = some (.iconst 0, 1, []) := rfl
theorem t53_2 : q_tb (PP 53) 2 = some (.putfield 79, 3, []) := rfl
theorem t53_5 : q_tb (PP 53) 5 = some (.aload_n 0, 1, []) := rfl
theorem t53_6 : q_tb (PP 53) 6 = some (.iconst 1, 1, []) := rfl
theorem t53_7 : q_tb (PP 53) 7 = some (.invokevirtual 155, 3, []) := rfl
theorem t53_10 : q_tb (PP 53) 10 = some (.ireturn, 1, []) := rfl
theorem t54_0 : q_tb (PP 54) 0 = some (.aload_n 0, 1, []) := rfl
theorem t54_1 : q_tb (PP 54) 1 = some (.iload_n 1, 1, []) := rfl
theorem t54_2 : q_tb (PP 54) 2 = some (.invokevirtual 104, 3, []) := rfl
theorem t54_5 : q_tb (PP 54) 5 = some (.ifCond .eq 11, 3, []) := rfl
theorem t54_8 : q_tb (PP 54) 8 = some (.aload_n 0, 1, []) := rfl
theorem t54_9 : q_tb (PP 54) 9 = some (.iload_n 2, 1, []) := rfl
theorem t54_10 : q_tb (PP 54) 10 = some (.invokevirtual 111, 3, []) := rfl
theorem t54_13 : q_tb (PP 54) 13 = some (.ifCond .ne 9, 3, []) := rfl
theorem t54_16 : q_tb (PP 54) 16 = some (.aload_n 0, 1, [1, 2]) := rfl
theorem t54_17 : q_tb (PP 54) 17 = some (.iconst 1, 1, []) := rfl
theorem t54_18 : q_tb (PP 54) 18 = some (.invokevirtual 97, 3, []) := rfl
theorem t54_21 : q_tb (PP 54) 21 = some (.ireturn, 1, []) := rfl
theorem t54_22 : q_tb (PP 54) 22 = some (.aload_n 0, 1, []) := rfl
theorem t54_23 : q_tb (PP 54) 23 = some (.iconst 0, 1, []) := rfl
theorem t54_24 : q_tb (PP 54) 24 = some (.putfield 79, 3, []) := rfl
theorem t54_27 : q_tb (PP 54) 27 = some (.aload_n 0, 1, []) := rfl
theorem t54_28 : q_tb (PP 54) 28 = some (.getfield 43, 3, []) := rfl
theorem t54_31 : q_tb (PP 54) 31 = some (.bipush 8, 2, []) := rfl
theorem t54_33 : q_tb (PP 54) 33 = some (.iload_n 1, 1, []) := rfl
theorem t54_34 : q_tb (PP 54) 34 = some (.imul, 1, []) := rfl
theorem t54_35 : q_tb (PP 54) 35 = some (.iload_n 2, 1, []) := rfl
theorem t54_36 : q_tb (PP 54) 36 = some (.iadd, 1, []) := rfl
theorem t54_37 : q_tb (PP 54) 37 = some (.iaload, 1, []) := rfl
theorem t54_38 : q_tb (PP 54) 38 = some (.ireturn, 1, []) := rfl
theorem t55_0 : q_tb (PP 55) 0 = some (.aload_n 0, 1, []) := rfl
theorem t55_1 : q_tb (PP 55) 1 = some (.iconst 0, 1, []) := rfl
theorem t55_2 : q_tb (PP 55) 2 = some (.putfield 79, 3, []) := rfl
theorem t55_5 : q_tb (PP 55) 5 = some (.aload_n 0, 1, []) := rfl
theorem t55_6 : q_tb (PP 55) 6 = some (.iload_n 1, 1, []) := rfl
theorem t55_7 : q_tb (PP 55) 7 = some (.invokevirtual 104, 3, []) := rfl
theorem t55_10 : q_tb (PP 55) 10 = some (.ifCond .eq 21, 3, []) := rfl
theorem t55_13 : q_tb (PP 55) 13 = some (.aload_n 0, 1, []) := rfl
theorem t55_14 : q_tb (PP 55) 14 = some (.iload_n 2, 1, []) := rfl
theorem t55_15 : q_tb (PP 55) 15 = some (.invokevirtual 111, 3, []) := rfl
theorem t55_18 : q_tb (PP 55) 18 = some (.ifCond .eq 13, 3, []) := rfl
theorem t55_21 : q_tb (PP 55) 21 = some (.iload_n 3, 1, []) := rfl
theorem t55_22 : q_tb (PP 55) 22 = some (.iconst 0, 1, []) := rfl
theorem t55_23 : q_tb (PP 55) 23 = some (.bipush 63, 2, []) := rfl
theorem t55_25 : q_tb (PP 55) 25 = some (.invokestatic 93, 3, []) := rfl
theorem t55_28 : q_tb (PP 55) 28 = some (.ifCond .ne 5, 3, []) := rfl
theorem t55_31 : q_tb (PP 55) 31 = some (.iconst 0, 1, [0, 1, 2, 3]) := rfl
theorem t55_32 : q_tb (PP 55) 32 = some (.ireturn, 1, []) := rfl
theorem t55_33 : q_tb (PP 55) 33 = some (.aload_n 0, 1, []) := rfl
theorem t55_34 : q_tb (PP 55) 34 = some (.getfield 43, 3, []) := rfl
theorem t55_37 : q_tb (PP 55) 37 = some (.bipush 8, 2, []) := rfl
theorem t55_39 : q_tb (PP 55) 39 = some (.iload_n 1, 1, []) := rfl
theorem t55_40 : q_tb (PP 55) 40 = some (.imul, 1, []) := rfl
theorem t55_41 : q_tb (PP 55) 41 = some (.iload_n 2, 1, []) := rfl
theorem t55_42 : q_tb (PP 55) 42 = some (.iadd, 1, []) := rfl
theorem t55_43 : q_tb (PP 55) 43 = some (.iload_n 3, 1, []) := rfl
theorem t55_44 : q_tb (PP 55) 44 = some (.iastore, 1, []) := rfl
theorem t55_45 : q_tb (PP 55) 45 = some (.iconst 1, 1, []) := rfl
theorem t55_46 : q_tb (PP 55) 46 = some (.ireturn, 1, []) := rfl
theorem t56_0 : q_tb (PP 56) 0 = some (.iload_n 2, 1, []) := rfl
theorem t56_1 : q_tb (PP 56) 1 = some (.ifCond .ne 12, 3, []) := rfl
theorem t56_4 : q_tb (PP 56) 4 = some (.aload_n 0, 1, []) := rfl
theorem t56_5 : q_tb (PP 56) 5 = some (.getfield 31, 3, []) := rfl
theorem t56_8 : q_tb (PP 56) 8 = some (.iload_n 1, 1, []) := rfl
theorem t56_9 : q_tb (PP 56) 9 = some (.iaload, 1, []) := rfl
theorem t56_10 : q_tb (PP 56) 10 = some (.goto 16, 3, []) := rfl
theorem t56_13 : q_tb (PP 56) 13 = some (.aload_n 0, 1, []) := rfl
theorem t56_14 : q_tb (PP 56) 14 = some (.getfield 43, 3, []) := rfl
theorem t56_17 : q_tb (PP 56) 17 = some (.bipush 8, 2, []) := rfl
theorem t56_19 : q_tb (PP 56) 19 = some (.iload_n 1, 1, []) := rfl
theorem t56_20 : q_tb (PP 56) 20 = some (.imul, 1, []) := rfl
theorem t56_21 : q_tb (PP 56) 21 = some (.iload_n 2, 1, []) := rfl
theorem t56_22 : q_tb (PP 56) 22 = some (.iadd, 1, []) := rfl
theorem t56_23 : q_tb (PP 56) 23 = some (.iconst 1, 1, []) := rfl
theorem t56_24 : q_tb (PP 56) 24 = some (.isub, 1, []) := rfl
theorem t56_25 : q_tb (PP 56) 25 = some (.iaload, 1, []) := rfl
theorem t56_26 : q_tb (PP 56) 26 = some (.ireturn, 1, [0, 1, 2]) := rfl
theorem t57_0 : q_tb (PP 57) 0 = some (.aload_n 0, 1, []) := rfl
theorem t57_1 : q_tb (PP 57) 1 = some (.iload_n 1, 1, []) := rfl
theorem t57_2 : q_tb (PP 57) 2 = some (.iload_n 2, 1, []) := rfl
theorem t57_3 : q_tb (PP 57) 3 = some (.invokevirtual 159, 3, []) := rfl
theorem t57_6 : q_tb (PP 57) 6 = some (.ifCond .eq 7, 3, []) := rfl
theorem t57_9 : q_tb (PP 57) 9 = some (.iconst 1, 1, []) := rfl
theorem t57_10 : q_tb (PP 57) 10 = some (.goto 4, 3, []) := rfl
theorem t57_13 : q_tb (PP 57) 13 = some (.iconst 0, 1, []) := rfl
theorem t57_14 : q_tb (PP 57) 14 = some (.istore_n 3, 1, []) := rfl
theorem t57_15 : q_tb (PP 57) 15 = some (.iconst 0, 1, []) := rfl
theorem t57_16 : q_tb (PP 57) 16 = some (.istore 4, 2, []) := rfl
theorem t57_18 : q_tb (PP 57) 18 = some (.iload 4, 2, []) := rfl
theorem t57_20 : q_tb (PP 57) 20 = some (.iload_n 2, 1, []) := rfl
theorem t57_21 : q_tb (PP 57) 21 = some (.if_icmp .ge 37, 3, []) := rfl
theorem t57_24 : q_tb (PP 57) 24 = some (.aload_n 0, 1, []) := rfl
theorem t57_25 : q_tb (PP 57) 25 = some (.getfield 43, 3, []) := rfl
theorem t57_28 : q_tb (PP 57) 28 = some (.bipush 8, 2, []) := rfl
theorem t57_30 : q_tb (PP 57) 30 = some (.iload_n 1, 1, []) := rfl
theorem t57_31 : q_tb (PP 57) 31 = some (.imul, 1, []) := rfl
theorem t57_32 : q_tb (PP 57) 32 = some (.iload_n 2, 1, []) := rfl
theorem t57_33 : q_tb (PP 57) 33 = some (.iadd, 1, []) := rfl
theorem t57_34 : q_tb (PP 57) 34 = some (.iconst 1, 1, []) := rfl
theorem t57_35 : q_tb (PP 57) 35 = some (.isub, 1, []) := rfl
theorem t57_36 : q_tb (PP 57) 36 = some (.iload 4, 2, []) := rfl
theorem t57_38 : q_tb (PP 57) 38 = some (.isub, 1, []) := rfl
theorem t57_39 : q_tb (PP 57) 39 = some (.iaload, 1, []) := rfl
theorem t57_40 : q_tb (PP 57) 40 = some (.ifCond .eq 7, 3, []) := rfl
theorem t57_43 : q_tb (PP 57) 43 = some (.iconst 1, 1, []) := rfl
theorem t57_44 : q_tb (PP 57) 44 = some (.goto 4, 3, []) := rfl
theorem t57_47 : q_tb (PP 57) 47 = some (.iconst 0, 1, []) := rfl
theorem t57_48 : q_tb (PP 57) 48 = some (.iload_n 3, 1, []) := rfl
theorem t57_49 : q_tb (PP 57) 49 = some (.if_icmp .ne 9, 3, []) := rfl
theorem t57_52 : q_tb (PP 57) 52 = some (.iinc 4 1, 3, []) := rfl
theorem t57_55 : q_tb (PP 57) 55 = some (.goto (-37), 3, []) := rfl
theorem t57_58 : q_tb (PP 57) 58 = some (.iload 4, 2, []) := rfl
theorem t57_60 : q_tb (PP 57) 60 = some (.iload_n 2, 1, []) := rfl
theorem t57_61 : q_tb (PP 57) 61 = some (.if_icmp .lt 21, 3, []) := rfl
theorem t57_64 : q_tb (PP 57) 64 = some (.aload_n 0, 1, []) := rfl
theorem t57_65 : q_tb (PP 57) 65 = some (.getfield 31, 3, []) := rfl
theorem t57_68 : q_tb (PP 57) 68 = some (.iload_n 1, 1, []) := rfl
theorem t57_69 : q_tb (PP 57) 69 = some (.iaload, 1, []) := rfl
theorem t57_70 : q_tb (PP 57) 70 = some (.ifCond .eq 7, 3, []) := rfl
theorem t57_73 : q_tb (PP 57) 73 = some (.iconst 1, 1, []) := rfl
theorem t57_74 : q_tb (PP 57) 74 = some (.goto 4, 3, []) := rfl
theorem t57_77 : q_tb (PP 57) 77 = some (.iconst 0, 1, []) := rfl
theorem t57_78 : q_tb (PP 57) 78 = some (.iload_n 3, 1, [2]) := rfl
theorem t57_79 : q_tb (PP 57) 79 = some (.if_icmp .eq 8, 3, []) := rfl
theorem t57_82 : q_tb (PP 57) 82 = some (.iload 4, 2, [0, 1, 2, 3]) := rfl
theorem t57_84 : q_tb (PP 57) 84 = some (.goto 12, 3, []) := rfl
theorem t57_87 : q_tb (PP 57) 87 = some (.iload 4, 2, []) := rfl
theorem t57_89 : q_tb (PP 57) 89 = some (.aload_n 0, 1, []) := rfl
theorem t57_90 : q_tb (PP 57) 90 = some (.getfield 34, 3, []) := rfl
theorem t57_93 : q_tb (PP 57) 93 = some (.iload_n 1, 1, []) := rfl
theorem t57_94 : q_tb (PP 57) 94 = some (.iaload, 1, []) := rfl
theorem t57_95 : q_tb (PP 57) 95 = some (.iadd, 1, []) := rfl
theorem t57_96 : q_tb (PP 57) 96 = some (.ireturn, 1, [0, 1, 2, 3, 4]) := rfl
theorem t58_0 : q_tb (PP 58) 0 = some (.aload_n 0, 1, []) := rfl
theorem t58_1 : q_tb (PP 58) 1 = some (.getfield 43, 3, []) := rfl
theorem t58_4 : q_tb (PP 58) 4 = some (.bipush 8, 2, []) := rfl
theorem t58_6 : q_tb (PP 58) 6 = some (.iload_n 1, 1, []) := rfl
theorem t58_7 : q_tb (PP 58) 7 = some (.imul, 1, []) := rfl
theorem t58_8 : q_tb (PP 58) 8 = some (.iload_n 2, 1, []) := rfl
theorem t58_9 : q_tb (PP 58) 9 = some (.iadd, 1, []) := rfl
theorem t58_10 : q_tb (PP 58) 10 = some (.iaload, 1, []) := rfl
theorem t58_11 : q_tb (PP 58) 11 = some (.istore_n 3, 1, []) := rfl
theorem t58_12 : q_tb (PP 58) 12 = some (.aload_n 0, 1, []) := rfl
theorem t58_13 : q_tb (PP 58) 13 = some (.iload_n 1, 1, []) := rfl
theorem t58_14 : q_tb (PP 58) 14 = some (.iload_n 2, 1, []) := rfl
theorem t58_15 : q_tb (PP 58) 15 = some (.invokevirtual 159, 3, []) := rfl
theorem t58_18 : q_tb (PP 58) 18 = some (.istore 4, 2, []) := rfl
theorem t58_20 : q_tb (PP 58) 20 = some (.iload_n 3, 1, []) := rfl
theorem t58_21 : q_tb (PP 58) 21 = some (.ifCond .eq 24, 3, []) := rfl
theorem t58_24 : q_tb (PP 58) 24 = some (.iload_n 3, 1, []) := rfl
theorem t58_25 : q_tb (PP 58) 25 = some (.aload_n 0, 1, []) := rfl
theorem t58_26 : q_tb (PP 58) 26 = some (.getfield 7, 3, []) := rfl
theorem t58_29 : q_tb (PP 58) 29 = some (.iload_n 1, 1, []) := rfl
theorem t58_30 : q_tb (PP 58) 30 = some (.iaload, 1, []) := rfl
theorem t58_31 : q_tb (PP 58) 31 = some (.aload_n 0, 1, []) := rfl
theorem t58_32 : q_tb (PP 58) 32 = some (.getfield 13, 3, []) := rfl
theorem t58_35 : q_tb (PP 58) 35 = some (.iload_n 1, 1, []) := rfl
theorem t58_36 : q_tb (PP 58) 36 = some (.iaload, 1, []) := rfl
theorem t58_37 : q_tb (PP 58) 37 = some (.invokestatic 93, 3, []) := rfl
theorem t58_40 : q_tb (PP 58) 40 = some (.ifCond .ne 5, 3, []) := rfl
theorem t58_43 : q_tb (PP 58) 43 = some (.iconst 1, 1, []) := rfl
theorem t58_44 : q_tb (PP 58) 44 = some (.ireturn, 1, []) := rfl
theorem t58_45 : q_tb (PP 58) 45 = some (.iload_n 3, 1, []) := rfl
theorem t58_46 : q_tb (PP 58) 46 = some (.ifCond .ne 30, 3, []) := rfl
theorem t58_49 : q_tb (PP 58) 49 = some (.iload 4, 2, []) := rfl
theorem t58_51 : q_tb (PP 58) 51 = some (.ifCond .eq 22, 3, []) := rfl
theorem t58_54 : q_tb (PP 58) 54 = some (.aload_n 0, 1, []) := rfl
theorem t58_55 : q_tb (PP 58) 55 = some (.iload_n 1, 1, []) := rfl
theorem t58_56 : q_tb (PP 58) 56 = some (.iload_n 2, 1, []) := rfl
theorem t58_57 : q_tb (PP 58) 57 = some (.invokevirtual 162, 3, []) := rfl
theorem t58_60 : q_tb (PP 58) 60 = some (.aload_n 0, 1, []) := rfl
theorem t58_61 : q_tb (PP 58) 61 = some (.getfield 16, 3, []) := rfl
theorem t58_64 : q_tb (PP 58) 64 = some (.iload_n 1, 1, []) := rfl
theorem t58_65 : q_tb (PP 58) 65 = some (.iaload, 1, []) := rfl
theorem t58_66 : q_tb (PP 58) 66 = some (.if_icmp .ge 7, 3, []) := rfl
theorem t58_69 : q_tb (PP 58) 69 = some (.iconst 4, 1, []) := rfl
theorem t58_70 : q_tb (PP 58) 70 = some (.goto 5, 3, []) := rfl
theorem t58_73 : q_tb (PP 58) 73 = some (.bipush 9, 2, [0, 1, 2, 3, 4]) := rfl
theorem t58_75 : q_tb (PP 58) 75 = some (.ireturn, 1, [0, 1, 2, 3, 4]) := rfl
theorem t58_76 : q_tb (PP 58) 76 = some (.iload 4, 2, []) := rfl
theorem t58_78 : q_tb (PP 58) 78 = some (.ifCond .ne 47, 3, []) := rfl
theorem t58_81 : q_tb (PP 58) 81 = some (.aload_n 0, 1, []) := rfl
theorem t58_82 : q_tb (PP 58) 82 = some (.iload_n 1, 1, []) := rfl
theorem t58_83 : q_tb (PP 58) 83 = some (.iload_n 2, 1, []) := rfl
theorem t58_84 : q_tb (PP 58) 84 = some (.invokevirtual 162, 3, []) := rfl
theorem t58_87 : q_tb (PP 58) 87 = some (.aload_n 0, 1, []) := rfl
theorem t58_88 : q_tb (PP 58) 88 = some (.getfield 19, 3, []) := rfl
theorem t58_91 : q_tb (PP 58) 91 = some (.iload_n 1, 1, []) := rfl
theorem t58_92 : q_tb (PP 58) 92 = some (.iaload, 1, []) := rfl
theorem t58_93 : q_tb (PP 58) 93 = some (.if_icmp .ge 7, 3, []) := rfl
theorem t58_96 : q_tb (PP 58) 96 = some (.iconst 5, 1, []) := rfl
theorem t58_97 : q_tb (PP 58) 97 = some (.goto 27, 3, []) := rfl
theorem t58_100 : q_tb (PP 58) 100 = some (.iload_n 3, 1, []) := rfl
theorem t58_101 : q_tb (PP 58) 101 = some (.aload_n 0, 1, []) := rfl
theorem t58_102 : q_tb (PP 58) 102 = some (.getfield 7, 3, []) := rfl
theorem t58_105 : q_tb (PP 58) 105 = some (.iload_n 1, 1, []) := rfl
theorem t58_106 : q_tb (PP 58) 106 = some (.iaload, 1, []) := rfl
theorem t58_107 : q_tb (PP 58) 107 = some (.aload_n 0, 1, []) := rfl
theorem t58_108 : q_tb (PP 58) 108 = some (.getfield 22, 3, []) := rfl
theorem t58_111 : q_tb (PP 58) 111 = some (.iload_n 1, 1, []) := rfl
theorem t58_112 : q_tb (PP 58) 112 = some (.iaload, 1, []) := rfl
theorem t58_113 : q_tb (PP 58) 113 = some (.iadd, 1, []) := rfl
theorem t58_114 : q_tb (PP 58) 114 = some (.if_icmp .le 8, 3, []) := rfl
theorem t58_117 : q_tb (PP 58) 117 = some (.bipush 7, 2, []) := rfl
theorem t58_119 : q_tb (PP 58) 119 = some (.goto 5, 3, []) := rfl
theorem t58_122 : q_tb (PP 58) 122 = some (.bipush 9, 2, []) := rfl
theorem t58_124 : q_tb (PP 58) 124 = some (.ireturn, 1, [0, 1, 2, 3, 4]) := rfl
theorem t58_125 : q_tb (PP 58) 125 = some (.iload_n 3, 1, []) := rfl
theorem t58_126 : q_tb (PP 58) 126 = some (.iload 4, 2, []) := rfl
theorem t58_128 : q_tb (PP 58) 128 = some (.isub, 1, []) := rfl
theorem t58_129 : q_tb (PP 58) 129 = some (.aload_n 0, 1, []) := rfl
theorem t58_130 : q_tb (PP 58) 130 = some (.getfield 22, 3, []) := rfl
theorem t58_133 : q_tb (PP 58) 133 = some (.iload_n 1, 1, []) := rfl
theorem t58_134 : q_tb (PP 58) 134 = some (.iaload, 1, []) := rfl
theorem t58_135 : q_tb (PP 58) 135 = some (.if_icmp .gt 16, 3, []) := rfl
theorem t58_138 : q_tb (PP 58) 138 = some (.iload 4, 2, []) := rfl
theorem t58_140 : q_tb (PP 58) 140 = some (.iload_n 3, 1, []) := rfl
theorem t58_141 : q_tb (PP 58) 141 = some (.isub, 1, []) := rfl
theorem t58_142 : q_tb (PP 58) 142 = some (.aload_n 0, 1, []) := rfl
theorem t58_143 : q_tb (PP 58) 143 = some (.getfield 22, 3, []) := rfl
theorem t58_146 : q_tb (PP 58) 146 = some (.iload_n 1, 1, []) := rfl
theorem t58_147 : q_tb (PP 58) 147 = some (.iaload, 1, []) := rfl
theorem t58_148 : q_tb (PP 58) 148 = some (.if_icmp .le 8, 3, []) := rfl
theorem t58_151 : q_tb (PP 58) 151 = some (.bipush 6, 2, [0, 1, 2, 3, 4]) := rfl
theorem t58_153 : q_tb (PP 58) 153 = some (.goto 5, 3, []) := rfl
theorem t58_156 : q_tb (PP 58) 156 = some (.bipush 9, 2, []) := rfl
theorem t58_158 : q_tb (PP 58) 158 = some (.ireturn, 1, [0, 1, 2, 3, 4]) := rfl
theorem t59_0 : q_tb (PP 59) 0 = some (.aload_n 0, 1, []) := rfl
theorem t59_1 : q_tb (PP 59) 1 = some (.iconst 0, 1, []) := rfl
theorem t59_2 : q_tb (PP 59) 2 = some (.putfield 79, 3, []) := rfl
theorem t59_5 : q_tb (PP 59) 5 = some (.iconst 0, 1, []) := rfl
theorem t59_6 : q_tb (PP 59) 6 = some (.istore_n 1, 1, []) := rfl
theorem t59_7 : q_tb (PP 59) 7 = some (.iload_n 1, 1, [2, 3, 4, 5, 6]) := rfl
theorem t59_8 : q_tb (PP 59) 8 = some (.aload_n 0, 1, []) := rfl
theorem t59_9 : q_tb (PP 59) 9 = some (.getfield 76, 3, []) := rfl
theorem t59_12 : q_tb (PP 59) 12 = some (.if_icmp .ge 164, 3, []) := rfl
theorem t59_15 : q_tb (PP 59) 15 = some (.bipush 9, 2, []) := rfl
theorem t59_17 : q_tb (PP 59) 17 = some (.istore_n 2, 1, []) := rfl
theorem t59_18 : q_tb (PP 59) 18 = some (.iconst 0, 1, []) := rfl
theorem t59_19 : q_tb (PP 59) 19 = some (.istore_n 3, 1, []) := rfl
theorem t59_20 : q_tb (PP 59) 20 = some (.iconst 0, 1, []) := rfl
theorem t59_21 : q_tb (PP 59) 21 = some (.istore 4, 2, []) := rfl
theorem t59_23 : q_tb (PP 59) 23 = some (.iconst 0, 1, []) := rfl
theorem t59_24 : q_tb (PP 59) 24 = some (.istore 5, 2, []) := rfl
theorem t59_26 : q_tb (PP 59) 26 = some (.iload 5, 2, [6]) := rfl
theorem t59_28 : q_tb (PP 59) 28 = some (.aload_n 0, 1, []) := rfl
theorem t59_29 : q_tb (PP 59) 29 = some (.getfield 82, 3, []) := rfl
theorem t59_32 : q_tb (PP 59) 32 = some (.if_icmp .ge 72, 3, []) := rfl
theorem t59_35 : q_tb (PP 59) 35 = some (.aload_n 0, 1, []) := rfl
theorem t59_36 : q_tb (PP 59) 36 = some (.iload 5, 2, []) := rfl
theorem t59_38 : q_tb (PP 59) 38 = some (.iload_n 1, 1, []) := rfl
theorem t59_39 : q_tb (PP 59) 39 = some (.invokevirtual 165, 3, []) := rfl
theorem t59_42 : q_tb (PP 59) 42 = some (.istore 6, 2, []) := rfl
theorem t59_44 : q_tb (PP 59) 44 = some (.iload 6, 2, []) := rfl
theorem t59_46 : q_tb (PP 59) 46 = some (.iload_n 2, 1, []) := rfl
theorem t59_47 : q_tb (PP 59) 47 = some (.if_icmp .ge 8, 3, []) := rfl
theorem t59_50 : q_tb (PP 59) 50 = some (.iload 6, 2, []) := rfl
theorem t59_52 : q_tb (PP 59) 52 = some (.goto 4, 3, []) := rfl
theorem t59_55 : q_tb (PP 59) 55 = some (.iload_n 2, 1, []) := rfl
theorem t59_56 : q_tb (PP 59) 56 = some (.istore_n 2, 1, [2, 6]) := rfl
theorem t59_57 : q_tb (PP 59) 57 = some (.iload_n 3, 1, []) := rfl
theorem t59_58 : q_tb (PP 59) 58 = some (.aload_n 0, 1, []) := rfl
theorem t59_59 : q_tb (PP 59) 59 = some (.getfield 43, 3, []) := rfl
theorem t59_62 : q_tb (PP 59) 62 = some (.bipush 8, 2, []) := rfl
theorem t59_64 : q_tb (PP 59) 64 = some (.iload 5, 2, []) := rfl
theorem t59_66 : q_tb (PP 59) 66 = some (.imul, 1, []) := rfl
theorem t59_67 : q_tb (PP 59) 67 = some (.iload_n 1, 1, []) := rfl
theorem t59_68 : q_tb (PP 59) 68 = some (.iadd, 1, []) := rfl
theorem t59_69 : q_tb (PP 59) 69 = some (.iaload, 1, []) := rfl
theorem t59_70 : q_tb (PP 59) 70 = some (.iadd, 1, []) := rfl
theorem t59_71 : q_tb (PP 59) 71 = some (.istore_n 3, 1, []) := rfl
theorem t59_72 : q_tb (PP 59) 72 = some (.iload 4, 2, []) := rfl
theorem t59_74 : q_tb (PP 59) 74 = some (.aload_n 0, 1, []) := rfl
theorem t59_75 : q_tb (PP 59) 75 = some (.iload 5, 2, []) := rfl
theorem t59_77 : q_tb (PP 59) 77 = some (.iload_n 1, 1, []) := rfl
theorem t59_78 : q_tb (PP 59) 78 = some (.invokevirtual 120, 3, []) := rfl
theorem t59_81 : q_tb (PP 59) 81 = some (.ifCond .eq 13, 3, []) := rfl
theorem t59_84 : q_tb (PP 59) 84 = some (.aload_n 0, 1, []) := rfl
theorem t59_85 : q_tb (PP 59) 85 = some (.getfield 13, 3, []) := rfl
theorem t59_88 : q_tb (PP 59) 88 = some (.iload 5, 2, []) := rfl
theorem t59_90 : q_tb (PP 59) 90 = some (.iaload, 1, []) := rfl
theorem t59_91 : q_tb (PP 59) 91 = some (.goto 4, 3, []) := rfl
theorem t59_94 : q_tb (PP 59) 94 = some (.iconst 0, 1, []) := rfl
theorem t59_95 : q_tb (PP 59) 95 = some (.iadd, 1, [4, 6]) := rfl
theorem t59_96 : q_tb (PP 59) 96 = some (.istore 4, 2, []) := rfl
theorem t59_98 : q_tb (PP 59) 98 = some (.iinc 5 1, 3, []) := rfl
theorem t59_101 : q_tb (PP 59) 101 = some (.goto (-75), 3, []) := rfl
theorem t59_104 : q_tb (PP 59) 104 = some (.iload_n 2, 1, []) := rfl
theorem t59_105 : q_tb (PP 59) 105 = some (.iconst 3, 1, []) := rfl
theorem t59_106 : q_tb (PP 59) 106 = some (.if_icmp .le 25, 3, []) := rfl
theorem t59_109 : q_tb (PP 59) 109 = some (.iload 4, 2, []) := rfl
theorem t59_111 : q_tb (PP 59) 111 = some (.aload_n 0, 1, []) := rfl
theorem t59_112 : q_tb (PP 59) 112 = some (.getfield 37, 3, []) := rfl
theorem t59_115 : q_tb (PP 59) 115 = some (.iload_n 1, 1, []) := rfl
theorem t59_116 : q_tb (PP 59) 116 = some (.iaload, 1, []) := rfl
theorem t59_117 : q_tb (PP 59) 117 = some (.isub, 1, []) := rfl
theorem t59_118 : q_tb (PP 59) 118 = some (.aload_n 0, 1, []) := rfl
theorem t59_119 : q_tb (PP 59) 119 = some (.getfield 40, 3, []) := rfl
theorem t59_122 : q_tb (PP 59) 122 = some (.iload_n 1, 1, []) := rfl
theorem t59_123 : q_tb (PP 59) 123 = some (.iaload, 1, []) := rfl
theorem t59_124 : q_tb (PP 59) 124 = some (.if_icmp .ge 7, 3, []) := rfl
theorem t59_127 : q_tb (PP 59) 127 = some (.iconst 3, 1, []) := rfl
theorem t59_128 : q_tb (PP 59) 128 = some (.goto 4, 3, []) := rfl
theorem t59_131 : q_tb (PP 59) 131 = some (.iload_n 2, 1, [4, 5, 6]) := rfl
theorem t59_132 : q_tb (PP 59) 132 = some (.istore_n 2, 1, [2, 4, 5, 6]) := rfl
theorem t59_133 : q_tb (PP 59) 133 = some (.iload_n 2, 1, []) := rfl
theorem t59_134 : q_tb (PP 59) 134 = some (.iconst 2, 1, []) := rfl
theorem t59_135 : q_tb (PP 59) 135 = some (.if_icmp .le 17, 3, []) := rfl
theorem t59_138 : q_tb (PP 59) 138 = some (.iload_n 3, 1, []) := rfl
theorem t59_139 : q_tb (PP 59) 139 = some (.aload_n 0, 1, []) := rfl
theorem t59_140 : q_tb (PP 59) 140 = some (.getfield 37, 3, []) := rfl
theorem t59_143 : q_tb (PP 59) 143 = some (.iload_n 1, 1, []) := rfl
theorem t59_144 : q_tb (PP 59) 144 = some (.iaload, 1, []) := rfl
theorem t59_145 : q_tb (PP 59) 145 = some (.if_icmp .eq 7, 3, []) := rfl
theorem t59_148 : q_tb (PP 59) 148 = some (.iconst 2, 1, []) := rfl
theorem t59_149 : q_tb (PP 59) 149 = some (.goto 4, 3, []) := rfl
theorem t59_152 : q_tb (PP 59) 152 = some (.iload_n 2, 1, [3, 4, 5, 6]) := rfl
theorem t59_153 : q_tb (PP 59) 153 = some (.istore_n 2, 1, [2, 3, 4, 5, 6]) := rfl
theorem t59_154 : q_tb (PP 59) 154 = some (.iload_n 2, 1, []) := rfl
theorem t59_155 : q_tb (PP 59) 155 = some (.bipush 9, 2, []) := rfl
theorem t59_157 : q_tb (PP 59) 157 = some (.if_icmp .ge 13, 3, []) := rfl
theorem t59_160 : q_tb (PP 59) 160 = some (.bipush 10, 2, []) := rfl
theorem t59_162 : q_tb (PP 59) 162 = some (.iload_n 1, 1, []) := rfl
theorem t59_163 : q_tb (PP 59) 163 = some (.imul, 1, []) := rfl
theorem t59_164 : q_tb (PP 59) 164 = some (.bipush 10, 2, []) := rfl
theorem t59_166 : q_tb (PP 59) 166 = some (.iadd, 1, []) := rfl
theorem t59_167 : q_tb (PP 59) 167 = some (.iload_n 2, 1, []) := rfl
theorem t59_168 : q_tb (PP 59) 168 = some (.iadd, 1, []) := rfl
theorem t59_169 : q_tb (PP 59) 169 = some (.ireturn, 1, []) := rfl
theorem t59_170 : q_tb (PP 59) 170 = some (.iinc 1 1, 3, []) := rfl
theorem t59_173 : q_tb (PP 59) 173 = some (.goto (-166), 3, []) := rfl
theorem t59_176 : q_tb (PP 59) 176 = some (.iconst 0, 1, []) := rfl
theorem t59_177 : q_tb (PP 59) 177 = some (.ireturn, 1, []) := rfl
theorem t60_0 : q_tb (PP 60) 0 = some (.iload_n 1, 1, []) := rfl
theorem t60_1 : q_tb (PP 60) 1 = some (.iconst 0, 1, []) := rfl
theorem t60_2 : q_tb (PP 60) 2 = some (.iconst 2, 1, []) := rfl
theorem t60_3 : q_tb (PP 60) 3 = some (.invokestatic 93, 3, []) := rfl
theorem t60_6 : q_tb (PP 60) 6 = some (.ifCond .ne 9, 3, []) := rfl
theorem t60_9 : q_tb (PP 60) 9 = some (.aload_n 0, 1, []) := rfl
theorem t60_10 : q_tb (PP 60) 10 = some (.iconst 1, 1, []) := rfl
theorem t60_11 : q_tb (PP 60) 11 = some (.invokevirtual 97, 3, []) := rfl
theorem t60_14 : q_tb (PP 60) 14 = some (.ireturn, 1, []) := rfl
theorem t60_15 : q_tb (PP 60) 15 = some (.aload_n 0, 1, []) := rfl
theorem t60_16 : q_tb (PP 60) 16 = some (.invokevirtual 168, 3, []) := rfl
theorem t60_19 : q_tb (PP 60) 19 = some (.ifCond .eq 9, 3, []) := rfl
theorem t60_22 : q_tb (PP 60) 22 = some (.aload_n 0, 1, []) := rfl
theorem t60_23 : q_tb (PP 60) 23 = some (.iconst 2, 1, []) := rfl
theorem t60_24 : q_tb (PP 60) 24 = some (.invokevirtual 97, 3, []) := rfl
theorem t60_27 : q_tb (PP 60) 27 = some (.ireturn, 1, []) := rfl
theorem t60_28 : q_tb (PP 60) 28 = some (.iconst 0, 1, []) := rfl
theorem t60_29 : q_tb (PP 60) 29 = some (.istore_n 2, 1, []) := rfl
theorem t60_30 : q_tb (PP 60) 30 = some (.iconst 0, 1, []) := rfl
theorem t60_31 : q_tb (PP 60) 31 = some (.istore_n 3, 1, []) := rfl
theorem t60_32 : q_tb (PP 60) 32 = some (.iconst 0, 1, []) := rfl
theorem t60_33 : q_tb (PP 60) 33 = some (.istore 4, 2, []) := rfl
theorem t60_35 : q_tb (PP 60) 35 = some (.iload 4, 2, [5, 6, 7]) := rfl
theorem t60_37 : q_tb (PP 60) 37 = some (.aload_n 0, 1, []) := rfl
theorem t60_38 : q_tb (PP 60) 38 = some (.getfield 82, 3, []) := rfl
theorem t60_41 : q_tb (PP 60) 41 = some (.if_icmp .ge 137, 3, []) := rfl
theorem t60_44 : q_tb (PP 60) 44 = some (.iconst 0, 1, []) := rfl
theorem t60_45 : q_tb (PP 60) 45 = some (.istore 5, 2, []) := rfl
theorem t60_47 : q_tb (PP 60) 47 = some (.iload 5, 2, [6, 7]) := rfl
theorem t60_49 : q_tb (PP 60) 49 = some (.aload_n 0, 1, []) := rfl
theorem t60_50 : q_tb (PP 60) 50 = some (.getfield 76, 3, []) := rfl
theorem t60_53 : q_tb (PP 60) 53 = some (.if_icmp .ge 119, 3, []) := rfl
theorem t60_56 : q_tb (PP 60) 56 = some (.aload_n 0, 1, []) := rfl
theorem t60_57 : q_tb (PP 60) 57 = some (.iload 4, 2, []) := rfl
theorem t60_59 : q_tb (PP 60) 59 = some (.iload 5, 2, []) := rfl
theorem t60_61 : q_tb (PP 60) 61 = some (.invokevirtual 162, 3, []) := rfl
theorem t60_64 : q_tb (PP 60) 64 = some (.istore 6, 2, []) := rfl
theorem t60_66 : q_tb (PP 60) 66 = some (.aload_n 0, 1, []) := rfl
theorem t60_67 : q_tb (PP 60) 67 = some (.iload 4, 2, []) := rfl
theorem t60_69 : q_tb (PP 60) 69 = some (.iload 5, 2, []) := rfl
theorem t60_71 : q_tb (PP 60) 71 = some (.invokevirtual 120, 3, []) := rfl
theorem t60_74 : q_tb (PP 60) 74 = some (.istore 7, 2, []) := rfl
theorem t60_76 : q_tb (PP 60) 76 = some (.iload_n 2, 1, []) := rfl
theorem t60_77 : q_tb (PP 60) 77 = some (.iload 7, 2, []) := rfl
theorem t60_79 : q_tb (PP 60) 79 = some (.ifCond .eq 41, 3, []) := rfl
theorem t60_82 : q_tb (PP 60) 82 = some (.aload_n 0, 1, []) := rfl
theorem t60_83 : q_tb (PP 60) 83 = some (.iload 4, 2, []) := rfl
theorem t60_85 : q_tb (PP 60) 85 = some (.iload 5, 2, []) := rfl
theorem t60_87 : q_tb (PP 60) 87 = some (.invokevirtual 159, 3, []) := rfl
theorem t60_90 : q_tb (PP 60) 90 = some (.ifCond .ne 30, 3, []) := rfl
theorem t60_93 : q_tb (PP 60) 93 = some (.aload_n 0, 1, []) := rfl
theorem t60_94 : q_tb (PP 60) 94 = some (.getfield 28, 3, []) := rfl
theorem t60_97 : q_tb (PP 60) 97 = some (.iconst 3, 1, []) := rfl
theorem t60_98 : q_tb (PP 60) 98 = some (.iload 4, 2, []) := rfl
theorem t60_100 : q_tb (PP 60) 100 = some (.imul, 1, []) := rfl
theorem t60_101 : q_tb (PP 60) 101 = some (.iload 6, 2, []) := rfl
theorem t60_103 : q_tb (PP 60) 103 = some (.iconst 3, 1, []) := rfl
theorem t60_104 : q_tb (PP 60) 104 = some (.if_icmp .le 7, 3, []) := rfl
theorem t60_107 : q_tb (PP 60) 107 = some (.iconst 3, 1, []) := rfl
theorem t60_108 : q_tb (PP 60) 108 = some (.goto 5, 3, []) := rfl
theorem t60_111 : q_tb (PP 60) 111 = some (.iload 6, 2, []) := rfl
theorem t60_113 : q_tb (PP 60) 113 = some (.iadd, 1, [2, 6]) := rfl
theorem t60_114 : q_tb (PP 60) 114 = some (.iconst 1, 1, []) := rfl
theorem t60_115 : q_tb (PP 60) 115 = some (.isub, 1, []) := rfl
theorem t60_116 : q_tb (PP 60) 116 = some (.iaload, 1, []) := rfl
theorem t60_117 : q_tb (PP 60) 117 = some (.goto 4, 3, []) := rfl
theorem t60_120 : q_tb (PP 60) 120 = some (.iconst 0, 1, [2, 6]) := rfl
theorem t60_121 : q_tb (PP 60) 121 = some (.iadd, 1, [2, 6]) := rfl
theorem t60_122 : q_tb (PP 60) 122 = some (.istore_n 2, 1, []) := rfl
theorem t60_123 : q_tb (PP 60) 123 = some (.iload_n 3, 1, []) := rfl
theorem t60_124 : q_tb (PP 60) 124 = some (.iload 7, 2, []) := rfl
theorem t60_126 : q_tb (PP 60) 126 = some (.ifCond .eq 37, 3, []) := rfl
theorem t60_129 : q_tb (PP 60) 129 = some (.aload_n 0, 1, []) := rfl
theorem t60_130 : q_tb (PP 60) 130 = some (.getfield 25, 3, []) := rfl
theorem t60_133 : q_tb (PP 60) 133 = some (.iconst 4, 1, []) := rfl
theorem t60_134 : q_tb (PP 60) 134 = some (.iload 4, 2, []) := rfl
theorem t60_136 : q_tb (PP 60) 136 = some (.imul, 1, []) := rfl
theorem t60_137 : q_tb (PP 60) 137 = some (.aload_n 0, 1, []) := rfl
theorem t60_138 : q_tb (PP 60) 138 = some (.getfield 43, 3, []) := rfl
theorem t60_141 : q_tb (PP 60) 141 = some (.bipush 8, 2, []) := rfl
theorem t60_143 : q_tb (PP 60) 143 = some (.iload 4, 2, []) := rfl
theorem t60_145 : q_tb (PP 60) 145 = some (.imul, 1, []) := rfl
theorem t60_146 : q_tb (PP 60) 146 = some (.iload 5, 2, []) := rfl
theorem t60_148 : q_tb (PP 60) 148 = some (.iadd, 1, []) := rfl
theorem t60_149 : q_tb (PP 60) 149 = some (.iaload, 1, []) := rfl
theorem t60_150 : q_tb (PP 60) 150 = some (.iadd, 1, []) := rfl
theorem t60_151 : q_tb (PP 60) 151 = some (.aload_n 0, 1, []) := rfl
theorem t60_152 : q_tb (PP 60) 152 = some (.getfield 7, 3, []) := rfl
theorem t60_155 : q_tb (PP 60) 155 = some (.iload 4, 2, []) := rfl
theorem t60_157 : q_tb (PP 60) 157 = some (.iaload, 1, []) := rfl
theorem t60_158 : q_tb (PP 60) 158 = some (.isub, 1, []) := rfl
theorem t60_159 : q_tb (PP 60) 159 = some (.iaload, 1, []) := rfl
theorem t60_160 : q_tb (PP 60) 160 = some (.goto 4, 3, []) := rfl
theorem t60_163 : q_tb (PP 60) 163 = some (.iconst 0, 1, []) := rfl
theorem t60_164 : q_tb (PP 60) 164 = some (.iadd, 1, [3, 6, 7]) := rfl
theorem t60_165 : q_tb (PP 60) 165 = some (.istore_n 3, 1, []) := rfl
theorem t60_166 : q_tb (PP 60) 166 = some (.iinc 5 1, 3, []) := rfl
theorem t60_169 : q_tb (PP 60) 169 = some (.goto (-122), 3, []) := rfl
theorem t60_172 : q_tb (PP 60) 172 = some (.iinc 4 1, 3, []) := rfl
theorem t60_175 : q_tb (PP 60) 175 = some (.goto (-140), 3, []) := rfl
theorem t60_178 : q_tb (PP 60) 178 = some (.iload_n 1, 1, []) := rfl
theorem t60_179 : q_tb (PP 60) 179 = some (.ifCond .ne 9, 3, []) := rfl
theorem t60_182 : q_tb (PP 60) 182 = some (.iload_n 2, 1, []) := rfl
theorem t60_183 : q_tb (PP 60) 183 = some (.iload_n 3, 1, []) := rfl
theorem t60_184 : q_tb (PP 60) 184 = some (.iadd, 1, []) := rfl
theorem t60_185 : q_tb (PP 60) 185 = some (.goto 13, 3, []) := rfl
theorem t60_188 : q_tb (PP 60) 188 = some (.iload_n 1, 1, []) := rfl
theorem t60_189 : q_tb (PP 60) 189 = some (.iconst 1, 1, []) := rfl
theorem t60_190 : q_tb (PP 60) 190 = some (.if_icmp .ne 7, 3, []) := rfl
theorem t60_193 : q_tb (PP 60) 193 = some (.iload_n 2, 1, []) := rfl
theorem t60_194 : q_tb (PP 60) 194 = some (.goto 4, 3, []) := rfl
theorem t60_197 : q_tb (PP 60) 197 = some (.iload_n 3, 1, []) := rfl
theorem t60_198 : q_tb (PP 60) 198 = some (.ireturn, 1, [0, 1, 2, 3, 4, 5, 6, 7]) := rfl
theorem t61_0 : q_tb (PP 61) 0 = some (.aload_n 0, 1, []) := rfl
theorem t61_1 : q_tb (PP 61) 1 = some (.iconst 0, 1, []) := rfl
theorem t61_2 : q_tb (PP 61) 2 = some (.putfield 79, 3, []) := rfl
theorem t61_5 : q_tb (PP 61) 5 = some (.aload_n 0, 1, []) := rfl
theorem t61_6 : q_tb (PP 61) 6 = some (.iload_n 1, 1, []) := rfl
theorem t61_7 : q_tb (PP 61) 7 = some (.invokevirtual 111, 3, []) := rfl
theorem t61_10 : q_tb (PP 61) 10 = some (.ifCond .eq 14, 3, []) := rfl
theorem t61_13 : q_tb (PP 61) 13 = some (.iload_n 2, 1, []) := rfl
theorem t61_14 : q_tb (PP 61) 14 = some (.ldc 172, 2, []) := rfl
theorem t61_16 : q_tb (PP 61) 16 = some (.ldc 173, 2, []) := rfl
theorem t61_18 : q_tb (PP 61) 18 = some (.invokestatic 93, 3, []) := rfl
theorem t61_21 : q_tb (PP 61) 21 = some (.ifCond .ne 5, 3, []) := rfl
theorem t61_24 : q_tb (PP 61) 24 = some (.iconst 0, 1, [0, 1, 2]) := rfl
theorem t61_25 : q_tb (PP 61) 25 = some (.ireturn, 1, []) := rfl
theorem t61_26 : q_tb (PP 61) 26 = some (.aload_n 0, 1, []) := rfl
theorem t61_27 : q_tb (PP 61) 27 = some (.getfield 53, 3, []) := rfl
theorem t61_30 : q_tb (PP 61) 30 = some (.iload_n 1, 1, []) := rfl
theorem t61_31 : q_tb (PP 61) 31 = some (.iload_n 2, 1, []) := rfl
theorem t61_32 : q_tb (PP 61) 32 = some (.iastore, 1, []) := rfl
theorem t61_33 : q_tb (PP 61) 33 = some (.aload_n 0, 1, []) := rfl
theorem t61_34 : q_tb (PP 61) 34 = some (.invokevirtual 101, 3, []) := rfl
theorem t61_37 : q_tb (PP 61) 37 = some (.iconst 1, 1, []) := rfl
theorem t61_38 : q_tb (PP 61) 38 = some (.ireturn, 1, []) := rfl
theorem t62_0 : q_tb (PP 62) 0 = some (.aload_n 0, 1, []) := rfl
theorem t62_1 : q_tb (PP 62) 1 = some (.iload_n 1, 1, []) := rfl
theorem t62_2 : q_tb (PP 62) 2 = some (.invokevirtual 111, 3, []) := rfl
theorem t62_5 : q_tb (PP 62) 5 = some (.ifCond .ne 9, 3, []) := rfl
theorem t62_8 : q_tb (PP 62) 8 = some (.aload_n 0, 1, []) := rfl
theorem t62_9 : q_tb (PP 62) 9 = some (.iconst 1, 1, []) := rfl
theorem t62_10 : q_tb (PP 62) 10 = some (.invokevirtual 97, 3, []) := rfl
theorem t62_13 : q_tb (PP 62) 13 = some (.ireturn, 1, []) := rfl
theorem t62_14 : q_tb (PP 62) 14 = some (.aload_n 0, 1, []) := rfl
theorem t62_15 : q_tb (PP 62) 15 = some (.iconst 0, 1, []) := rfl
theorem t62_16 : q_tb (PP 62) 16 = some (.putfield 79, 3, []) := rfl
theorem t62_19 : q_tb (PP 62) 19 = some (.aload_n 0, 1, []) := rfl
theorem t62_20 : q_tb (PP 62) 20 = some (.getfield 53, 3, []) := rfl
theorem t62_23 : q_tb (PP 62) 23 = some (.iload_n 1, 1, []) := rfl
theorem t62_24 : q_tb (PP 62) 24 = some (.iaload, 1, []) := rfl
theorem t62_25 : q_tb (PP 62) 25 = some (.ireturn, 1, []) := rfl
theorem t63_0 : q_tb (PP 63) 0 = some (.aload_n 0, 1, []) := rfl
theorem t63_1 : q_tb (PP 63) 1 = some (.iload_n 1, 1, []) := rfl
theorem t63_2 : q_tb (PP 63) 2 = some (.iload_n 2, 1, []) := rfl
theorem t63_3 : q_tb (PP 63) 3 = some (.iload_n 3, 1, []) := rfl
theorem t63_4 : q_tb (PP 63) 4 = some (.invokevirtual 132, 3, []) := rfl
theorem t63_7 : q_tb (PP 63) 7 = some (.i2l, 1, []) := rfl
theorem t63_8 : q_tb (PP 63) 8 = some (.aload_n 0, 1, []) := rfl
theorem t63_9 : q_tb (PP 63) 9 = some (.getfield 53, 3, []) := rfl
theorem t63_12 : q_tb (PP 63) 12 = some (.iload 4, 2, []) := rfl
theorem t63_14 : q_tb (PP 63) 14 = some (.iaload, 1, []) := rfl
theorem t63_15 : q_tb (PP 63) 15 = some (.i2l, 1, []) := rfl
theorem t63_16 : q_tb (PP 63) 16 = some (.aload_n 0, 1, []) := rfl
theorem t63_17 : q_tb (PP 63) 17 = some (.iload_n 1, 1, []) := rfl
theorem t63_18 : q_tb (PP 63) 18 = some (.iload_n 3, 1, []) := rfl
theorem t63_19 : q_tb (PP 63) 19 = some (.invokevirtual 152, 3, []) := rfl
theorem t63_22 : q_tb (PP 63) 22 = some (.i2l, 1, []) := rfl
theorem t63_23 : q_tb (PP 63) 23 = some (.lmul, 1, []) := rfl
theorem t63_24 : q_tb (PP 63) 24 = some (.lsub, 1, []) := rfl
theorem t63_25 : q_tb (PP 63) 25 = some (.lreturn, 1, []) := rfl
theorem t64_0 : q_tb (PP 64) 0 = some (.aload_n 0, 1, []) := rfl
theorem t64_1 : q_tb (PP 64) 1 = some (.iload_n 1, 1, []) := rfl
theorem t64_2 : q_tb (PP 64) 2 = some (.iload_n 3, 1, []) := rfl
theorem t64_3 : q_tb (PP 64) 3 = some (.iload 4, 2, []) := rfl
theorem t64_5 : q_tb (PP 64) 5 = some (.invokevirtual 128, 3, []) := rfl
theorem t64_8 : q_tb (PP 64) 8 = some (.istore 5, 2, []) := rfl
theorem t64_10 : q_tb (PP 64) 10 = some (.iload 5, 2, []) := rfl
theorem t64_12 : q_tb (PP 64) 12 = some (.ifCond .ge 9, 3, []) := rfl
theorem t64_15 : q_tb (PP 64) 15 = some (.ldc2_w 174, 3, []) := rfl
theorem t64_18 : q_tb (PP 64) 18 = some (.goto 27, 3, []) := rfl
theorem t64_21 : q_tb (PP 64) 21 = some (.aload_n 0, 1, []) := rfl
theorem t64_22 : q_tb (PP 64) 22 = some (.iload_n 1, 1, []) := rfl
theorem t64_23 : q_tb (PP 64) 23 = some (.iload_n 3, 1, []) := rfl
theorem t64_24 : q_tb (PP 64) 24 = some (.iload 4, 2, []) := rfl
theorem t64_26 : q_tb (PP 64) 26 = some (.iload_n 2, 1, []) := rfl
theorem t64_27 : q_tb (PP 64) 27 = some (.invokevirtual 176, 3, []) := rfl
theorem t64_30 : q_tb (PP 64) 30 = some (.aload_n 0, 1, []) := rfl
theorem t64_31 : q_tb (PP 64) 31 = some (.getfield 63, 3, []) := rfl
theorem t64_34 : q_tb (PP 64) 34 = some (.bipush 15, 2, []) := rfl
theorem t64_36 : q_tb (PP 64) 36 = some (.iload_n 2, 1, []) := rfl
theorem t64_37 : q_tb (PP 64) 37 = some (.iconst 1, 1, []) := rfl
theorem t64_38 : q_tb (PP 64) 38 = some (.iadd, 1, []) := rfl
theorem t64_39 : q_tb (PP 64) 39 = some (.imul, 1, []) := rfl
theorem t64_40 : q_tb (PP 64) 40 = some (.iload 5, 2, []) := rfl
theorem t64_42 : q_tb (PP 64) 42 = some (.iadd, 1, []) := rfl
theorem t64_43 : q_tb (PP 64) 43 = some (.laload, 1, []) := rfl
theorem t64_44 : q_tb (PP 64) 44 = some (.ladd, 1, []) := rfl
theorem t64_45 : q_tb (PP 64) 45 = some (.lreturn, 1, [0, 1, 2, 3, 4, 5]) := rfl
theorem t65_0 : q_tb (PP 65) 0 = some (.iconst 0, 1, []) := rfl
theorem t65_1 : q_tb (PP 65) 1 = some (.istore_n 2, 1, []) := rfl
theorem t65_2 : q_tb (PP 65) 2 = some (.iload_n 2, 1, []) := rfl
theorem t65_3 : q_tb (PP 65) 3 = some (.bipush 15, 2, []) := rfl
theorem t65_5 : q_tb (PP 65) 5 = some (.if_icmp .ge 24, 3, []) := rfl
theorem t65_8 : q_tb (PP 65) 8 = some (.aload_n 0, 1, []) := rfl
theorem t65_9 : q_tb (PP 65) 9 = some (.getfield 63, 3, []) := rfl
theorem t65_12 : q_tb (PP 65) 12 = some (.bipush 15, 2, []) := rfl
theorem t65_14 : q_tb (PP 65) 14 = some (.aload_n 0, 1, []) := rfl
theorem t65_15 : q_tb (PP 65) 15 = some (.getfield 76, 3, []) := rfl
theorem t65_18 : q_tb (PP 65) 18 = some (.imul, 1, []) := rfl
theorem t65_19 : q_tb (PP 65) 19 = some (.iload_n 2, 1, []) := rfl
theorem t65_20 : q_tb (PP 65) 20 = some (.iadd, 1, []) := rfl
theorem t65_21 : q_tb (PP 65) 21 = some (.lconst 0, 1, []) := rfl
theorem t65_22 : q_tb (PP 65) 22 = some (.lastore, 1, []) := rfl
theorem t65_23 : q_tb (PP 65) 23 = some (.iinc 2 1, 3, []) := rfl
theorem t65_26 : q_tb (PP 65) 26 = some (.goto (-24), 3, []) := rfl
theorem t65_29 : q_tb (PP 65) 29 = some (.aload_n 0, 1, []) := rfl
theorem t65_30 : q_tb (PP 65) 30 = some (.getfield 76, 3, []) := rfl
theorem t65_33 : q_tb (PP 65) 33 = some (.iconst 1, 1, []) := rfl
theorem t65_34 : q_tb (PP 65) 34 = some (.isub, 1, []) := rfl
theorem t65_35 : q_tb (PP 65) 35 = some (.istore_n 2, 1, []) := rfl
theorem t65_36 : q_tb (PP 65) 36 = some (.iload_n 2, 1, [3, 4, 5, 6]) := rfl
theorem t65_37 : q_tb (PP 65) 37 = some (.ifCond .lt 87, 3, []) := rfl
theorem t65_40 : q_tb (PP 65) 40 = some (.iconst 0, 1, []) := rfl
theorem t65_41 : q_tb (PP 65) 41 = some (.istore_n 3, 1, []) := rfl
theorem t65_42 : q_tb (PP 65) 42 = some (.iload_n 3, 1, [4, 5, 6]) := rfl
theorem t65_43 : q_tb (PP 65) 43 = some (.bipush 15, 2, []) := rfl
theorem t65_45 : q_tb (PP 65) 45 = some (.if_icmp .ge 73, 3, []) := rfl
theorem t65_48 : q_tb (PP 65) 48 = some (.ldc2_w 174, 3, []) := rfl
theorem t65_51 : q_tb (PP 65) 51 = some (.lstore 4, 2, []) := rfl
theorem t65_53 : q_tb (PP 65) 53 = some (.iconst 0, 1, []) := rfl
theorem t65_54 : q_tb (PP 65) 54 = some (.istore 6, 2, []) := rfl
theorem t65_56 : q_tb (PP 65) 56 = some (.iload 6, 2, [5]) := rfl
theorem t65_58 : q_tb (PP 65) 58 = some (.iconst 5, 1, []) := rfl
theorem t65_59 : q_tb (PP 65) 59 = some (.if_icmp .ge 40, 3, []) := rfl
theorem t65_62 : q_tb (PP 65) 62 = some (.aload_n 0, 1, []) := rfl
theorem t65_63 : q_tb (PP 65) 63 = some (.iload_n 1, 1, []) := rfl
theorem t65_64 : q_tb (PP 65) 64 = some (.iload_n 2, 1, []) := rfl
theorem t65_65 : q_tb (PP 65) 65 = some (.iload_n 3, 1, []) := rfl
theorem t65_66 : q_tb (PP 65) 66 = some (.iload 6, 2, []) := rfl
theorem t65_68 : q_tb (PP 65) 68 = some (.invokevirtual 180, 3, []) := rfl
theorem t65_71 : q_tb (PP 65) 71 = some (.lload 4, 2, []) := rfl
theorem t65_73 : q_tb (PP 65) 73 = some (.lcmp, 1, []) := rfl
theorem t65_74 : q_tb (PP 65) 74 = some (.ifCond .ge 15, 3, []) := rfl
theorem t65_77 : q_tb (PP 65) 77 = some (.aload_n 0, 1, []) := rfl
theorem t65_78 : q_tb (PP 65) 78 = some (.iload_n 1, 1, []) := rfl
theorem t65_79 : q_tb (PP 65) 79 = some (.iload_n 2, 1, []) := rfl
theorem t65_80 : q_tb (PP 65) 80 = some (.iload_n 3, 1, []) := rfl
theorem t65_81 : q_tb (PP 65) 81 = some (.iload 6, 2, []) := rfl
theorem t65_83 : q_tb (PP 65) 83 = some (.invokevirtual 180, 3, []) := rfl
theorem t65_86 : q_tb (PP 65) 86 = some (.goto 5, 3, []) := rfl
theorem t65_89 : q_tb (PP 65) 89 = some (.lload 4, 2, []) := rfl
theorem t65_91 : q_tb (PP 65) 91 = some (.lstore 4, 2, [4, 5]) := rfl
theorem t65_93 : q_tb (PP 65) 93 = some (.iinc 6 1, 3, []) := rfl
theorem t65_96 : q_tb (PP 65) 96 = some (.goto (-40), 3, []) := rfl
theorem t65_99 : q_tb (PP 65) 99 = some (.aload_n 0, 1, []) := rfl
theorem t65_100 : q_tb (PP 65) 100 = some (.getfield 63, 3, []) := rfl
theorem t65_103 : q_tb (PP 65) 103 = some (.bipush 15, 2, []) := rfl
theorem t65_105 : q_tb (PP 65) 105 = some (.iload_n 2, 1, []) := rfl
theorem t65_106 : q_tb (PP 65) 106 = some (.imul, 1, []) := rfl
theorem t65_107 : q_tb (PP 65) 107 = some (.iload_n 3, 1, []) := rfl
theorem t65_108 : q_tb (PP 65) 108 = some (.iadd, 1, []) := rfl
theorem t65_109 : q_tb (PP 65) 109 = some (.lload 4, 2, []) := rfl
theorem t65_111 : q_tb (PP 65) 111 = some (.lastore, 1, []) := rfl
theorem t65_112 : q_tb (PP 65) 112 = some (.iinc 3 1, 3, []) := rfl
theorem t65_115 : q_tb (PP 65) 115 = some (.goto (-73), 3, []) := rfl
theorem t65_118 : q_tb (PP 65) 118 = some (.iinc 2 (-1), 3, []) := rfl
theorem t65_121 : q_tb (PP 65) 121 = some (.goto (-85), 3, []) := rfl
theorem t65_124 : q_tb (PP 65) 124 = some (.aload_n 0, 1, []) := rfl
theorem t65_125 : q_tb (PP 65) 125 = some (.iload_n 1, 1, []) := rfl
theorem t65_126 : q_tb (PP 65) 126 = some (.invokevirtual 149, 3, []) := rfl
theorem t65_129 : q_tb (PP 65) 129 = some (.istore_n 2, 1, []) := rfl
theorem t65_130 : q_tb (PP 65) 130 = some (.aload_n 0, 1, []) := rfl
theorem t65_131 : q_tb (PP 65) 131 = some (.getfield 70, 3, []) := rfl
theorem t65_134 : q_tb (PP 65) 134 = some (.iload_n 1, 1, []) := rfl
theorem t65_135 : q_tb (PP 65) 135 = some (.aload_n 0, 1, []) := rfl
theorem t65_136 : q_tb (PP 65) 136 = some (.getfield 63, 3, []) := rfl
theorem t65_139 : q_tb (PP 65) 139 = some (.iload_n 2, 1, []) := rfl
theorem t65_140 : q_tb (PP 65) 140 = some (.laload, 1, []) := rfl
theorem t65_141 : q_tb (PP 65) 141 = some (.lastore, 1, []) := rfl
theorem t65_142 : q_tb (PP 65) 142 = some (.iconst 0, 1, []) := rfl
theorem t65_143 : q_tb (PP 65) 143 = some (.istore_n 3, 1, []) := rfl
theorem t65_144 : q_tb (PP 65) 144 = some (.iload_n 3, 1, [4, 5, 6]) := rfl
theorem t65_145 : q_tb (PP 65) 145 = some (.aload_n 0, 1, []) := rfl
theorem t65_146 : q_tb (PP 65) 146 = some (.getfield 76, 3, []) := rfl
theorem t65_149 : q_tb (PP 65) 149 = some (.if_icmp .ge 69, 3, []) := rfl
theorem t65_152 : q_tb (PP 65) 152 = some (.iconst 0, 1, []) := rfl
theorem t65_153 : q_tb (PP 65) 153 = some (.istore 4, 2, []) := rfl
theorem t65_155 : q_tb (PP 65) 155 = some (.aload_n 0, 1, [5, 6]) := rfl
theorem t65_156 : q_tb (PP 65) 156 = some (.iload_n 1, 1, []) := rfl
theorem t65_157 : q_tb (PP 65) 157 = some (.iload_n 3, 1, []) := rfl
theorem t65_158 : q_tb (PP 65) 158 = some (.iload_n 2, 1, []) := rfl
theorem t65_159 : q_tb (PP 65) 159 = some (.iload 4, 2, []) := rfl
theorem t65_161 : q_tb (PP 65) 161 = some (.invokevirtual 180, 3, []) := rfl
theorem t65_164 : q_tb (PP 65) 164 = some (.aload_n 0, 1, []) := rfl
theorem t65_165 : q_tb (PP 65) 165 = some (.getfield 63, 3, []) := rfl
theorem t65_168 : q_tb (PP 65) 168 = some (.bipush 15, 2, []) := rfl
theorem t65_170 : q_tb (PP 65) 170 = some (.iload_n 3, 1, []) := rfl
theorem t65_171 : q_tb (PP 65) 171 = some (.imul, 1, []) := rfl
theorem t65_172 : q_tb (PP 65) 172 = some (.iload_n 2, 1, []) := rfl
theorem t65_173 : q_tb (PP 65) 173 = some (.iadd, 1, []) := rfl
theorem t65_174 : q_tb (PP 65) 174 = some (.laload, 1, []) := rfl
theorem t65_175 : q_tb (PP 65) 175 = some (.lcmp, 1, []) := rfl
theorem t65_176 : q_tb (PP 65) 176 = some (.ifCond .eq 9, 3, []) := rfl
theorem t65_179 : q_tb (PP 65) 179 = some (.iinc 4 1, 3, []) := rfl
theorem t65_182 : q_tb (PP 65) 182 = some (.goto (-27), 3, []) := rfl
theorem t65_185 : q_tb (PP 65) 185 = some (.aload_n 0, 1, []) := rfl
theorem t65_186 : q_tb (PP 65) 186 = some (.getfield 67, 3, []) := rfl
theorem t65_189 : q_tb (PP 65) 189 = some (.bipush 8, 2, []) := rfl
theorem t65_191 : q_tb (PP 65) 191 = some (.iload_n 1, 1, []) := rfl
theorem t65_192 : q_tb (PP 65) 192 = some (.imul, 1, []) := rfl
theorem t65_193 : q_tb (PP 65) 193 = some (.iload_n 3, 1, []) := rfl
theorem t65_194 : q_tb (PP 65) 194 = some (.iadd, 1, []) := rfl
theorem t65_195 : q_tb (PP 65) 195 = some (.aload_n 0, 1, []) := rfl
theorem t65_196 : q_tb (PP 65) 196 = some (.iload_n 1, 1, []) := rfl
theorem t65_197 : q_tb (PP 65) 197 = some (.iload 4, 2, []) := rfl
theorem t65_199 : q_tb (PP 65) 199 = some (.invokevirtual 152, 3, []) := rfl
theorem t65_202 : q_tb (PP 65) 202 = some (.iastore, 1, []) := rfl
theorem t65_203 : q_tb (PP 65) 203 = some (.aload_n 0, 1, []) := rfl
theorem t65_204 : q_tb (PP 65) 204 = some (.iload_n 1, 1, []) := rfl
theorem t65_205 : q_tb (PP 65) 205 = some (.iload_n 2, 1, []) := rfl
theorem t65_206 : q_tb (PP 65) 206 = some (.iload 4, 2, []) := rfl
theorem t65_208 : q_tb (PP 65) 208 = some (.invokevirtual 128, 3, []) := rfl
theorem t65_211 : q_tb (PP 65) 211 = some (.istore_n 2, 1, []) := rfl
theorem t65_212 : q_tb (PP 65) 212 = some (.iinc 3 1, 3, []) := rfl
theorem t65_215 : q_tb (PP 65) 215 = some (.goto (-71), 3, []) := rfl
theorem t65_218 : q_tb (PP 65) 218 = some (.return_, 1, []) := rfl
theorem t66_0 : q_tb (PP 66) 0 = some (.lconst 0, 1, []) := rfl
theorem t66_1 : q_tb (PP 66) 1 = some (.lstore_n 1, 1, []) := rfl
theorem t66_2 : q_tb (PP 66) 2 = some (.iconst 0, 1, []) := rfl
theorem t66_3 : q_tb (PP 66) 3 = some (.istore_n 3, 1, []) := rfl
theorem t66_4 : q_tb (PP 66) 4 = some (.iload_n 3, 1, [2]) := rfl
theorem t66_5 : q_tb (PP 66) 5 = some (.aload_n 0, 1, []) := rfl
theorem t66_6 : q_tb (PP 66) 6 = some (.getfield 76, 3, []) := rfl
theorem t66_9 : q_tb (PP 66) 9 = some (.if_icmp .ge 27, 3, []) := rfl
theorem t66_12 : q_tb (PP 66) 12 = some (.lload_n 1, 1, []) := rfl
theorem t66_13 : q_tb (PP 66) 13 = some (.aload_n 0, 1, []) := rfl
theorem t66_14 : q_tb (PP 66) 14 = some (.getfield 37, 3, []) := rfl
theorem t66_17 : q_tb (PP 66) 17 = some (.iload_n 3, 1, []) := rfl
theorem t66_18 : q_tb (PP 66) 18 = some (.iaload, 1, []) := rfl
theorem t66_19 : q_tb (PP 66) 19 = some (.i2l, 1, []) := rfl
theorem t66_20 : q_tb (PP 66) 20 = some (.aload_n 0, 1, []) := rfl
theorem t66_21 : q_tb (PP 66) 21 = some (.getfield 53, 3, []) := rfl
theorem t66_24 : q_tb (PP 66) 24 = some (.iload_n 3, 1, []) := rfl
theorem t66_25 : q_tb (PP 66) 25 = some (.iaload, 1, []) := rfl
theorem t66_26 : q_tb (PP 66) 26 = some (.i2l, 1, []) := rfl
theorem t66_27 : q_tb (PP 66) 27 = some (.lmul, 1, []) := rfl
theorem t66_28 : q_tb (PP 66) 28 = some (.ladd, 1, []) := rfl
theorem t66_29 : q_tb (PP 66) 29 = some (.lstore_n 1, 1, []) := rfl
theorem t66_30 : q_tb (PP 66) 30 = some (.iinc 3 1, 3, []) := rfl
theorem t66_33 : q_tb (PP 66) 33 = some (.goto (-29), 3, []) := rfl
theorem t66_36 : q_tb (PP 66) 36 = some (.iconst 0, 1, []) := rfl
theorem t66_37 : q_tb (PP 66) 37 = some (.istore_n 3, 1, []) := rfl
theorem t66_38 : q_tb (PP 66) 38 = some (.iload_n 3, 1, [2]) := rfl
theorem t66_39 : q_tb (PP 66) 39 = some (.aload_n 0, 1, []) := rfl
theorem t66_40 : q_tb (PP 66) 40 = some (.getfield 82, 3, []) := rfl
theorem t66_43 : q_tb (PP 66) 43 = some (.if_icmp .ge 23, 3, []) := rfl
theorem t66_46 : q_tb (PP 66) 46 = some (.aload_n 0, 1, []) := rfl
theorem t66_47 : q_tb (PP 66) 47 = some (.iload_n 3, 1, []) := rfl
theorem t66_48 : q_tb (PP 66) 48 = some (.invokevirtual 183, 3, []) := rfl
theorem t66_51 : q_tb (PP 66) 51 = some (.lload_n 1, 1, []) := rfl
theorem t66_52 : q_tb (PP 66) 52 = some (.aload_n 0, 1, []) := rfl
theorem t66_53 : q_tb (PP 66) 53 = some (.getfield 70, 3, []) := rfl
theorem t66_56 : q_tb (PP 66) 56 = some (.iload_n 3, 1, []) := rfl
theorem t66_57 : q_tb (PP 66) 57 = some (.laload, 1, []) := rfl
theorem t66_58 : q_tb (PP 66) 58 = some (.ladd, 1, []) := rfl
theorem t66_59 : q_tb (PP 66) 59 = some (.lstore_n 1, 1, []) := rfl
theorem t66_60 : q_tb (PP 66) 60 = some (.iinc 3 1, 3, []) := rfl
theorem t66_63 : q_tb (PP 66) 63 = some (.goto (-25), 3, []) := rfl
theorem t66_66 : q_tb (PP 66) 66 = some (.lload_n 1, 1, []) := rfl
theorem t66_67 : q_tb (PP 66) 67 = some (.lreturn, 1, []) := rfl
theorem t67_0 : q_tb (PP 67) 0 = some (.aload_n 0, 1, []) := rfl
theorem t67_1 : q_tb (PP 67) 1 = some (.iload_n 1, 1, []) := rfl
theorem t67_2 : q_tb (PP 67) 2 = some (.invokevirtual 104, 3, []) := rfl
theorem t67_5 : q_tb (PP 67) 5 = some (.ifCond .ne 10, 3, []) := rfl
theorem t67_8 : q_tb (PP 67) 8 = some (.aload_n 0, 1, []) := rfl
theorem t67_9 : q_tb (PP 67) 9 = some (.iconst 1, 1, []) := rfl
theorem t67_10 : q_tb (PP 67) 10 = some (.invokevirtual 97, 3, []) := rfl
theorem t67_13 : q_tb (PP 67) 13 = some (.i2l, 1, []) := rfl
theorem t67_14 : q_tb (PP 67) 14 = some (.lreturn, 1, []) := rfl
theorem t67_15 : q_tb (PP 67) 15 = some (.aload_n 0, 1, []) := rfl
theorem t67_16 : q_tb (PP 67) 16 = some (.iconst 0, 1, []) := rfl
theorem t67_17 : q_tb (PP 67) 17 = some (.putfield 79, 3, []) := rfl
theorem t67_20 : q_tb (PP 67) 20 = some (.aload_n 0, 1, []) := rfl
theorem t67_21 : q_tb (PP 67) 21 = some (.iload_n 1, 1, []) := rfl
theorem t67_22 : q_tb (PP 67) 22 = some (.invokevirtual 183, 3, []) := rfl
theorem t67_25 : q_tb (PP 67) 25 = some (.aload_n 0, 1, []) := rfl
theorem t67_26 : q_tb (PP 67) 26 = some (.getfield 70, 3, []) := rfl
theorem t67_29 : q_tb (PP 67) 29 = some (.iload_n 1, 1, []) := rfl
theorem t67_30 : q_tb (PP 67) 30 = some (.laload, 1, []) := rfl
theorem t67_31 : q_tb (PP 67) 31 = some (.lreturn, 1, []) := rfl
theorem t68_0 : q_tb (PP 68) 0 = some (.aload_n 0, 1, []) := rfl
theorem t68_1 : q_tb (PP 68) 1 = some (.iload_n 1, 1, []) := rfl
theorem t68_2 : q_tb (PP 68) 2 = some (.invokevirtual 104, 3, []) := rfl
theorem t68_5 : q_tb (PP 68) 5 = some (.ifCond .eq 11, 3, []) := rfl
theorem t68_8 : q_tb (PP 68) 8 = some (.aload_n 0, 1, []) := rfl
theorem t68_9 : q_tb (PP 68) 9 = some (.iload_n 2, 1, []) := rfl
theorem t68_10 : q_tb (PP 68) 10 = some (.invokevirtual 111, 3, []) := rfl
theorem t68_13 : q_tb (PP 68) 13 = some (.ifCond .ne 9, 3, []) := rfl
theorem t68_16 : q_tb (PP 68) 16 = some (.aload_n 0, 1, [1, 2]) := rfl
theorem t68_17 : q_tb (PP 68) 17 = some (.iconst 1, 1, []) := rfl
theorem t68_18 : q_tb (PP 68) 18 = some (.invokevirtual 97, 3, []) := rfl
theorem t68_21 : q_tb (PP 68) 21 = some (.ireturn, 1, []) := rfl
theorem t68_22 : q_tb (PP 68) 22 = some (.aload_n 0, 1, []) := rfl
theorem t68_23 : q_tb (PP 68) 23 = some (.iconst 0, 1, []) := rfl
theorem t68_24 : q_tb (PP 68) 24 = some (.putfield 79, 3, []) := rfl
theorem t68_27 : q_tb (PP 68) 27 = some (.aload_n 0, 1, []) := rfl
theorem t68_28 : q_tb (PP 68) 28 = some (.iload_n 1, 1, []) := rfl
theorem t68_29 : q_tb (PP 68) 29 = some (.invokevirtual 183, 3, []) := rfl
theorem t68_32 : q_tb (PP 68) 32 = some (.aload_n 0, 1, []) := rfl
theorem t68_33 : q_tb (PP 68) 33 = some (.getfield 67, 3, []) := rfl
theorem t68_36 : q_tb (PP 68) 36 = some (.bipush 8, 2, []) := rfl
theorem t68_38 : q_tb (PP 68) 38 = some (.iload_n 1, 1, []) := rfl
theorem t68_39 : q_tb (PP 68) 39 = some (.imul, 1, []) := rfl
theorem t68_40 : q_tb (PP 68) 40 = some (.iload_n 2, 1, []) := rfl
theorem t68_41 : q_tb (PP 68) 41 = some (.iadd, 1, []) := rfl
theorem t68_42 : q_tb (PP 68) 42 = some (.iaload, 1, []) := rfl
theorem t68_43 : q_tb (PP 68) 43 = some (.ireturn, 1, []) := rfl
theorem t69_0 : q_tb (PP 69) 0 = some (.aload_n 0, 1, []) := rfl
theorem t69_1 : q_tb (PP 69) 1 = some (.iconst 0, 1, []) := rfl
theorem t69_2 : q_tb (PP 69) 2 = some (.putfield 79, 3, []) := rfl
theorem t69_5 : q_tb (PP 69) 5 = some (.aload_n 0, 1, []) := rfl
theorem t69_6 : q_tb (PP 69) 6 = some (.invokevirtual 85, 3, []) := rfl
theorem t69_9 : q_tb (PP 69) 9 = some (.lreturn, 1, []) := rfl
theorem t70_0 : q_tb (PP 70) 0 = some (.aload_n 0, 1, []) := rfl
theorem t70_1 : q_tb (PP 70) 1 = some (.invokevirtual 85, 3, []) := rfl
theorem t70_4 : q_tb (PP 70) 4 = some (.lstore_n 1, 1, []) := rfl
theorem t70_5 : q_tb (PP 70) 5 = some (.iconst 0, 1, []) := rfl
theorem t70_6 : q_tb (PP 70) 6 = some (.istore_n 3, 1, []) := rfl
theorem t70_7 : q_tb (PP 70) 7 = some (.iload_n 3, 1, [1, 2, 4, 5]) := rfl
theorem t70_8 : q_tb (PP 70) 8 = some (.aload_n 0, 1, []) := rfl
theorem t70_9 : q_tb (PP 70) 9 = some (.getfield 76, 3, []) := rfl
theorem t70_12 : q_tb (PP 70) 12 = some (.if_icmp .ge 126, 3, []) := rfl
theorem t70_15 : q_tb (PP 70) 15 = some (.iconst 0, 1, []) := rfl
theorem t70_16 : q_tb (PP 70) 16 = some (.istore 4, 2, []) := rfl
theorem t70_18 : q_tb (PP 70) 18 = some (.iconst 0, 1, []) := rfl
theorem t70_19 : q_tb (PP 70) 19 = some (.istore 5, 2, []) := rfl
theorem t70_21 : q_tb (PP 70) 21 = some (.iload 5, 2, [1, 2]) := rfl
theorem t70_23 : q_tb (PP 70) 23 = some (.aload_n 0, 1, []) := rfl
theorem t70_24 : q_tb (PP 70) 24 = some (.getfield 82, 3, []) := rfl
theorem t70_27 : q_tb (PP 70) 27 = some (.if_icmp .ge 26, 3, []) := rfl
theorem t70_30 : q_tb (PP 70) 30 = some (.iload 4, 2, []) := rfl
theorem t70_32 : q_tb (PP 70) 32 = some (.aload_n 0, 1, []) := rfl
theorem t70_33 : q_tb (PP 70) 33 = some (.getfield 67, 3, []) := rfl
theorem t70_36 : q_tb (PP 70) 36 = some (.bipush 8, 2, []) := rfl
theorem t70_38 : q_tb (PP 70) 38 = some (.iload 5, 2, []) := rfl
theorem t70_40 : q_tb (PP 70) 40 = some (.imul, 1, []) := rfl
theorem t70_41 : q_tb (PP 70) 41 = some (.iload_n 3, 1, []) := rfl
theorem t70_42 : q_tb (PP 70) 42 = some (.iadd, 1, []) := rfl
theorem t70_43 : q_tb (PP 70) 43 = some (.iaload, 1, []) := rfl
theorem t70_44 : q_tb (PP 70) 44 = some (.iadd, 1, []) := rfl
theorem t70_45 : q_tb (PP 70) 45 = some (.istore 4, 2, []) := rfl
theorem t70_47 : q_tb (PP 70) 47 = some (.iinc 5 1, 3, []) := rfl
theorem t70_50 : q_tb (PP 70) 50 = some (.goto (-29), 3, []) := rfl
theorem t70_53 : q_tb (PP 70) 53 = some (.aload_n 0, 1, []) := rfl
theorem t70_54 : q_tb (PP 70) 54 = some (.getfield 53, 3, []) := rfl
theorem t70_57 : q_tb (PP 70) 57 = some (.iload_n 3, 1, []) := rfl
theorem t70_58 : q_tb (PP 70) 58 = some (.iaload, 1, []) := rfl
theorem t70_59 : q_tb (PP 70) 59 = some (.iload 4, 2, []) := rfl
theorem t70_61 : q_tb (PP 70) 61 = some (.aload_n 0, 1, []) := rfl
theorem t70_62 : q_tb (PP 70) 62 = some (.getfield 37, 3, []) := rfl
theorem t70_65 : q_tb (PP 70) 65 = some (.iload_n 3, 1, []) := rfl
theorem t70_66 : q_tb (PP 70) 66 = some (.iaload, 1, []) := rfl
theorem t70_67 : q_tb (PP 70) 67 = some (.if_icmp .ge 10, 3, []) := rfl
theorem t70_70 : q_tb (PP 70) 70 = some (.aload_n 0, 1, []) := rfl
theorem t70_71 : q_tb (PP 70) 71 = some (.getfield 56, 3, []) := rfl
theorem t70_74 : q_tb (PP 70) 74 = some (.goto 23, 3, []) := rfl
theorem t70_77 : q_tb (PP 70) 77 = some (.iload 4, 2, []) := rfl
theorem t70_79 : q_tb (PP 70) 79 = some (.aload_n 0, 1, []) := rfl
theorem t70_80 : q_tb (PP 70) 80 = some (.getfield 37, 3, []) := rfl
theorem t70_83 : q_tb (PP 70) 83 = some (.iload_n 3, 1, []) := rfl
theorem t70_84 : q_tb (PP 70) 84 = some (.iaload, 1, []) := rfl
theorem t70_85 : q_tb (PP 70) 85 = some (.if_icmp .le 11, 3, []) := rfl
theorem t70_88 : q_tb (PP 70) 88 = some (.aload_n 0, 1, []) := rfl
theorem t70_89 : q_tb (PP 70) 89 = some (.getfield 56, 3, []) := rfl
theorem t70_92 : q_tb (PP 70) 92 = some (.ineg, 1, []) := rfl
theorem t70_93 : q_tb (PP 70) 93 = some (.goto 4, 3, []) := rfl
theorem t70_96 : q_tb (PP 70) 96 = some (.iconst 0, 1, []) := rfl
theorem t70_97 : q_tb (PP 70) 97 = some (.iadd, 1, [1, 2, 4, 5]) := rfl
theorem t70_98 : q_tb (PP 70) 98 = some (.istore 5, 2, []) := rfl
theorem t70_100 : q_tb (PP 70) 100 = some (.aload_n 0, 1, []) := rfl
theorem t70_101 : q_tb (PP 70) 101 = some (.getfield 53, 3, []) := rfl
theorem t70_104 : q_tb (PP 70) 104 = some (.iload_n 3, 1, []) := rfl
theorem t70_105 : q_tb (PP 70) 105 = some (.iload 5, 2, []) := rfl
theorem t70_107 : q_tb (PP 70) 107 = some (.ldc 173, 2, []) := rfl
theorem t70_109 : q_tb (PP 70) 109 = some (.if_icmp .le 8, 3, []) := rfl
theorem t70_112 : q_tb (PP 70) 112 = some (.ldc 173, 2, []) := rfl
theorem t70_114 : q_tb (PP 70) 114 = some (.goto 17, 3, []) := rfl
theorem t70_117 : q_tb (PP 70) 117 = some (.iload 5, 2, []) := rfl
theorem t70_119 : q_tb (PP 70) 119 = some (.ldc 172, 2, []) := rfl
theorem t70_121 : q_tb (PP 70) 121 = some (.if_icmp .ge 8, 3, []) := rfl
theorem t70_124 : q_tb (PP 70) 124 = some (.ldc 172, 2, []) := rfl
theorem t70_126 : q_tb (PP 70) 126 = some (.goto 5, 3, []) := rfl
theorem t70_129 : q_tb (PP 70) 129 = some (.iload 5, 2, []) := rfl
theorem t70_131 : q_tb (PP 70) 131 = some (.iastore, 1, [1, 2, 4, 5]) := rfl
theorem t70_132 : q_tb (PP 70) 132 = some (.iinc 3 1, 3, []) := rfl
theorem t70_135 : q_tb (PP 70) 135 = some (.goto (-128), 3, []) := rfl
theorem t70_138 : q_tb (PP 70) 138 = some (.aload_n 0, 1, []) := rfl
theorem t70_139 : q_tb (PP 70) 139 = some (.invokevirtual 85, 3, []) := rfl
theorem t70_142 : q_tb (PP 70) 142 = some (.lstore_n 3, 1, []) := rfl
theorem t70_143 : q_tb (PP 70) 143 = some (.lload_n 3, 1, []) := rfl
theorem t70_144 : q_tb (PP 70) 144 = some (.aload_n 0, 1, []) := rfl
theorem t70_145 : q_tb (PP 70) 145 = some (.getfield 89, 3, []) := rfl
theorem t70_148 : q_tb (PP 70) 148 = some (.lcmp, 1, []) := rfl
theorem t70_149 : q_tb (PP 70) 149 = some (.ifCond .le 11, 3, []) := rfl
theorem t70_152 : q_tb (PP 70) 152 = some (.aload_n 0, 1, []) := rfl
theorem t70_153 : q_tb (PP 70) 153 = some (.lload_n 3, 1, []) := rfl
theorem t70_154 : q_tb (PP 70) 154 = some (.putfield 89, 3, []) := rfl
theorem t70_157 : q_tb (PP 70) 157 = some (.goto 25, 3, []) := rfl
theorem t70_160 : q_tb (PP 70) 160 = some (.aload_n 0, 1, []) := rfl
theorem t70_161 : q_tb (PP 70) 161 = some (.aload_n 0, 1, []) := rfl
theorem t70_162 : q_tb (PP 70) 162 = some (.getfield 56, 3, []) := rfl
theorem t70_165 : q_tb (PP 70) 165 = some (.iconst 1, 1, []) := rfl
theorem t70_166 : q_tb (PP 70) 166 = some (.if_icmp .le 12, 3, []) := rfl
theorem t70_169 : q_tb (PP 70) 169 = some (.aload_n 0, 1, []) := rfl
theorem t70_170 : q_tb (PP 70) 170 = some (.getfield 56, 3, []) := rfl
theorem t70_173 : q_tb (PP 70) 173 = some (.iconst 2, 1, []) := rfl
theorem t70_174 : q_tb (PP 70) 174 = some (.idiv, 1, []) := rfl
theorem t70_175 : q_tb (PP 70) 175 = some (.goto 4, 3, []) := rfl
theorem t70_178 : q_tb (PP 70) 178 = some (.iconst 1, 1, []) := rfl
theorem t70_179 : q_tb (PP 70) 179 = some (.putfield 56, 3, [0, 1, 2, 3, 4, 5]) := rfl
theorem t70_182 : q_tb (PP 70) 182 = some (.return_, 1, [0, 1, 2, 3, 4, 5]) := rfl
theorem t71_0 : q_tb (PP 71) 0 = some (.iload_n 1, 1, []) := rfl
theorem t71_1 : q_tb (PP 71) 1 = some (.iconst 1, 1, []) := rfl
theorem t71_2 : q_tb (PP 71) 2 = some (.bipush 40, 2, []) := rfl
theorem t71_4 : q_tb (PP 71) 4 = some (.invokestatic 93, 3, []) := rfl
theorem t71_7 : q_tb (PP 71) 7 = some (.ifCond .ne 10, 3, []) := rfl
theorem t71_10 : q_tb (PP 71) 10 = some (.aload_n 0, 1, []) := rfl
theorem t71_11 : q_tb (PP 71) 11 = some (.iconst 1, 1, []) := rfl
theorem t71_12 : q_tb (PP 71) 12 = some (.invokevirtual 97, 3, []) := rfl
theorem t71_15 : q_tb (PP 71) 15 = some (.i2l, 1, []) := rfl
theorem t71_16 : q_tb (PP 71) 16 = some (.lreturn, 1, []) := rfl
theorem t71_17 : q_tb (PP 71) 17 = some (.aload_n 0, 1, []) := rfl
theorem t71_18 : q_tb (PP 71) 18 = some (.iconst 0, 1, []) := rfl
theorem t71_19 : q_tb (PP 71) 19 = some (.putfield 79, 3, []) := rfl
theorem t71_22 : q_tb (PP 71) 22 = some (.iconst 0, 1, []) := rfl
theorem t71_23 : q_tb (PP 71) 23 = some (.istore_n 2, 1, []) := rfl
theorem t71_24 : q_tb (PP 71) 24 = some (.iload_n 2, 1, []) := rfl
theorem t71_25 : q_tb (PP 71) 25 = some (.iload_n 1, 1, []) := rfl
theorem t71_26 : q_tb (PP 71) 26 = some (.if_icmp .ge 13, 3, []) := rfl
theorem t71_29 : q_tb (PP 71) 29 = some (.aload_n 0, 1, []) := rfl
theorem t71_30 : q_tb (PP 71) 30 = some (.invokevirtual 187, 3, []) := rfl
theorem t71_33 : q_tb (PP 71) 33 = some (.iinc 2 1, 3, []) := rfl
theorem t71_36 : q_tb (PP 71) 36 = some (.goto (-12), 3, []) := rfl
theorem t71_39 : q_tb (PP 71) 39 = some (.aload_n 0, 1, []) := rfl
theorem t71_40 : q_tb (PP 71) 40 = some (.getfield 89, 3, []) := rfl
theorem t71_43 : q_tb (PP 71) 43 = some (.lreturn, 1, []) := rfl
theorem t72_0 : q_tb (PP 72) 0 = some (.aload_n 0, 1, []) := rfl
theorem t72_1 : q_tb (PP 72) 1 = some (.iconst 0, 1, []) := rfl
theorem t72_2 : q_tb (PP 72) 2 = some (.putfield 79, 3, []) := rfl
theorem t72_5 : q_tb (PP 72) 5 = some (.iload_n 1, 1, []) := rfl
theorem t72_6 : q_tb (PP 72) 6 = some (.iconst 0, 1, []) := rfl
theorem t72_7 : q_tb (PP 72) 7 = some (.iconst 3, 1, []) := rfl
theorem t72_8 : q_tb (PP 72) 8 = some (.invokestatic 93, 3, []) := rfl
theorem t72_11 : q_tb (PP 72) 11 = some (.ifCond .ne 5, 3, []) := rfl
theorem t72_14 : q_tb (PP 72) 14 = some (.iconst 0, 1, []) := rfl
theorem t72_15 : q_tb (PP 72) 15 = some (.ireturn, 1, []) := rfl
theorem t72_16 : q_tb (PP 72) 16 = some (.aload_n 0, 1, []) := rfl
theorem t72_17 : q_tb (PP 72) 17 = some (.getfield 49, 3, []) := rfl
theorem t72_20 : q_tb (PP 72) 20 = some (.iload_n 1, 1, []) := rfl
theorem t72_21 : q_tb (PP 72) 21 = some (.iconst 1, 1, []) := rfl
theorem t72_22 : q_tb (PP 72) 22 = some (.bastore, 1, []) := rfl
theorem t72_23 : q_tb (PP 72) 23 = some (.iconst 0, 1, []) := rfl
theorem t72_24 : q_tb (PP 72) 24 = some (.istore_n 2, 1, []) := rfl
theorem t72_25 : q_tb (PP 72) 25 = some (.iload_n 2, 1, []) := rfl
theorem t72_26 : q_tb (PP 72) 26 = some (.bipush 24, 2, []) := rfl
theorem t72_28 : q_tb (PP 72) 28 = some (.if_icmp .ge 26, 3, []) := rfl
theorem t72_31 : q_tb (PP 72) 31 = some (.aload_n 0, 1, []) := rfl
theorem t72_32 : q_tb (PP 72) 32 = some (.getfield 46, 3, []) := rfl
theorem t72_35 : q_tb (PP 72) 35 = some (.bipush 24, 2, []) := rfl
theorem t72_37 : q_tb (PP 72) 37 = some (.iload_n 1, 1, []) := rfl
theorem t72_38 : q_tb (PP 72) 38 = some (.imul, 1, []) := rfl
theorem t72_39 : q_tb (PP 72) 39 = some (.iload_n 2, 1, []) := rfl
theorem t72_40 : q_tb (PP 72) 40 = some (.iadd, 1, []) := rfl
theorem t72_41 : q_tb (PP 72) 41 = some (.aload_n 0, 1, []) := rfl
theorem t72_42 : q_tb (PP 72) 42 = some (.getfield 43, 3, []) := rfl
theorem t72_45 : q_tb (PP 72) 45 = some (.iload_n 2, 1, []) := rfl
theorem t72_46 : q_tb (PP 72) 46 = some (.iaload, 1, []) := rfl
theorem t72_47 : q_tb (PP 72) 47 = some (.iastore, 1, []) := rfl
theorem t72_48 : q_tb (PP 72) 48 = some (.iinc 2 1, 3, []) := rfl
theorem t72_51 : q_tb (PP 72) 51 = some (.goto (-26), 3, []) := rfl
theorem t72_54 : q_tb (PP 72) 54 = some (.iconst 1, 1, []) := rfl
theorem t72_55 : q_tb (PP 72) 55 = some (.ireturn, 1, []) := rfl
theorem t73_0 : q_tb (PP 73) 0 = some (.aload_n 0, 1, []) := rfl
theorem t73_1 : q_tb (PP 73) 1 = some (.iconst 0, 1, []) := rfl
theorem t73_2 : q_tb (PP 73) 2 = some (.putfield 79, 3, []) := rfl
theorem t73_5 : q_tb (PP 73) 5 = some (.iload_n 1, 1, []) := rfl
theorem t73_6 : q_tb (PP 73) 6 = some (.iconst 0, 1, []) := rfl
theorem t73_7 : q_tb (PP 73) 7 = some (.iconst 3, 1, []) := rfl
theorem t73_8 : q_tb (PP 73) 8 = some (.invokestatic 93, 3, []) := rfl
theorem t73_11 : q_tb (PP 73) 11 = some (.ifCond .eq 25, 3, []) := rfl
theorem t73_14 : q_tb (PP 73) 14 = some (.aload_n 0, 1, []) := rfl
theorem t73_15 : q_tb (PP 73) 15 = some (.getfield 49, 3, []) := rfl
theorem t73_18 : q_tb (PP 73) 18 = some (.iload_n 1, 1, []) := rfl
theorem t73_19 : q_tb (PP 73) 19 = some (.iconst 0, 1, []) := rfl
theorem t73_20 : q_tb (PP 73) 20 = some (.iconst 3, 1, []) := rfl
theorem t73_21 : q_tb (PP 73) 21 = some (.invokestatic 93, 3, []) := rfl
theorem t73_24 : q_tb (PP 73) 24 = some (.ifCond .eq 7, 3, []) := rfl
theorem t73_27 : q_tb (PP 73) 27 = some (.iload_n 1, 1, []) := rfl
theorem t73_28 : q_tb (PP 73) 28 = some (.goto 4, 3, []) := rfl
theorem t73_31 : q_tb (PP 73) 31 = some (.iconst 0, 1, []) := rfl
theorem t73_32 : q_tb (PP 73) 32 = some (.baload, 1, []) := rfl
theorem t73_33 : q_tb (PP 73) 33 = some (.ifCond .ne 5, 3, []) := rfl
theorem t73_36 : q_tb (PP 73) 36 = some (.iconst 0, 1, [0, 1]) := rfl
theorem t73_37 : q_tb (PP 73) 37 = some (.ireturn, 1, []) := rfl
theorem t73_38 : q_tb (PP 73) 38 = some (.iconst 0, 1, []) := rfl
theorem t73_39 : q_tb (PP 73) 39 = some (.istore_n 2, 1, []) := rfl
theorem t73_40 : q_tb (PP 73) 40 = some (.iload_n 2, 1, []) := rfl
theorem t73_41 : q_tb (PP 73) 41 = some (.bipush 24, 2, []) := rfl
theorem t73_43 : q_tb (PP 73) 43 = some (.if_icmp .ge 26, 3, []) := rfl
theorem t73_46 : q_tb (PP 73) 46 = some (.aload_n 0, 1, []) := rfl
theorem t73_47 : q_tb (PP 73) 47 = some (.getfield 43, 3, []) := rfl
theorem t73_50 : q_tb (PP 73) 50 = some (.iload_n 2, 1, []) := rfl
theorem t73_51 : q_tb (PP 73) 51 = some (.aload_n 0, 1, []) := rfl
theorem t73_52 : q_tb (PP 73) 52 = some (.getfield 46, 3, []) := rfl
theorem t73_55 : q_tb (PP 73) 55 = some (.bipush 24, 2, []) := rfl
theorem t73_57 : q_tb (PP 73) 57 = some (.iload_n 1, 1, []) := rfl
theorem t73_58 : q_tb (PP 73) 58 = some (.imul, 1, []) := rfl
theorem t73_59 : q_tb (PP 73) 59 = some (.iload_n 2, 1, []) := rfl
theorem t73_60 : q_tb (PP 73) 60 = some (.iadd, 1, []) := rfl
theorem t73_61 : q_tb (PP 73) 61 = some (.iaload, 1, []) := rfl
theorem t73_62 : q_tb (PP 73) 62 = some (.iastore, 1, []) := rfl
theorem t73_63 : q_tb (PP 73) 63 = some (.iinc 2 1, 3, []) := rfl
theorem t73_66 : q_tb (PP 73) 66 = some (.goto (-26), 3, []) := rfl
theorem t73_69 : q_tb (PP 73) 69 = some (.iconst 1, 1, []) := rfl
theorem t73_70 : q_tb (PP 73) 70 = some (.ireturn, 1, []) := rfl
theorem t74_0 : q_tb (PP 74) 0 = some (.aload_n 0, 1, []) := rfl
theorem t74_1 : q_tb (PP 74) 1 = some (.iconst 0, 1, []) := rfl
theorem t74_2 : q_tb (PP 74) 2 = some (.putfield 79, 3, []) := rfl
theorem t74_5 : q_tb (PP 74) 5 = some (.iconst 0, 1, []) := rfl
theorem t74_6 : q_tb (PP 74) 6 = some (.istore_n 2, 1, []) := rfl
theorem t74_7 : q_tb (PP 74) 7 = some (.iconst 0, 1, []) := rfl
theorem t74_8 : q_tb (PP 74) 8 = some (.istore_n 3, 1, []) := rfl
theorem t74_9 : q_tb (PP 74) 9 = some (.iload_n 3, 1, []) := rfl
theorem t74_10 : q_tb (PP 74) 10 = some (.iconst 4, 1, []) := rfl
theorem t74_11 : q_tb (PP 74) 11 = some (.if_icmp .ge 26, 3, []) := rfl
theorem t74_14 : q_tb (PP 74) 14 = some (.iload_n 2, 1, []) := rfl
theorem t74_15 : q_tb (PP 74) 15 = some (.aload_n 0, 1, []) := rfl
theorem t74_16 : q_tb (PP 74) 16 = some (.getfield 49, 3, []) := rfl
theorem t74_19 : q_tb (PP 74) 19 = some (.iload_n 3, 1, []) := rfl
theorem t74_20 : q_tb (PP 74) 20 = some (.baload, 1, []) := rfl
theorem t74_21 : q_tb (PP 74) 21 = some (.ifCond .eq 7, 3, []) := rfl
theorem t74_24 : q_tb (PP 74) 24 = some (.iconst 1, 1, []) := rfl
theorem t74_25 : q_tb (PP 74) 25 = some (.goto 4, 3, []) := rfl
theorem t74_28 : q_tb (PP 74) 28 = some (.iconst 0, 1, []) := rfl
theorem t74_29 : q_tb (PP 74) 29 = some (.iadd, 1, [2]) := rfl
theorem t74_30 : q_tb (PP 74) 30 = some (.istore_n 2, 1, []) := rfl
theorem t74_31 : q_tb (PP 74) 31 = some (.iinc 3 1, 3, []) := rfl
theorem t74_34 : q_tb (PP 74) 34 = some (.goto (-25), 3, []) := rfl
theorem t74_37 : q_tb (PP 74) 37 = some (.iload_n 1, 1, []) := rfl
theorem t74_38 : q_tb (PP 74) 38 = some (.bipush 10, 2, []) := rfl
theorem t74_40 : q_tb (PP 74) 40 = some (.if_icmp .lt 48, 3, []) := rfl
theorem t74_43 : q_tb (PP 74) 43 = some (.iload_n 1, 1, []) := rfl
theorem t74_44 : q_tb (PP 74) 44 = some (.bipush 30, 2, []) := rfl
theorem t74_46 : q_tb (PP 74) 46 = some (.if_icmp .ge 42, 3, []) := rfl
theorem t74_49 : q_tb (PP 74) 49 = some (.iload_n 1, 1, []) := rfl
theorem t74_50 : q_tb (PP 74) 50 = some (.bipush 10, 2, []) := rfl
theorem t74_52 : q_tb (PP 74) 52 = some (.irem, 1, []) := rfl
theorem t74_53 : q_tb (PP 74) 53 = some (.istore_n 3, 1, []) := rfl
theorem t74_54 : q_tb (PP 74) 54 = some (.aload_n 0, 1, []) := rfl
theorem t74_55 : q_tb (PP 74) 55 = some (.iload_n 3, 1, []) := rfl
theorem t74_56 : q_tb (PP 74) 56 = some (.invokevirtual 111, 3, []) := rfl
theorem t74_59 : q_tb (PP 74) 59 = some (.ifCond .ne 7, 3, []) := rfl
theorem t74_62 : q_tb (PP 74) 62 = some (.iconst (-1), 1, []) := rfl
theorem t74_63 : q_tb (PP 74) 63 = some (.goto 24, 3, []) := rfl
theorem t74_66 : q_tb (PP 74) 66 = some (.iload_n 1, 1, []) := rfl
theorem t74_67 : q_tb (PP 74) 67 = some (.bipush 20, 2, []) := rfl
theorem t74_69 : q_tb (PP 74) 69 = some (.if_icmp .ge 12, 3, []) := rfl
theorem t74_72 : q_tb (PP 74) 72 = some (.aload_n 0, 1, []) := rfl
theorem t74_73 : q_tb (PP 74) 73 = some (.getfield 37, 3, []) := rfl
theorem t74_76 : q_tb (PP 74) 76 = some (.iload_n 3, 1, []) := rfl
theorem t74_77 : q_tb (PP 74) 77 = some (.iaload, 1, []) := rfl
theorem t74_78 : q_tb (PP 74) 78 = some (.goto 9, 3, []) := rfl
theorem t74_81 : q_tb (PP 74) 81 = some (.aload_n 0, 1, []) := rfl
theorem t74_82 : q_tb (PP 74) 82 = some (.getfield 40, 3, []) := rfl
theorem t74_85 : q_tb (PP 74) 85 = some (.iload_n 3, 1, []) := rfl
theorem t74_86 : q_tb (PP 74) 86 = some (.iaload, 1, []) := rfl
theorem t74_87 : q_tb (PP 74) 87 = some (.ireturn, 1, [0, 1, 2, 3]) := rfl
theorem t74_88 : q_tb (PP 74) 88 = some (.iload_n 1, 1, [3]) := rfl
theorem t74_89 : q_tb (PP 74) 89 = some (.ifCond .ne 10, 3, []) := rfl
theorem t74_92 : q_tb (PP 74) 92 = some (.aload_n 0, 1, []) := rfl
theorem t74_93 : q_tb (PP 74) 93 = some (.getfield 82, 3, []) := rfl
theorem t74_96 : q_tb (PP 74) 96 = some (.goto 37, 3, []) := rfl
theorem t74_99 : q_tb (PP 74) 99 = some (.iload_n 1, 1, []) := rfl
theorem t74_100 : q_tb (PP 74) 100 = some (.iconst 1, 1, []) := rfl
theorem t74_101 : q_tb (PP 74) 101 = some (.if_icmp .ne 10, 3, []) := rfl
theorem t74_104 : q_tb (PP 74) 104 = some (.aload_n 0, 1, []) := rfl
theorem t74_105 : q_tb (PP 74) 105 = some (.getfield 76, 3, []) := rfl
theorem t74_108 : q_tb (PP 74) 108 = some (.goto 25, 3, []) := rfl
theorem t74_111 : q_tb (PP 74) 111 = some (.iload_n 1, 1, []) := rfl
theorem t74_112 : q_tb (PP 74) 112 = some (.iconst 2, 1, []) := rfl
theorem t74_113 : q_tb (PP 74) 113 = some (.if_icmp .ne 10, 3, []) := rfl
theorem t74_116 : q_tb (PP 74) 116 = some (.aload_n 0, 1, []) := rfl
theorem t74_117 : q_tb (PP 74) 117 = some (.getfield 56, 3, []) := rfl
theorem t74_120 : q_tb (PP 74) 120 = some (.goto 13, 3, []) := rfl
theorem t74_123 : q_tb (PP 74) 123 = some (.iload_n 1, 1, []) := rfl
theorem t74_124 : q_tb (PP 74) 124 = some (.iconst 3, 1, []) := rfl
theorem t74_125 : q_tb (PP 74) 125 = some (.if_icmp .ne 7, 3, []) := rfl
theorem t74_128 : q_tb (PP 74) 128 = some (.iload_n 2, 1, []) := rfl
theorem t74_129 : q_tb (PP 74) 129 = some (.goto 4, 3, []) := rfl
theorem t74_132 : q_tb (PP 74) 132 = some (.iconst (-1), 1, []) := rfl
theorem t74_133 : q_tb (PP 74) 133 = some (.ireturn, 1, [0, 1, 2, 3]) := rfl
theorem t75_0 : q_tb (PP 75) 0 = some (.aload_n 0, 1, []) := rfl
theorem t75_1 : q_tb (PP 75) 1 = some (.invokespecial 3, 3, []) := rfl
theorem t75_4 : q_tb (PP 75) 4 = some (.aload_n 0, 1, []) := rfl
theorem t75_5 : q_tb (PP 75) 5 = some (.new 9, 3, []) := rfl
theorem t75_8 : q_tb (PP 75) 8 = some (.dup, 1, []) := rfl
theorem t75_9 : q_tb (PP 75) 9 = some (.sipush 675, 3, []) := rfl
theorem t75_12 : q_tb (PP 75) 12 = some (.invokespecial 11, 3, []) := rfl
theorem t75_15 : q_tb (PP 75) 15 = some (.putfield 14, 3, []) := rfl
theorem t75_18 : q_tb (PP 75) 18 = some (.aload_n 0, 1, []) := rfl
theorem t75_19 : q_tb (PP 75) 19 = some (.bipush 25, 2, []) := rfl
theorem t75_21 : q_tb (PP 75) 21 = some (.newarray .int, 2, []) := rfl
theorem t75_23 : q_tb (PP 75) 23 = some (.putfield 20, 3, []) := rfl
theorem t75_26 : q_tb (PP 75) 26 = some (.aload_n 0, 1, []) := rfl
theorem t75_27 : q_tb (PP 75) 27 = some (.bipush 75, 2, []) := rfl
theorem t75_29 : q_tb (PP 75) 29 = some (.newarray .int, 2, []) := rfl
theorem t75_31 : q_tb (PP 75) 31 = some (.putfield 24, 3, []) := rfl
theorem t75_34 : q_tb (PP 75) 34 = some (.aload_n 0, 1, []) := rfl
theorem t75_35 : q_tb (PP 75) 35 = some (.iconst 0, 1, []) := rfl
theorem t75_36 : q_tb (PP 75) 36 = some (.putfield 27, 3, []) := rfl
theorem t75_39 : q_tb (PP 75) 39 = some (.return_, 1, []) := rfl
theorem t76_0 : q_tb (PP 76) 0 = some (.aload_n 0, 1, []) := rfl
theorem t76_1 : q_tb (PP 76) 1 = some (.getfield 14, 3, []) := rfl
theorem t76_4 : q_tb (PP 76) 4 = some (.invokevirtual 31, 3, []) := rfl
theorem t76_7 : q_tb (PP 76) 7 = some (.aload_n 0, 1, []) := rfl
theorem t76_8 : q_tb (PP 76) 8 = some (.iconst 1, 1, []) := rfl
theorem t76_9 : q_tb (PP 76) 9 = some (.putfield 27, 3, []) := rfl
theorem t76_12 : q_tb (PP 76) 12 = some (.iconst 0, 1, []) := rfl
theorem t76_13 : q_tb (PP 76) 13 = some (.istore_n 2, 1, []) := rfl
theorem t76_14 : q_tb (PP 76) 14 = some (.iconst 0, 1, []) := rfl
theorem t76_15 : q_tb (PP 76) 15 = some (.istore_n 3, 1, []) := rfl
theorem t76_16 : q_tb (PP 76) 16 = some (.iload_n 3, 1, [4]) := rfl
theorem t76_17 : q_tb (PP 76) 17 = some (.iconst 3, 1, []) := rfl
theorem t76_18 : q_tb (PP 76) 18 = some (.if_icmp .ge 39, 3, []) := rfl
theorem t76_21 : q_tb (PP 76) 21 = some (.aload_n 1, 1, []) := rfl
theorem t76_22 : q_tb (PP 76) 22 = some (.getfield 34, 3, []) := rfl
theorem t76_25 : q_tb (PP 76) 25 = some (.iload_n 3, 1, []) := rfl
theorem t76_26 : q_tb (PP 76) 26 = some (.aaload, 1, []) := rfl
theorem t76_27 : q_tb (PP 76) 27 = some (.invokevirtual 40, 3, []) := rfl
theorem t76_30 : q_tb (PP 76) 30 = some (.istore 4, 2, []) := rfl
theorem t76_32 : q_tb (PP 76) 32 = some (.aload_n 0, 1, []) := rfl
theorem t76_33 : q_tb (PP 76) 33 = some (.getfield 24, 3, []) := rfl
theorem t76_36 : q_tb (PP 76) 36 = some (.iload_n 3, 1, []) := rfl
theorem t76_37 : q_tb (PP 76) 37 = some (.iload 4, 2, []) := rfl
theorem t76_39 : q_tb (PP 76) 39 = some (.iconst 3, 1, []) := rfl
theorem t76_40 : q_tb (PP 76) 40 = some (.idiv, 1, []) := rfl
theorem t76_41 : q_tb (PP 76) 41 = some (.iastore, 1, []) := rfl
theorem t76_42 : q_tb (PP 76) 42 = some (.iload_n 2, 1, []) := rfl
theorem t76_43 : q_tb (PP 76) 43 = some (.iconst 3, 1, []) := rfl
theorem t76_44 : q_tb (PP 76) 44 = some (.imul, 1, []) := rfl
theorem t76_45 : q_tb (PP 76) 45 = some (.iload 4, 2, []) := rfl
theorem t76_47 : q_tb (PP 76) 47 = some (.iconst 3, 1, []) := rfl
theorem t76_48 : q_tb (PP 76) 48 = some (.irem, 1, []) := rfl
theorem t76_49 : q_tb (PP 76) 49 = some (.iadd, 1, []) := rfl
theorem t76_50 : q_tb (PP 76) 50 = some (.istore_n 2, 1, []) := rfl
theorem t76_51 : q_tb (PP 76) 51 = some (.iinc 3 1, 3, []) := rfl
theorem t76_54 : q_tb (PP 76) 54 = some (.goto (-38), 3, []) := rfl
theorem t76_57 : q_tb (PP 76) 57 = some (.aload_n 0, 1, []) := rfl
theorem t76_58 : q_tb (PP 76) 58 = some (.getfield 14, 3, []) := rfl
theorem t76_61 : q_tb (PP 76) 61 = some (.iload_n 2, 1, []) := rfl
theorem t76_62 : q_tb (PP 76) 62 = some (.lconst 0, 1, []) := rfl
theorem t76_63 : q_tb (PP 76) 63 = some (.lconst 0, 1, []) := rfl
theorem t76_64 : q_tb (PP 76) 64 = some (.invokevirtual 46, 3, []) := rfl
theorem t76_67 : q_tb (PP 76) 67 = some (.return_, 1, []) := rfl
theorem t77_0 : q_tb (PP 77) 0 = some (.aload_n 0, 1, []) := rfl
theorem t77_1 : q_tb (PP 77) 1 = some (.getfield 14, 3, []) := rfl
theorem t77_4 : q_tb (PP 77) 4 = some (.invokevirtual 31, 3, []) := rfl
theorem t77_7 : q_tb (PP 77) 7 = some (.aload_n 0, 1, []) := rfl
theorem t77_8 : q_tb (PP 77) 8 = some (.iconst 0, 1, []) := rfl
theorem t77_9 : q_tb (PP 77) 9 = some (.putfield 27, 3, []) := rfl
theorem t77_12 : q_tb (PP 77) 12 = some (.iconst 0, 1, []) := rfl
theorem t77_13 : q_tb (PP 77) 13 = some (.istore 4, 2, []) := rfl
theorem t77_15 : q_tb (PP 77) 15 = some (.iload 4, 2, []) := rfl
theorem t77_17 : q_tb (PP 77) 17 = some (.bipush 125, 2, []) := rfl
theorem t77_19 : q_tb (PP 77) 19 = some (.if_icmp .ge 35, 3, []) := rfl
theorem t77_22 : q_tb (PP 77) 22 = some (.aload_n 0, 1, []) := rfl
theorem t77_23 : q_tb (PP 77) 23 = some (.getfield 27, 3, []) := rfl
theorem t77_26 : q_tb (PP 77) 26 = some (.bipush 25, 2, []) := rfl
theorem t77_28 : q_tb (PP 77) 28 = some (.if_icmp .ge 26, 3, []) := rfl
theorem t77_31 : q_tb (PP 77) 31 = some (.aload_n 1, 1, []) := rfl
theorem t77_32 : q_tb (PP 77) 32 = some (.iload_n 2, 1, []) := rfl
theorem t77_33 : q_tb (PP 77) 33 = some (.iload_n 3, 1, []) := rfl
theorem t77_34 : q_tb (PP 77) 34 = some (.iload 4, 2, []) := rfl
theorem t77_36 : q_tb (PP 77) 36 = some (.invokestatic 50, 3, []) := rfl
theorem t77_39 : q_tb (PP 77) 39 = some (.ifCond .eq 9, 3, []) := rfl
theorem t77_42 : q_tb (PP 77) 42 = some (.aload_n 0, 1, []) := rfl
theorem t77_43 : q_tb (PP 77) 43 = some (.iload 4, 2, []) := rfl
theorem t77_45 : q_tb (PP 77) 45 = some (.invokevirtual 54, 3, []) := rfl
theorem t77_48 : q_tb (PP 77) 48 = some (.iinc 4 1, 3, []) := rfl
theorem t77_51 : q_tb (PP 77) 51 = some (.goto (-36), 3, []) := rfl
theorem t77_54 : q_tb (PP 77) 54 = some (.return_, 1, [0, 1, 2, 3, 4]) := rfl
theorem t78_0 : q_tb (PP 78) 0 = some (.aload_n 0, 1, []) := rfl
theorem t78_1 : q_tb (PP 78) 1 = some (.getfield 20, 3, []) := rfl
theorem t78_4 : q_tb (PP 78) 4 = some (.aload_n 0, 1, []) := rfl
theorem t78_5 : q_tb (PP 78) 5 = some (.getfield 27, 3, []) := rfl
theorem t78_8 : q_tb (PP 78) 8 = some (.iload_n 1, 1, []) := rfl
theorem t78_9 : q_tb (PP 78) 9 = some (.iastore, 1, []) := rfl
theorem t78_10 : q_tb (PP 78) 10 = some (.iconst 0, 1, []) := rfl
theorem t78_11 : q_tb (PP 78) 11 = some (.istore_n 2, 1, []) := rfl
theorem t78_12 : q_tb (PP 78) 12 = some (.iload_n 2, 1, []) := rfl
theorem t78_13 : q_tb (PP 78) 13 = some (.iconst 3, 1, []) := rfl
theorem t78_14 : q_tb (PP 78) 14 = some (.if_icmp .ge 27, 3, []) := rfl
theorem t78_17 : q_tb (PP 78) 17 = some (.aload_n 0, 1, []) := rfl
theorem t78_18 : q_tb (PP 78) 18 = some (.getfield 24, 3, []) := rfl
theorem t78_21 : q_tb (PP 78) 21 = some (.aload_n 0, 1, []) := rfl
theorem t78_22 : q_tb (PP 78) 22 = some (.getfield 27, 3, []) := rfl
theorem t78_25 : q_tb (PP 78) 25 = some (.iconst 3, 1, []) := rfl
theorem t78_26 : q_tb (PP 78) 26 = some (.imul, 1, []) := rfl
theorem t78_27 : q_tb (PP 78) 27 = some (.iload_n 2, 1, []) := rfl
theorem t78_28 : q_tb (PP 78) 28 = some (.iadd, 1, []) := rfl
theorem t78_29 : q_tb (PP 78) 29 = some (.iload_n 1, 1, []) := rfl
theorem t78_30 : q_tb (PP 78) 30 = some (.iload_n 2, 1, []) := rfl
theorem t78_31 : q_tb (PP 78) 31 = some (.invokestatic 57, 3, []) := rfl
theorem t78_34 : q_tb (PP 78) 34 = some (.iastore, 1, []) := rfl
theorem t78_35 : q_tb (PP 78) 35 = some (.iinc 2 1, 3, []) := rfl
theorem t78_38 : q_tb (PP 78) 38 = some (.goto (-26), 3, []) := rfl
theorem t78_41 : q_tb (PP 78) 41 = some (.aload_n 0, 1, []) := rfl
theorem t78_42 : q_tb (PP 78) 42 = some (.dup, 1, []) := rfl
theorem t78_43 : q_tb (PP 78) 43 = some (.getfield 27, 3, []) := rfl
theorem t78_46 : q_tb (PP 78) 46 = some (.iconst 1, 1, []) := rfl
theorem t78_47 : q_tb (PP 78) 47 = some (.iadd, 1, []) := rfl
theorem t78_48 : q_tb (PP 78) 48 = some (.putfield 27, 3, []) := rfl
theorem t78_51 : q_tb (PP 78) 51 = some (.return_, 1, []) := rfl
theorem t79_0 : q_tb (PP 79) 0 = some (.iconst 0, 1, []) := rfl
theorem t79_1 : q_tb (PP 79) 1 = some (.istore 4, 2, []) := rfl
theorem t79_3 : q_tb (PP 79) 3 = some (.iconst 0, 1, []) := rfl
theorem t79_4 : q_tb (PP 79) 4 = some (.istore 5, 2, []) := rfl
theorem t79_6 : q_tb (PP 79) 6 = some (.iconst 0, 1, []) := rfl
theorem t79_7 : q_tb (PP 79) 7 = some (.istore 6, 2, []) := rfl
theorem t79_9 : q_tb (PP 79) 9 = some (.iconst 0, 1, []) := rfl
theorem t79_10 : q_tb (PP 79) 10 = some (.istore 7, 2, []) := rfl
theorem t79_12 : q_tb (PP 79) 12 = some (.iload 7, 2, [8, 9]) := rfl
theorem t79_14 : q_tb (PP 79) 14 = some (.iconst 3, 1, []) := rfl
theorem t79_15 : q_tb (PP 79) 15 = some (.if_icmp .ge 87, 3, []) := rfl
theorem t79_18 : q_tb (PP 79) 18 = some (.aload_n 0, 1, []) := rfl
theorem t79_19 : q_tb (PP 79) 19 = some (.getfield 34, 3, []) := rfl
theorem t79_22 : q_tb (PP 79) 22 = some (.iload 7, 2, []) := rfl
theorem t79_24 : q_tb (PP 79) 24 = some (.aaload, 1, []) := rfl
theorem t79_25 : q_tb (PP 79) 25 = some (.astore 8, 2, []) := rfl
theorem t79_27 : q_tb (PP 79) 27 = some (.iload_n 3, 1, []) := rfl
theorem t79_28 : q_tb (PP 79) 28 = some (.iload 7, 2, []) := rfl
theorem t79_30 : q_tb (PP 79) 30 = some (.invokestatic 57, 3, []) := rfl
theorem t79_33 : q_tb (PP 79) 33 = some (.istore 9, 2, []) := rfl
theorem t79_35 : q_tb (PP 79) 35 = some (.aload 8, 2, []) := rfl
theorem t79_37 : q_tb (PP 79) 37 = some (.iload 9, 2, []) := rfl
theorem t79_39 : q_tb (PP 79) 39 = some (.invokevirtual 61, 3, []) := rfl
theorem t79_42 : q_tb (PP 79) 42 = some (.ifCond .ne 5, 3, []) := rfl
theorem t79_45 : q_tb (PP 79) 45 = some (.iconst 0, 1, []) := rfl
theorem t79_46 : q_tb (PP 79) 46 = some (.ireturn, 1, []) := rfl
theorem t79_47 : q_tb (PP 79) 47 = some (.iload 4, 2, []) := rfl
theorem t79_49 : q_tb (PP 79) 49 = some (.aload 8, 2, []) := rfl
theorem t79_51 : q_tb (PP 79) 51 = some (.iload 9, 2, []) := rfl
theorem t79_53 : q_tb (PP 79) 53 = some (.invokevirtual 65, 3, []) := rfl
theorem t79_56 : q_tb (PP 79) 56 = some (.iadd, 1, []) := rfl
theorem t79_57 : q_tb (PP 79) 57 = some (.istore 4, 2, []) := rfl
theorem t79_59 : q_tb (PP 79) 59 = some (.iload 5, 2, []) := rfl
theorem t79_61 : q_tb (PP 79) 61 = some (.iload 9, 2, []) := rfl
theorem t79_63 : q_tb (PP 79) 63 = some (.ifCond .ne 7, 3, []) := rfl
theorem t79_66 : q_tb (PP 79) 66 = some (.iconst 0, 1, []) := rfl
theorem t79_67 : q_tb (PP 79) 67 = some (.goto 8, 3, []) := rfl
theorem t79_70 : q_tb (PP 79) 70 = some (.aload 8, 2, []) := rfl
theorem t79_72 : q_tb (PP 79) 72 = some (.getfield 69, 3, []) := rfl
theorem t79_75 : q_tb (PP 79) 75 = some (.iadd, 1, [5, 8]) := rfl
theorem t79_76 : q_tb (PP 79) 76 = some (.istore 5, 2, []) := rfl
theorem t79_78 : q_tb (PP 79) 78 = some (.iload 6, 2, []) := rfl
theorem t79_80 : q_tb (PP 79) 80 = some (.iload 9, 2, []) := rfl
theorem t79_82 : q_tb (PP 79) 82 = some (.ifCond .ne 7, 3, []) := rfl
theorem t79_85 : q_tb (PP 79) 85 = some (.iconst 0, 1, []) := rfl
theorem t79_86 : q_tb (PP 79) 86 = some (.goto 7, 3, []) := rfl
theorem t79_89 : q_tb (PP 79) 89 = some (.iconst 1, 1, []) := rfl
theorem t79_90 : q_tb (PP 79) 90 = some (.iload 7, 2, []) := rfl
theorem t79_92 : q_tb (PP 79) 92 = some (.ishl, 1, []) := rfl
theorem t79_93 : q_tb (PP 79) 93 = some (.ior, 1, [6, 8, 9]) := rfl
theorem t79_94 : q_tb (PP 79) 94 = some (.istore 6, 2, []) := rfl
theorem t79_96 : q_tb (PP 79) 96 = some (.iinc 7 1, 3, []) := rfl
theorem t79_99 : q_tb (PP 79) 99 = some (.goto (-87), 3, []) := rfl
theorem t79_102 : q_tb (PP 79) 102 = some (.iload_n 2, 1, []) := rfl
theorem t79_103 : q_tb (PP 79) 103 = some (.iconst (-1), 1, []) := rfl
theorem t79_104 : q_tb (PP 79) 104 = some (.if_icmp .eq 9, 3, []) := rfl
theorem t79_107 : q_tb (PP 79) 107 = some (.iload_n 2, 1, []) := rfl
theorem t79_108 : q_tb (PP 79) 108 = some (.iload 6, 2, []) := rfl
theorem t79_110 : q_tb (PP 79) 110 = some (.if_icmp .ne 32, 3, []) := rfl
theorem t79_113 : q_tb (PP 79) 113 = some (.iload 4, 2, [2, 3, 6, 7, 8, 9]) := rfl
theorem t79_115 : q_tb (PP 79) 115 = some (.aload_n 0, 1, []) := rfl
theorem t79_116 : q_tb (PP 79) 116 = some (.getfield 72, 3, []) := rfl
theorem t79_119 : q_tb (PP 79) 119 = some (.iload_n 1, 1, []) := rfl
theorem t79_120 : q_tb (PP 79) 120 = some (.iaload, 1, []) := rfl
theorem t79_121 : q_tb (PP 79) 121 = some (.if_icmp .ne 21, 3, []) := rfl
theorem t79_124 : q_tb (PP 79) 124 = some (.iload 5, 2, []) := rfl
theorem t79_126 : q_tb (PP 79) 126 = some (.iload 4, 2, []) := rfl
theorem t79_128 : q_tb (PP 79) 128 = some (.isub, 1, []) := rfl
theorem t79_129 : q_tb (PP 79) 129 = some (.aload_n 0, 1, []) := rfl
theorem t79_130 : q_tb (PP 79) 130 = some (.getfield 75, 3, []) := rfl
theorem t79_133 : q_tb (PP 79) 133 = some (.iload_n 1, 1, []) := rfl
theorem t79_134 : q_tb (PP 79) 134 = some (.iaload, 1, []) := rfl
theorem t79_135 : q_tb (PP 79) 135 = some (.if_icmp .lt 7, 3, []) := rfl
theorem t79_138 : q_tb (PP 79) 138 = some (.iconst 1, 1, []) := rfl
theorem t79_139 : q_tb (PP 79) 139 = some (.goto 4, 3, []) := rfl
theorem t79_142 : q_tb (PP 79) 142 = some (.iconst 0, 1, [0, 1, 2, 3, 4, 5, 6, 7, 8, 9]) := rfl
theorem t79_143 : q_tb (PP 79) 143 = some (.ireturn, 1, [0, 1, 2, 3, 4, 5, 6, 7, 8, 9]) := rfl
theorem t80_0 : q_tb (PP 80) 0 = some (.iload_n 0, 1, []) := rfl
theorem t80_1 : q_tb (PP 80) 1 = some (.getstatic 78, 3, []) := rfl
theorem t80_4 : q_tb (PP 80) 4 = some (.iload_n 1, 1, []) := rfl
theorem t80_5 : q_tb (PP 80) 5 = some (.iaload, 1, []) := rfl
theorem t80_6 : q_tb (PP 80) 6 = some (.idiv, 1, []) := rfl
theorem t80_7 : q_tb (PP 80) 7 = some (.iconst 5, 1, []) := rfl
theorem t80_8 : q_tb (PP 80) 8 = some (.irem, 1, []) := rfl
theorem t80_9 : q_tb (PP 80) 9 = some (.ireturn, 1, []) := rfl
theorem t81_0 : q_tb (PP 81) 0 = some (.aload_n 0, 1, []) := rfl
theorem t81_1 : q_tb (PP 81) 1 = some (.invokespecial 3, 3, []) := rfl
theorem t81_4 : q_tb (PP 81) 4 = some (.aload_n 0, 1, []) := rfl
theorem t81_5 : q_tb (PP 81) 5 = some (.iload_n 1, 1, []) := rfl
theorem t81_6 : q_tb (PP 81) 6 = some (.newarray .long, 2, []) := rfl
theorem t81_8 : q_tb (PP 81) 8 = some (.putfield 9, 3, []) := rfl
theorem t81_11 : q_tb (PP 81) 11 = some (.aload_n 0, 1, []) := rfl
theorem t81_12 : q_tb (PP 81) 12 = some (.iload_n 1, 1, []) := rfl
theorem t81_13 : q_tb (PP 81) 13 = some (.newarray .long, 2, []) := rfl
theorem t81_15 : q_tb (PP 81) 15 = some (.putfield 15, 3, []) := rfl
theorem t81_18 : q_tb (PP 81) 18 = some (.return_, 1, []) := rfl
theorem t82_0 : q_tb (PP 82) 0 = some (.aload_n 0, 1, []) := rfl
theorem t82_1 : q_tb (PP 82) 1 = some (.getfield 15, 3, []) := rfl
theorem t82_4 : q_tb (PP 82) 4 = some (.ldc2_w 18, 3, []) := rfl
theorem t82_7 : q_tb (PP 82) 7 = some (.invokestatic 20, 3, []) := rfl
theorem t82_10 : q_tb (PP 82) 10 = some (.return_, 1, []) := rfl
theorem t83_0 : q_tb (PP 83) 0 = some (.aload_n 0, 1, []) := rfl
theorem t83_1 : q_tb (PP 83) 1 = some (.getfield 15, 3, []) := rfl
theorem t83_4 : q_tb (PP 83) 4 = some (.iload_n 1, 1, []) := rfl
theorem t83_5 : q_tb (PP 83) 5 = some (.laload, 1, []) := rfl
theorem t83_6 : q_tb (PP 83) 6 = some (.ldc2_w 18, 3, []) := rfl
theorem t83_9 : q_tb (PP 83) 9 = some (.lcmp, 1, []) := rfl
theorem t83_10 : q_tb (PP 83) 10 = some (.ifCond .eq 7, 3, []) := rfl
theorem t83_13 : q_tb (PP 83) 13 = some (.iconst 1, 1, []) := rfl
theorem t83_14 : q_tb (PP 83) 14 = some (.goto 4, 3, []) := rfl
theorem t83_17 : q_tb (PP 83) 17 = some (.iconst 0, 1, []) := rfl
theorem t83_18 : q_tb (PP 83) 18 = some (.ireturn, 1, [0, 1]) := rfl
theorem t84_0 : q_tb (PP 84) 0 = some (.aload_n 0, 1, []) := rfl
theorem t84_1 : q_tb (PP 84) 1 = some (.getfield 15, 3, []) := rfl
theorem t84_4 : q_tb (PP 84) 4 = some (.iload_n 1, 1, []) := rfl
theorem t84_5 : q_tb (PP 84) 5 = some (.laload, 1, []) := rfl
theorem t84_6 : q_tb (PP 84) 6 = some (.ldc2_w 18, 3, []) := rfl
theorem t84_9 : q_tb (PP 84) 9 = some (.lcmp, 1, []) := rfl
theorem t84_10 : q_tb (PP 84) 10 = some (.ifCond .eq 37, 3, []) := rfl
theorem t84_13 : q_tb (PP 84) 13 = some (.lload_n 2, 1, []) := rfl
theorem t84_14 : q_tb (PP 84) 14 = some (.aload_n 0, 1, []) := rfl
theorem t84_15 : q_tb (PP 84) 15 = some (.getfield 9, 3, []) := rfl
theorem t84_18 : q_tb (PP 84) 18 = some (.iload_n 1, 1, []) := rfl
theorem t84_19 : q_tb (PP 84) 19 = some (.laload, 1, []) := rfl
theorem t84_20 : q_tb (PP 84) 20 = some (.lcmp, 1, []) := rfl
theorem t84_21 : q_tb (PP 84) 21 = some (.ifCond .lt 26, 3, []) := rfl
theorem t84_24 : q_tb (PP 84) 24 = some (.lload_n 2, 1, []) := rfl
theorem t84_25 : q_tb (PP 84) 25 = some (.aload_n 0, 1, []) := rfl
theorem t84_26 : q_tb (PP 84) 26 = some (.getfield 9, 3, []) := rfl
theorem t84_29 : q_tb (PP 84) 29 = some (.iload_n 1, 1, []) := rfl
theorem t84_30 : q_tb (PP 84) 30 = some (.laload, 1, []) := rfl
theorem t84_31 : q_tb (PP 84) 31 = some (.lcmp, 1, []) := rfl
theorem t84_32 : q_tb (PP 84) 32 = some (.ifCond .ne 30, 3, []) := rfl
theorem t84_35 : q_tb (PP 84) 35 = some (.lload 4, 2, []) := rfl
theorem t84_37 : q_tb (PP 84) 37 = some (.aload_n 0, 1, []) := rfl
theorem t84_38 : q_tb (PP 84) 38 = some (.getfield 15, 3, []) := rfl
theorem t84_41 : q_tb (PP 84) 41 = some (.iload_n 1, 1, []) := rfl
theorem t84_42 : q_tb (PP 84) 42 = some (.laload, 1, []) := rfl
theorem t84_43 : q_tb (PP 84) 43 = some (.lcmp, 1, []) := rfl
theorem t84_44 : q_tb (PP 84) 44 = some (.ifCond .ge 18, 3, []) := rfl
theorem t84_47 : q_tb (PP 84) 47 = some (.aload_n 0, 1, []) := rfl
theorem t84_48 : q_tb (PP 84) 48 = some (.getfield 9, 3, []) := rfl
theorem t84_51 : q_tb (PP 84) 51 = some (.iload_n 1, 1, []) := rfl
theorem t84_52 : q_tb (PP 84) 52 = some (.lload_n 2, 1, []) := rfl
theorem t84_53 : q_tb (PP 84) 53 = some (.lastore, 1, []) := rfl
theorem t84_54 : q_tb (PP 84) 54 = some (.aload_n 0, 1, []) := rfl
theorem t84_55 : q_tb (PP 84) 55 = some (.getfield 15, 3, []) := rfl
theorem t84_58 : q_tb (PP 84) 58 = some (.iload_n 1, 1, []) := rfl
theorem t84_59 : q_tb (PP 84) 59 = some (.lload 4, 2, []) := rfl
theorem t84_61 : q_tb (PP 84) 61 = some (.lastore, 1, []) := rfl
theorem t84_62 : q_tb (PP 84) 62 = some (.return_, 1, [0, 1, 2, 4]) := rfl
theorem t85_0 : q_tb (PP 85) 0 = some (.aload_n 0, 1, []) := rfl
theorem t85_1 : q_tb (PP 85) 1 = some (.invokevirtual 26, 3, []) := rfl
theorem t85_4 : q_tb (PP 85) 4 = some (.iconst 0, 1, []) := rfl
theorem t85_5 : q_tb (PP 85) 5 = some (.istore_n 2, 1, []) := rfl
theorem t85_6 : q_tb (PP 85) 6 = some (.iload_n 2, 1, []) := rfl
theorem t85_7 : q_tb (PP 85) 7 = some (.aload_n 1, 1, []) := rfl
theorem t85_8 : q_tb (PP 85) 8 = some (.getfield 15, 3, []) := rfl
theorem t85_11 : q_tb (PP 85) 11 = some (.arraylength, 1, []) := rfl
theorem t85_12 : q_tb (PP 85) 12 = some (.if_icmp .ge 34, 3, []) := rfl
theorem t85_15 : q_tb (PP 85) 15 = some (.aload_n 1, 1, []) := rfl
theorem t85_16 : q_tb (PP 85) 16 = some (.iload_n 2, 1, []) := rfl
theorem t85_17 : q_tb (PP 85) 17 = some (.invokevirtual 29, 3, []) := rfl
theorem t85_20 : q_tb (PP 85) 20 = some (.ifCond .eq 20, 3, []) := rfl
theorem t85_23 : q_tb (PP 85) 23 = some (.aload_n 0, 1, []) := rfl
theorem t85_24 : q_tb (PP 85) 24 = some (.iconst 0, 1, []) := rfl
theorem t85_25 : q_tb (PP 85) 25 = some (.aload_n 1, 1, []) := rfl
theorem t85_26 : q_tb (PP 85) 26 = some (.getfield 9, 3, []) := rfl
theorem t85_29 : q_tb (PP 85) 29 = some (.iload_n 2, 1, []) := rfl
theorem t85_30 : q_tb (PP 85) 30 = some (.laload, 1, []) := rfl
theorem t85_31 : q_tb (PP 85) 31 = some (.aload_n 1, 1, []) := rfl
theorem t85_32 : q_tb (PP 85) 32 = some (.getfield 15, 3, []) := rfl
theorem t85_35 : q_tb (PP 85) 35 = some (.iload_n 2, 1, []) := rfl
theorem t85_36 : q_tb (PP 85) 36 = some (.laload, 1, []) := rfl
theorem t85_37 : q_tb (PP 85) 37 = some (.invokevirtual 33, 3, []) := rfl
theorem t85_40 : q_tb (PP 85) 40 = some (.iinc 2 1, 3, []) := rfl
theorem t85_43 : q_tb (PP 85) 43 = some (.goto (-37), 3, []) := rfl
theorem t85_46 : q_tb (PP 85) 46 = some (.return_, 1, []) := rfl
theorem t86_0 : q_tb (PP 86) 0 = some (.aload_n 0, 1, []) := rfl
theorem t86_1 : q_tb (PP 86) 1 = some (.invokespecial 3, 3, []) := rfl
theorem t86_4 : q_tb (PP 86) 4 = some (.aload_n 0, 1, []) := rfl
theorem t86_5 : q_tb (PP 86) 5 = some (.bipush 8, 2, []) := rfl
theorem t86_7 : q_tb (PP 86) 7 = some (.newarray .int, 2, []) := rfl
theorem t86_9 : q_tb (PP 86) 9 = some (.putfield 9, 3, []) := rfl
theorem t86_12 : q_tb (PP 86) 12 = some (.aload_n 0, 1, []) := rfl
theorem t86_13 : q_tb (PP 86) 13 = some (.iconst 3, 1, []) := rfl
theorem t86_14 : q_tb (PP 86) 14 = some (.newarray .long, 2, []) := rfl
theorem t86_16 : q_tb (PP 86) 16 = some (.putfield 15, 3, []) := rfl
theorem t86_19 : q_tb (PP 86) 19 = some (.aload_n 0, 1, []) := rfl
theorem t86_20 : q_tb (PP 86) 20 = some (.bipush 24, 2, []) := rfl
theorem t86_22 : q_tb (PP 86) 22 = some (.newarray .int, 2, []) := rfl
theorem t86_24 : q_tb (PP 86) 24 = some (.putfield 19, 3, []) := rfl
theorem t86_27 : q_tb (PP 86) 27 = some (.aload_n 0, 1, []) := rfl
theorem t86_28 : q_tb (PP 86) 28 = some (.new 22, 3, []) := rfl
theorem t86_31 : q_tb (PP 86) 31 = some (.dup, 1, []) := rfl
theorem t86_32 : q_tb (PP 86) 32 = some (.bipush 15, 2, []) := rfl
theorem t86_34 : q_tb (PP 86) 34 = some (.invokespecial 24, 3, []) := rfl
theorem t86_37 : q_tb (PP 86) 37 = some (.putfield 27, 3, []) := rfl
theorem t86_40 : q_tb (PP 86) 40 = some (.aload_n 0, 1, []) := rfl
theorem t86_41 : q_tb (PP 86) 41 = some (.new 22, 3, []) := rfl
theorem t86_44 : q_tb (PP 86) 44 = some (.dup, 1, []) := rfl
theorem t86_45 : q_tb (PP 86) 45 = some (.bipush 15, 2, []) := rfl
theorem t86_47 : q_tb (PP 86) 47 = some (.invokespecial 24, 3, []) := rfl
theorem t86_50 : q_tb (PP 86) 50 = some (.putfield 31, 3, []) := rfl
theorem t86_53 : q_tb (PP 86) 53 = some (.aload_n 0, 1, []) := rfl
theorem t86_54 : q_tb (PP 86) 54 = some (.bipush 64, 2, []) := rfl
theorem t86_56 : q_tb (PP 86) 56 = some (.putfield 34, 3, []) := rfl
theorem t86_59 : q_tb (PP 86) 59 = some (.aload_n 0, 1, []) := rfl
theorem t86_60 : q_tb (PP 86) 60 = some (.lconst 0, 1, []) := rfl
theorem t86_61 : q_tb (PP 86) 61 = some (.putfield 38, 3, []) := rfl
theorem t86_64 : q_tb (PP 86) 64 = some (.aload_n 0, 1, []) := rfl
theorem t86_65 : q_tb (PP 86) 65 = some (.iconst 0, 1, []) := rfl
theorem t86_66 : q_tb (PP 86) 66 = some (.putfield 42, 3, []) := rfl
theorem t86_69 : q_tb (PP 86) 69 = some (.return_, 1, []) := rfl
theorem t87_0 : q_tb (PP 87) 0 = some (.aload_n 0, 1, []) := rfl
theorem t87_1 : q_tb (PP 87) 1 = some (.bipush 64, 2, []) := rfl
theorem t87_3 : q_tb (PP 87) 3 = some (.putfield 34, 3, []) := rfl
theorem t87_6 : q_tb (PP 87) 6 = some (.aload_n 0, 1, []) := rfl
theorem t87_7 : q_tb (PP 87) 7 = some (.iconst 0, 1, []) := rfl
theorem t87_8 : q_tb (PP 87) 8 = some (.putfield 42, 3, []) := rfl
theorem t87_11 : q_tb (PP 87) 11 = some (.return_, 1, []) := rfl
theorem t88_0 : q_tb (PP 88) 0 = some (.aload_n 0, 1, []) := rfl
theorem t88_1 : q_tb (PP 88) 1 = some (.getfield 42, 3, []) := rfl
theorem t88_4 : q_tb (PP 88) 4 = some (.ifCond .ne 22, 3, []) := rfl
theorem t88_7 : q_tb (PP 88) 7 = some (.aload_n 0, 1, []) := rfl
theorem t88_8 : q_tb (PP 88) 8 = some (.aload_n 1, 1, []) := rfl
theorem t88_9 : q_tb (PP 88) 9 = some (.invokevirtual 46, 3, []) := rfl
theorem t88_12 : q_tb (PP 88) 12 = some (.aload_n 0, 1, []) := rfl
theorem t88_13 : q_tb (PP 88) 13 = some (.aload_n 0, 1, []) := rfl
theorem t88_14 : q_tb (PP 88) 14 = some (.aload_n 1, 1, []) := rfl
theorem t88_15 : q_tb (PP 88) 15 = some (.invokevirtual 50, 3, []) := rfl
theorem t88_18 : q_tb (PP 88) 18 = some (.putfield 38, 3, []) := rfl
theorem t88_21 : q_tb (PP 88) 21 = some (.aload_n 0, 1, []) := rfl
theorem t88_22 : q_tb (PP 88) 22 = some (.iconst 1, 1, []) := rfl
theorem t88_23 : q_tb (PP 88) 23 = some (.putfield 42, 3, []) := rfl
theorem t88_26 : q_tb (PP 88) 26 = some (.return_, 1, [0, 1]) := rfl
theorem t89_0 : q_tb (PP 89) 0 = some (.lconst 0, 1, []) := rfl
theorem t89_1 : q_tb (PP 89) 1 = some (.lstore_n 2, 1, []) := rfl
theorem t89_2 : q_tb (PP 89) 2 = some (.iconst 0, 1, []) := rfl
theorem t89_3 : q_tb (PP 89) 3 = some (.istore 4, 2, []) := rfl
theorem t89_5 : q_tb (PP 89) 5 = some (.iload 4, 2, [3]) := rfl
theorem t89_7 : q_tb (PP 89) 7 = some (.aload_n 1, 1, []) := rfl
theorem t89_8 : q_tb (PP 89) 8 = some (.getfield 54, 3, []) := rfl
theorem t89_11 : q_tb (PP 89) 11 = some (.if_icmp .ge 29, 3, []) := rfl
theorem t89_14 : q_tb (PP 89) 14 = some (.lload_n 2, 1, []) := rfl
theorem t89_15 : q_tb (PP 89) 15 = some (.aload_n 1, 1, []) := rfl
theorem t89_16 : q_tb (PP 89) 16 = some (.getfield 59, 3, []) := rfl
theorem t89_19 : q_tb (PP 89) 19 = some (.iload 4, 2, []) := rfl
theorem t89_21 : q_tb (PP 89) 21 = some (.iaload, 1, []) := rfl
theorem t89_22 : q_tb (PP 89) 22 = some (.i2l, 1, []) := rfl
theorem t89_23 : q_tb (PP 89) 23 = some (.aload_n 0, 1, []) := rfl
theorem t89_24 : q_tb (PP 89) 24 = some (.getfield 9, 3, []) := rfl
theorem t89_27 : q_tb (PP 89) 27 = some (.iload 4, 2, []) := rfl
theorem t89_29 : q_tb (PP 89) 29 = some (.iaload, 1, []) := rfl
theorem t89_30 : q_tb (PP 89) 30 = some (.i2l, 1, []) := rfl
theorem t89_31 : q_tb (PP 89) 31 = some (.lmul, 1, []) := rfl
theorem t89_32 : q_tb (PP 89) 32 = some (.ladd, 1, []) := rfl
theorem t89_33 : q_tb (PP 89) 33 = some (.lstore_n 2, 1, []) := rfl
theorem t89_34 : q_tb (PP 89) 34 = some (.iinc 4 1, 3, []) := rfl
theorem t89_37 : q_tb (PP 89) 37 = some (.goto (-32), 3, []) := rfl
theorem t89_40 : q_tb (PP 89) 40 = some (.iconst 0, 1, []) := rfl
theorem t89_41 : q_tb (PP 89) 41 = some (.istore 4, 2, []) := rfl
theorem t89_43 : q_tb (PP 89) 43 = some (.iload 4, 2, [3]) := rfl
theorem t89_45 : q_tb (PP 89) 45 = some (.aload_n 1, 1, []) := rfl
theorem t89_46 : q_tb (PP 89) 46 = some (.getfield 62, 3, []) := rfl
theorem t89_49 : q_tb (PP 89) 49 = some (.if_icmp .ge 19, 3, []) := rfl
theorem t89_52 : q_tb (PP 89) 52 = some (.lload_n 2, 1, []) := rfl
theorem t89_53 : q_tb (PP 89) 53 = some (.aload_n 0, 1, []) := rfl
theorem t89_54 : q_tb (PP 89) 54 = some (.getfield 15, 3, []) := rfl
theorem t89_57 : q_tb (PP 89) 57 = some (.iload 4, 2, []) := rfl
theorem t89_59 : q_tb (PP 89) 59 = some (.laload, 1, []) := rfl
theorem t89_60 : q_tb (PP 89) 60 = some (.ladd, 1, []) := rfl
theorem t89_61 : q_tb (PP 89) 61 = some (.lstore_n 2, 1, []) := rfl
theorem t89_62 : q_tb (PP 89) 62 = some (.iinc 4 1, 3, []) := rfl
theorem t89_65 : q_tb (PP 89) 65 = some (.goto (-22), 3, []) := rfl
theorem t89_68 : q_tb (PP 89) 68 = some (.lload_n 2, 1, []) := rfl
theorem t89_69 : q_tb (PP 89) 69 = some (.lreturn, 1, []) := rfl
theorem t90_0 : q_tb (PP 90) 0 = some (.iconst 0, 1, []) := rfl
theorem t90_1 : q_tb (PP 90) 1 = some (.istore_n 2, 1, []) := rfl
theorem t90_2 : q_tb (PP 90) 2 = some (.iload_n 2, 1, [3, 4]) := rfl
theorem t90_3 : q_tb (PP 90) 3 = some (.aload_n 1, 1, []) := rfl
theorem t90_4 : q_tb (PP 90) 4 = some (.getfield 54, 3, []) := rfl
theorem t90_7 : q_tb (PP 90) 7 = some (.if_icmp .ge 58, 3, []) := rfl
theorem t90_10 : q_tb (PP 90) 10 = some (.aload_n 1, 1, []) := rfl
theorem t90_11 : q_tb (PP 90) 11 = some (.getfield 59, 3, []) := rfl
theorem t90_14 : q_tb (PP 90) 14 = some (.iload_n 2, 1, []) := rfl
theorem t90_15 : q_tb (PP 90) 15 = some (.iaload, 1, []) := rfl
theorem t90_16 : q_tb (PP 90) 16 = some (.aload_n 0, 1, []) := rfl
theorem t90_17 : q_tb (PP 90) 17 = some (.aload_n 1, 1, []) := rfl
theorem t90_18 : q_tb (PP 90) 18 = some (.iload_n 2, 1, []) := rfl
theorem t90_19 : q_tb (PP 90) 19 = some (.invokevirtual 65, 3, []) := rfl
theorem t90_22 : q_tb (PP 90) 22 = some (.invokestatic 69, 3, []) := rfl
theorem t90_25 : q_tb (PP 90) 25 = some (.istore_n 3, 1, []) := rfl
theorem t90_26 : q_tb (PP 90) 26 = some (.aload_n 0, 1, []) := rfl
theorem t90_27 : q_tb (PP 90) 27 = some (.getfield 9, 3, []) := rfl
theorem t90_30 : q_tb (PP 90) 30 = some (.iload_n 2, 1, []) := rfl
theorem t90_31 : q_tb (PP 90) 31 = some (.iaload, 1, []) := rfl
theorem t90_32 : q_tb (PP 90) 32 = some (.iload_n 3, 1, []) := rfl
theorem t90_33 : q_tb (PP 90) 33 = some (.aload_n 0, 1, []) := rfl
theorem t90_34 : q_tb (PP 90) 34 = some (.getfield 34, 3, []) := rfl
theorem t90_37 : q_tb (PP 90) 37 = some (.imul, 1, []) := rfl
theorem t90_38 : q_tb (PP 90) 38 = some (.iadd, 1, []) := rfl
theorem t90_39 : q_tb (PP 90) 39 = some (.istore 4, 2, []) := rfl
theorem t90_41 : q_tb (PP 90) 41 = some (.aload_n 0, 1, []) := rfl
theorem t90_42 : q_tb (PP 90) 42 = some (.getfield 9, 3, []) := rfl
theorem t90_45 : q_tb (PP 90) 45 = some (.iload_n 2, 1, []) := rfl
theorem t90_46 : q_tb (PP 90) 46 = some (.ldc 75, 2, []) := rfl
theorem t90_48 : q_tb (PP 90) 48 = some (.iload 4, 2, []) := rfl
theorem t90_50 : q_tb (PP 90) 50 = some (.ldc 76, 2, []) := rfl
theorem t90_52 : q_tb (PP 90) 52 = some (.invokestatic 77, 3, []) := rfl
theorem t90_55 : q_tb (PP 90) 55 = some (.invokestatic 82, 3, []) := rfl
theorem t90_58 : q_tb (PP 90) 58 = some (.iastore, 1, []) := rfl
theorem t90_59 : q_tb (PP 90) 59 = some (.iinc 2 1, 3, []) := rfl
theorem t90_62 : q_tb (PP 90) 62 = some (.goto (-60), 3, []) := rfl
theorem t90_65 : q_tb (PP 90) 65 = some (.aload_n 0, 1, []) := rfl
theorem t90_66 : q_tb (PP 90) 66 = some (.aload_n 1, 1, []) := rfl
theorem t90_67 : q_tb (PP 90) 67 = some (.invokevirtual 46, 3, []) := rfl
theorem t90_70 : q_tb (PP 90) 70 = some (.aload_n 0, 1, []) := rfl
theorem t90_71 : q_tb (PP 90) 71 = some (.aload_n 1, 1, []) := rfl
theorem t90_72 : q_tb (PP 90) 72 = some (.invokevirtual 50, 3, []) := rfl
theorem t90_75 : q_tb (PP 90) 75 = some (.lstore_n 2, 1, []) := rfl
theorem t90_76 : q_tb (PP 90) 76 = some (.lload_n 2, 1, []) := rfl
theorem t90_77 : q_tb (PP 90) 77 = some (.aload_n 0, 1, []) := rfl
theorem t90_78 : q_tb (PP 90) 78 = some (.getfield 38, 3, []) := rfl
theorem t90_81 : q_tb (PP 90) 81 = some (.lcmp, 1, []) := rfl
theorem t90_82 : q_tb (PP 90) 82 = some (.ifCond .le 11, 3, []) := rfl
theorem t90_85 : q_tb (PP 90) 85 = some (.aload_n 0, 1, []) := rfl
theorem t90_86 : q_tb (PP 90) 86 = some (.lload_n 2, 1, []) := rfl
theorem t90_87 : q_tb (PP 90) 87 = some (.putfield 38, 3, []) := rfl
theorem t90_90 : q_tb (PP 90) 90 = some (.goto 17, 3, []) := rfl
theorem t90_93 : q_tb (PP 90) 93 = some (.aload_n 0, 1, []) := rfl
theorem t90_94 : q_tb (PP 90) 94 = some (.iconst 1, 1, []) := rfl
theorem t90_95 : q_tb (PP 90) 95 = some (.aload_n 0, 1, []) := rfl
theorem t90_96 : q_tb (PP 90) 96 = some (.getfield 34, 3, []) := rfl
theorem t90_99 : q_tb (PP 90) 99 = some (.iconst 2, 1, []) := rfl
theorem t90_100 : q_tb (PP 90) 100 = some (.idiv, 1, []) := rfl
theorem t90_101 : q_tb (PP 90) 101 = some (.invokestatic 82, 3, []) := rfl
theorem t90_104 : q_tb (PP 90) 104 = some (.putfield 34, 3, []) := rfl
theorem t90_107 : q_tb (PP 90) 107 = some (.return_, 1, [0, 1, 2, 3, 4]) := rfl
theorem t91_0 : q_tb (PP 91) 0 = some (.iconst 0, 1, []) := rfl
theorem t91_1 : q_tb (PP 91) 1 = some (.istore_n 3, 1, []) := rfl
theorem t91_2 : q_tb (PP 91) 2 = some (.iconst 0, 1, []) := rfl
theorem t91_3 : q_tb (PP 91) 3 = some (.istore 4, 2, []) := rfl
theorem t91_5 : q_tb (PP 91) 5 = some (.iload 4, 2, []) := rfl
theorem t91_7 : q_tb (PP 91) 7 = some (.aload_n 1, 1, []) := rfl
theorem t91_8 : q_tb (PP 91) 8 = some (.getfield 62, 3, []) := rfl
theorem t91_11 : q_tb (PP 91) 11 = some (.if_icmp .ge 23, 3, []) := rfl
theorem t91_14 : q_tb (PP 91) 14 = some (.iload_n 3, 1, []) := rfl
theorem t91_15 : q_tb (PP 91) 15 = some (.aload_n 0, 1, []) := rfl
theorem t91_16 : q_tb (PP 91) 16 = some (.getfield 19, 3, []) := rfl
theorem t91_19 : q_tb (PP 91) 19 = some (.iload 4, 2, []) := rfl
theorem t91_21 : q_tb (PP 91) 21 = some (.iload_n 2, 1, []) := rfl
theorem t91_22 : q_tb (PP 91) 22 = some (.invokestatic 85, 3, []) := rfl
theorem t91_25 : q_tb (PP 91) 25 = some (.iaload, 1, []) := rfl
theorem t91_26 : q_tb (PP 91) 26 = some (.iadd, 1, []) := rfl
theorem t91_27 : q_tb (PP 91) 27 = some (.istore_n 3, 1, []) := rfl
theorem t91_28 : q_tb (PP 91) 28 = some (.iinc 4 1, 3, []) := rfl
theorem t91_31 : q_tb (PP 91) 31 = some (.goto (-26), 3, []) := rfl
theorem t91_34 : q_tb (PP 91) 34 = some (.iload_n 3, 1, []) := rfl
theorem t91_35 : q_tb (PP 91) 35 = some (.ireturn, 1, []) := rfl
theorem t92_0 : q_tb (PP 92) 0 = some (.iconst 0, 1, []) := rfl
theorem t92_1 : q_tb (PP 92) 1 = some (.istore_n 2, 1, []) := rfl
theorem t92_2 : q_tb (PP 92) 2 = some (.iload_n 2, 1, []) := rfl
theorem t92_3 : q_tb (PP 92) 3 = some (.aload_n 1, 1, []) := rfl
theorem t92_4 : q_tb (PP 92) 4 = some (.getfield 62, 3, []) := rfl
theorem t92_7 : q_tb (PP 92) 7 = some (.if_icmp .ge 24, 3, []) := rfl
theorem t92_10 : q_tb (PP 92) 10 = some (.aload_n 0, 1, []) := rfl
theorem t92_11 : q_tb (PP 92) 11 = some (.aload_n 1, 1, []) := rfl
theorem t92_12 : q_tb (PP 92) 12 = some (.getfield 88, 3, []) := rfl
theorem t92_15 : q_tb (PP 92) 15 = some (.iload_n 2, 1, []) := rfl
theorem t92_16 : q_tb (PP 92) 16 = some (.aaload, 1, []) := rfl
theorem t92_17 : q_tb (PP 92) 17 = some (.iload_n 2, 1, []) := rfl
theorem t92_18 : q_tb (PP 92) 18 = some (.aload_n 1, 1, []) := rfl
theorem t92_19 : q_tb (PP 92) 19 = some (.getfield 54, 3, []) := rfl
theorem t92_22 : q_tb (PP 92) 22 = some (.invokevirtual 92, 3, []) := rfl
theorem t92_25 : q_tb (PP 92) 25 = some (.iinc 2 1, 3, []) := rfl
theorem t92_28 : q_tb (PP 92) 28 = some (.goto (-26), 3, []) := rfl
theorem t92_31 : q_tb (PP 92) 31 = some (.return_, 1, []) := rfl
theorem t93_0 : q_tb (PP 93) 0 = some (.aload_n 0, 1, []) := rfl
theorem t93_1 : q_tb (PP 93) 1 = some (.getfield 27, 3, []) := rfl
theorem t93_4 : q_tb (PP 93) 4 = some (.invokevirtual 96, 3, []) := rfl
theorem t93_7 : q_tb (PP 93) 7 = some (.aload_n 0, 1, []) := rfl
theorem t93_8 : q_tb (PP 93) 8 = some (.getfield 27, 3, []) := rfl
theorem t93_11 : q_tb (PP 93) 11 = some (.aload_n 1, 1, []) := rfl
theorem t93_12 : q_tb (PP 93) 12 = some (.invokevirtual 99, 3, []) := rfl
theorem t93_15 : q_tb (PP 93) 15 = some (.lconst 0, 1, []) := rfl
theorem t93_16 : q_tb (PP 93) 16 = some (.lconst 0, 1, []) := rfl
theorem t93_17 : q_tb (PP 93) 17 = some (.invokevirtual 105, 3, []) := rfl
theorem t93_20 : q_tb (PP 93) 20 = some (.iconst 0, 1, []) := rfl
theorem t93_21 : q_tb (PP 93) 21 = some (.istore 4, 2, []) := rfl
theorem t93_23 : q_tb (PP 93) 23 = some (.iload 4, 2, [5]) := rfl
theorem t93_25 : q_tb (PP 93) 25 = some (.iload_n 3, 1, []) := rfl
theorem t93_26 : q_tb (PP 93) 26 = some (.if_icmp .ge 48, 3, []) := rfl
theorem t93_29 : q_tb (PP 93) 29 = some (.aload_n 0, 1, []) := rfl
theorem t93_30 : q_tb (PP 93) 30 = some (.getfield 31, 3, []) := rfl
theorem t93_33 : q_tb (PP 93) 33 = some (.invokevirtual 96, 3, []) := rfl
theorem t93_36 : q_tb (PP 93) 36 = some (.aload_n 0, 1, []) := rfl
theorem t93_37 : q_tb (PP 93) 37 = some (.aload_n 1, 1, []) := rfl
theorem t93_38 : q_tb (PP 93) 38 = some (.aload_n 0, 1, []) := rfl
theorem t93_39 : q_tb (PP 93) 39 = some (.getfield 9, 3, []) := rfl
theorem t93_42 : q_tb (PP 93) 42 = some (.iload 4, 2, []) := rfl
theorem t93_44 : q_tb (PP 93) 44 = some (.iaload, 1, []) := rfl
theorem t93_45 : q_tb (PP 93) 45 = some (.invokevirtual 109, 3, []) := rfl
theorem t93_48 : q_tb (PP 93) 48 = some (.aload_n 0, 1, []) := rfl
theorem t93_49 : q_tb (PP 93) 49 = some (.getfield 27, 3, []) := rfl
theorem t93_52 : q_tb (PP 93) 52 = some (.astore 5, 2, []) := rfl
theorem t93_54 : q_tb (PP 93) 54 = some (.aload_n 0, 1, []) := rfl
theorem t93_55 : q_tb (PP 93) 55 = some (.aload_n 0, 1, []) := rfl
theorem t93_56 : q_tb (PP 93) 56 = some (.getfield 31, 3, []) := rfl
theorem t93_59 : q_tb (PP 93) 59 = some (.putfield 27, 3, []) := rfl
theorem t93_62 : q_tb (PP 93) 62 = some (.aload_n 0, 1, []) := rfl
theorem t93_63 : q_tb (PP 93) 63 = some (.aload 5, 2, []) := rfl
theorem t93_65 : q_tb (PP 93) 65 = some (.putfield 31, 3, []) := rfl
theorem t93_68 : q_tb (PP 93) 68 = some (.iinc 4 1, 3, []) := rfl
theorem t93_71 : q_tb (PP 93) 71 = some (.goto (-48), 3, []) := rfl
theorem t93_74 : q_tb (PP 93) 74 = some (.aload_n 0, 1, []) := rfl
theorem t93_75 : q_tb (PP 93) 75 = some (.getfield 31, 3, []) := rfl
theorem t93_78 : q_tb (PP 93) 78 = some (.aload_n 0, 1, []) := rfl
theorem t93_79 : q_tb (PP 93) 79 = some (.getfield 27, 3, []) := rfl
theorem t93_82 : q_tb (PP 93) 82 = some (.invokevirtual 113, 3, []) := rfl
theorem t93_85 : q_tb (PP 93) 85 = some (.aload_n 0, 1, []) := rfl
theorem t93_86 : q_tb (PP 93) 86 = some (.getfield 15, 3, []) := rfl
theorem t93_89 : q_tb (PP 93) 89 = some (.iload_n 2, 1, []) := rfl
theorem t93_90 : q_tb (PP 93) 90 = some (.aload_n 0, 1, []) := rfl
theorem t93_91 : q_tb (PP 93) 91 = some (.getfield 31, 3, []) := rfl
theorem t93_94 : q_tb (PP 93) 94 = some (.getfield 117, 3, []) := rfl
theorem t93_97 : q_tb (PP 93) 97 = some (.iconst 0, 1, []) := rfl
theorem t93_98 : q_tb (PP 93) 98 = some (.laload, 1, []) := rfl
theorem t93_99 : q_tb (PP 93) 99 = some (.lastore, 1, []) := rfl
theorem t93_100 : q_tb (PP 93) 100 = some (.aload_n 0, 1, []) := rfl
theorem t93_101 : q_tb (PP 93) 101 = some (.aload_n 1, 1, []) := rfl
theorem t93_102 : q_tb (PP 93) 102 = some (.iload_n 2, 1, []) := rfl
theorem t93_103 : q_tb (PP 93) 103 = some (.iload_n 3, 1, []) := rfl
theorem t93_104 : q_tb (PP 93) 104 = some (.aload_n 0, 1, []) := rfl
theorem t93_105 : q_tb (PP 93) 105 = some (.getfield 31, 3, []) := rfl
theorem t93_108 : q_tb (PP 93) 108 = some (.getfield 120, 3, []) := rfl
theorem t93_111 : q_tb (PP 93) 111 = some (.iconst 0, 1, []) := rfl
theorem t93_112 : q_tb (PP 93) 112 = some (.laload, 1, []) := rfl
theorem t93_113 : q_tb (PP 93) 113 = some (.invokevirtual 123, 3, []) := rfl
theorem t93_116 : q_tb (PP 93) 116 = some (.return_, 1, []) := rfl
theorem t94_0 : q_tb (PP 94) 0 = some (.iconst 0, 1, []) := rfl
theorem t94_1 : q_tb (PP 94) 1 = some (.istore_n 3, 1, []) := rfl
theorem t94_2 : q_tb (PP 94) 2 = some (.iload_n 3, 1, []) := rfl
theorem t94_3 : q_tb (PP 94) 3 = some (.bipush 15, 2, []) := rfl
theorem t94_5 : q_tb (PP 94) 5 = some (.if_icmp .ge 27, 3, []) := rfl
theorem t94_8 : q_tb (PP 94) 8 = some (.aload_n 0, 1, []) := rfl
theorem t94_9 : q_tb (PP 94) 9 = some (.getfield 27, 3, []) := rfl
theorem t94_12 : q_tb (PP 94) 12 = some (.iload_n 3, 1, []) := rfl
theorem t94_13 : q_tb (PP 94) 13 = some (.invokevirtual 127, 3, []) := rfl
theorem t94_16 : q_tb (PP 94) 16 = some (.ifCond .eq 10, 3, []) := rfl
theorem t94_19 : q_tb (PP 94) 19 = some (.aload_n 0, 1, []) := rfl
theorem t94_20 : q_tb (PP 94) 20 = some (.aload_n 1, 1, []) := rfl
theorem t94_21 : q_tb (PP 94) 21 = some (.iload_n 2, 1, []) := rfl
theorem t94_22 : q_tb (PP 94) 22 = some (.iload_n 3, 1, []) := rfl
theorem t94_23 : q_tb (PP 94) 23 = some (.invokevirtual 131, 3, []) := rfl
theorem t94_26 : q_tb (PP 94) 26 = some (.iinc 3 1, 3, []) := rfl
theorem t94_29 : q_tb (PP 94) 29 = some (.goto (-27), 3, []) := rfl
theorem t94_32 : q_tb (PP 94) 32 = some (.return_, 1, []) := rfl
theorem t95_0 : q_tb (PP 95) 0 = some (.iconst 0, 1, []) := rfl
theorem t95_1 : q_tb (PP 95) 1 = some (.istore 4, 2, []) := rfl
theorem t95_3 : q_tb (PP 95) 3 = some (.iload 4, 2, [5, 6, 7, 8, 9]) := rfl
theorem t95_5 : q_tb (PP 95) 5 = some (.iconst 5, 1, []) := rfl
theorem t95_6 : q_tb (PP 95) 6 = some (.if_icmp .ge 87, 3, []) := rfl
theorem t95_9 : q_tb (PP 95) 9 = some (.aload_n 1, 1, []) := rfl
theorem t95_10 : q_tb (PP 95) 10 = some (.iload_n 3, 1, []) := rfl
theorem t95_11 : q_tb (PP 95) 11 = some (.iload 4, 2, []) := rfl
theorem t95_13 : q_tb (PP 95) 13 = some (.invokevirtual 134, 3, []) := rfl
theorem t95_16 : q_tb (PP 95) 16 = some (.istore 5, 2, []) := rfl
theorem t95_18 : q_tb (PP 95) 18 = some (.iload 5, 2, []) := rfl
theorem t95_20 : q_tb (PP 95) 20 = some (.iconst (-1), 1, []) := rfl
theorem t95_21 : q_tb (PP 95) 21 = some (.if_icmp .eq 66, 3, []) := rfl
theorem t95_24 : q_tb (PP 95) 24 = some (.iload_n 2, 1, []) := rfl
theorem t95_25 : q_tb (PP 95) 25 = some (.i2l, 1, []) := rfl
theorem t95_26 : q_tb (PP 95) 26 = some (.aload_n 1, 1, []) := rfl
theorem t95_27 : q_tb (PP 95) 27 = some (.iload 4, 2, []) := rfl
theorem t95_29 : q_tb (PP 95) 29 = some (.invokevirtual 137, 3, []) := rfl
theorem t95_32 : q_tb (PP 95) 32 = some (.i2l, 1, []) := rfl
theorem t95_33 : q_tb (PP 95) 33 = some (.lmul, 1, []) := rfl
theorem t95_34 : q_tb (PP 95) 34 = some (.lstore 6, 2, []) := rfl
theorem t95_36 : q_tb (PP 95) 36 = some (.aload_n 0, 1, []) := rfl
theorem t95_37 : q_tb (PP 95) 37 = some (.getfield 27, 3, []) := rfl
theorem t95_40 : q_tb (PP 95) 40 = some (.getfield 117, 3, []) := rfl
theorem t95_43 : q_tb (PP 95) 43 = some (.iload_n 3, 1, []) := rfl
theorem t95_44 : q_tb (PP 95) 44 = some (.laload, 1, []) := rfl
theorem t95_45 : q_tb (PP 95) 45 = some (.aload_n 1, 1, []) := rfl
theorem t95_46 : q_tb (PP 95) 46 = some (.iload_n 3, 1, []) := rfl
theorem t95_47 : q_tb (PP 95) 47 = some (.iload 4, 2, []) := rfl
theorem t95_49 : q_tb (PP 95) 49 = some (.invokevirtual 141, 3, []) := rfl
theorem t95_52 : q_tb (PP 95) 52 = some (.i2l, 1, []) := rfl
theorem t95_53 : q_tb (PP 95) 53 = some (.ladd, 1, []) := rfl
theorem t95_54 : q_tb (PP 95) 54 = some (.lload 6, 2, []) := rfl
theorem t95_56 : q_tb (PP 95) 56 = some (.lsub, 1, []) := rfl
theorem t95_57 : q_tb (PP 95) 57 = some (.lstore 8, 2, []) := rfl
theorem t95_59 : q_tb (PP 95) 59 = some (.aload_n 0, 1, []) := rfl
theorem t95_60 : q_tb (PP 95) 60 = some (.getfield 31, 3, []) := rfl
theorem t95_63 : q_tb (PP 95) 63 = some (.iload 5, 2, []) := rfl
theorem t95_65 : q_tb (PP 95) 65 = some (.lload 8, 2, []) := rfl
theorem t95_67 : q_tb (PP 95) 67 = some (.aload_n 0, 1, []) := rfl
theorem t95_68 : q_tb (PP 95) 68 = some (.getfield 27, 3, []) := rfl
theorem t95_71 : q_tb (PP 95) 71 = some (.getfield 120, 3, []) := rfl
theorem t95_74 : q_tb (PP 95) 74 = some (.iload_n 3, 1, []) := rfl
theorem t95_75 : q_tb (PP 95) 75 = some (.laload, 1, []) := rfl
theorem t95_76 : q_tb (PP 95) 76 = some (.ldc2_w 144, 3, []) := rfl
theorem t95_79 : q_tb (PP 95) 79 = some (.lmul, 1, []) := rfl
theorem t95_80 : q_tb (PP 95) 80 = some (.iload 4, 2, []) := rfl
theorem t95_82 : q_tb (PP 95) 82 = some (.i2l, 1, []) := rfl
theorem t95_83 : q_tb (PP 95) 83 = some (.ladd, 1, []) := rfl
theorem t95_84 : q_tb (PP 95) 84 = some (.invokevirtual 105, 3, []) := rfl
theorem t95_87 : q_tb (PP 95) 87 = some (.iinc 4 1, 3, [5, 6, 7, 8, 9]) := rfl
theorem t95_90 : q_tb (PP 95) 90 = some (.goto (-87), 3, []) := rfl
theorem t95_93 : q_tb (PP 95) 93 = some (.return_, 1, []) := rfl
theorem t96_0 : q_tb (PP 96) 0 = some (.lload 4, 2, []) := rfl
theorem t96_2 : q_tb (PP 96) 2 = some (.lstore 6, 2, []) := rfl
theorem t96_4 : q_tb (PP 96) 4 = some (.iload_n 3, 1, []) := rfl
theorem t96_5 : q_tb (PP 96) 5 = some (.iconst 1, 1, []) := rfl
theorem t96_6 : q_tb (PP 96) 6 = some (.isub, 1, []) := rfl
theorem t96_7 : q_tb (PP 96) 7 = some (.istore 8, 2, []) := rfl
theorem t96_9 : q_tb (PP 96) 9 = some (.iload 8, 2, [3, 4, 7]) := rfl
theorem t96_11 : q_tb (PP 96) 11 = some (.ifCond .lt 39, 3, []) := rfl
theorem t96_14 : q_tb (PP 96) 14 = some (.aload_n 0, 1, []) := rfl
theorem t96_15 : q_tb (PP 96) 15 = some (.getfield 19, 3, []) := rfl
theorem t96_18 : q_tb (PP 96) 18 = some (.iload_n 2, 1, []) := rfl
theorem t96_19 : q_tb (PP 96) 19 = some (.iload 8, 2, []) := rfl
theorem t96_21 : q_tb (PP 96) 21 = some (.invokestatic 85, 3, []) := rfl
theorem t96_24 : q_tb (PP 96) 24 = some (.aload_n 1, 1, []) := rfl
theorem t96_25 : q_tb (PP 96) 25 = some (.lload 6, 2, []) := rfl
theorem t96_27 : q_tb (PP 96) 27 = some (.ldc2_w 144, 3, []) := rfl
theorem t96_30 : q_tb (PP 96) 30 = some (.lrem, 1, []) := rfl
theorem t96_31 : q_tb (PP 96) 31 = some (.l2i, 1, []) := rfl
theorem t96_32 : q_tb (PP 96) 32 = some (.invokevirtual 137, 3, []) := rfl
theorem t96_35 : q_tb (PP 96) 35 = some (.iastore, 1, []) := rfl
theorem t96_36 : q_tb (PP 96) 36 = some (.lload 6, 2, []) := rfl
theorem t96_38 : q_tb (PP 96) 38 = some (.ldc2_w 144, 3, []) := rfl
theorem t96_41 : q_tb (PP 96) 41 = some (.ldiv, 1, []) := rfl
theorem t96_42 : q_tb (PP 96) 42 = some (.lstore 6, 2, []) := rfl
theorem t96_44 : q_tb (PP 96) 44 = some (.iinc 8 (-1), 3, []) := rfl
theorem t96_47 : q_tb (PP 96) 47 = some (.goto (-38), 3, []) := rfl
theorem t96_50 : q_tb (PP 96) 50 = some (.return_, 1, []) := rfl
theorem t97_0 : q_tb (PP 97) 0 = some (.aload_n 0, 1, []) := rfl
theorem t97_1 : q_tb (PP 97) 1 = some (.invokespecial 3, 3, []) := rfl
theorem t97_4 : q_tb (PP 97) 4 = some (.aload_n 0, 1, []) := rfl
theorem t97_5 : q_tb (PP 97) 5 = some (.new 9, 3, []) := rfl
theorem t97_8 : q_tb (PP 97) 8 = some (.dup, 1, []) := rfl
theorem t97_9 : q_tb (PP 97) 9 = some (.invokespecial 11, 3, []) := rfl
theorem t97_12 : q_tb (PP 97) 12 = some (.putfield 12, 3, []) := rfl
theorem t97_15 : q_tb (PP 97) 15 = some (.aload_n 0, 1, []) := rfl
theorem t97_16 : q_tb (PP 97) 16 = some (.new 9, 3, []) := rfl
theorem t97_19 : q_tb (PP 97) 19 = some (.dup, 1, []) := rfl
theorem t97_20 : q_tb (PP 97) 20 = some (.invokespecial 11, 3, []) := rfl
theorem t97_23 : q_tb (PP 97) 23 = some (.putfield 18, 3, []) := rfl
theorem t97_26 : q_tb (PP 97) 26 = some (.aload_n 0, 1, []) := rfl
theorem t97_27 : q_tb (PP 97) 27 = some (.iconst 3, 1, []) := rfl
theorem t97_28 : q_tb (PP 97) 28 = some (.newarray .int, 2, []) := rfl
theorem t97_30 : q_tb (PP 97) 30 = some (.putfield 21, 3, []) := rfl
theorem t97_33 : q_tb (PP 97) 33 = some (.return_, 1, []) := rfl
theorem t98_0 : q_tb (PP 98) 0 = some (.aload_n 0, 1, []) := rfl
theorem t98_1 : q_tb (PP 98) 1 = some (.getfield 12, 3, []) := rfl
theorem t98_4 : q_tb (PP 98) 4 = some (.aload_n 1, 1, []) := rfl
theorem t98_5 : q_tb (PP 98) 5 = some (.invokevirtual 25, 3, []) := rfl
theorem t98_8 : q_tb (PP 98) 8 = some (.iconst 0, 1, []) := rfl
theorem t98_9 : q_tb (PP 98) 9 = some (.istore 4, 2, []) := rfl
theorem t98_11 : q_tb (PP 98) 11 = some (.iload 4, 2, [5]) := rfl
theorem t98_13 : q_tb (PP 98) 13 = some (.aload_n 1, 1, []) := rfl
theorem t98_14 : q_tb (PP 98) 14 = some (.getfield 29, 3, []) := rfl
theorem t98_17 : q_tb (PP 98) 17 = some (.if_icmp .ge 59, 3, []) := rfl
theorem t98_20 : q_tb (PP 98) 20 = some (.aload_n 0, 1, []) := rfl
theorem t98_21 : q_tb (PP 98) 21 = some (.getfield 18, 3, []) := rfl
theorem t98_24 : q_tb (PP 98) 24 = some (.aload_n 1, 1, []) := rfl
theorem t98_25 : q_tb (PP 98) 25 = some (.iload 4, 2, []) := rfl
theorem t98_27 : q_tb (PP 98) 27 = some (.iload_n 3, 1, []) := rfl
theorem t98_28 : q_tb (PP 98) 28 = some (.ifCond .eq 13, 3, []) := rfl
theorem t98_31 : q_tb (PP 98) 31 = some (.aload_n 1, 1, []) := rfl
theorem t98_32 : q_tb (PP 98) 32 = some (.aload_n 2, 1, []) := rfl
theorem t98_33 : q_tb (PP 98) 33 = some (.iload 4, 2, []) := rfl
theorem t98_35 : q_tb (PP 98) 35 = some (.invokevirtual 35, 3, []) := rfl
theorem t98_38 : q_tb (PP 98) 38 = some (.goto 4, 3, []) := rfl
theorem t98_41 : q_tb (PP 98) 41 = some (.iconst (-1), 1, []) := rfl
theorem t98_42 : q_tb (PP 98) 42 = some (.invokevirtual 39, 3, [5]) := rfl
theorem t98_45 : q_tb (PP 98) 45 = some (.aload_n 0, 1, []) := rfl
theorem t98_46 : q_tb (PP 98) 46 = some (.aload_n 1, 1, []) := rfl
theorem t98_47 : q_tb (PP 98) 47 = some (.invokevirtual 43, 3, []) := rfl
theorem t98_50 : q_tb (PP 98) 50 = some (.aload_n 0, 1, []) := rfl
theorem t98_51 : q_tb (PP 98) 51 = some (.getfield 12, 3, []) := rfl
theorem t98_54 : q_tb (PP 98) 54 = some (.astore 5, 2, []) := rfl
theorem t98_56 : q_tb (PP 98) 56 = some (.aload_n 0, 1, []) := rfl
theorem t98_57 : q_tb (PP 98) 57 = some (.aload_n 0, 1, []) := rfl
theorem t98_58 : q_tb (PP 98) 58 = some (.getfield 18, 3, []) := rfl
theorem t98_61 : q_tb (PP 98) 61 = some (.putfield 12, 3, []) := rfl
theorem t98_64 : q_tb (PP 98) 64 = some (.aload_n 0, 1, []) := rfl
theorem t98_65 : q_tb (PP 98) 65 = some (.aload 5, 2, []) := rfl
theorem t98_67 : q_tb (PP 98) 67 = some (.putfield 18, 3, []) := rfl
theorem t98_70 : q_tb (PP 98) 70 = some (.iinc 4 1, 3, []) := rfl
theorem t98_73 : q_tb (PP 98) 73 = some (.goto (-62), 3, []) := rfl
theorem t98_76 : q_tb (PP 98) 76 = some (.aload_n 0, 1, []) := rfl
theorem t98_77 : q_tb (PP 98) 77 = some (.getfield 18, 3, []) := rfl
theorem t98_80 : q_tb (PP 98) 80 = some (.getfield 46, 3, []) := rfl
theorem t98_83 : q_tb (PP 98) 83 = some (.astore 4, 2, []) := rfl
theorem t98_85 : q_tb (PP 98) 85 = some (.aload 4, 2, []) := rfl
theorem t98_87 : q_tb (PP 98) 87 = some (.aload_n 0, 1, []) := rfl
theorem t98_88 : q_tb (PP 98) 88 = some (.getfield 12, 3, []) := rfl
theorem t98_91 : q_tb (PP 98) 91 = some (.getfield 46, 3, []) := rfl
theorem t98_94 : q_tb (PP 98) 94 = some (.invokevirtual 50, 3, []) := rfl
theorem t98_97 : q_tb (PP 98) 97 = some (.aload 4, 2, []) := rfl
theorem t98_99 : q_tb (PP 98) 99 = some (.iconst 0, 1, []) := rfl
theorem t98_100 : q_tb (PP 98) 100 = some (.invokevirtual 56, 3, []) := rfl
theorem t98_103 : q_tb (PP 98) 103 = some (.ifCond .ne 5, 3, []) := rfl
theorem t98_106 : q_tb (PP 98) 106 = some (.iconst (-1), 1, []) := rfl
theorem t98_107 : q_tb (PP 98) 107 = some (.ireturn, 1, []) := rfl
theorem t98_108 : q_tb (PP 98) 108 = some (.aload_n 0, 1, []) := rfl
theorem t98_109 : q_tb (PP 98) 109 = some (.aload_n 1, 1, []) := rfl
theorem t98_110 : q_tb (PP 98) 110 = some (.aload 4, 2, []) := rfl
theorem t98_112 : q_tb (PP 98) 112 = some (.getfield 60, 3, []) := rfl
theorem t98_115 : q_tb (PP 98) 115 = some (.iconst 0, 1, []) := rfl
theorem t98_116 : q_tb (PP 98) 116 = some (.laload, 1, []) := rfl
theorem t98_117 : q_tb (PP 98) 117 = some (.aload_n 2, 1, []) := rfl
theorem t98_118 : q_tb (PP 98) 118 = some (.invokevirtual 64, 3, []) := rfl
theorem t98_121 : q_tb (PP 98) 121 = some (.aload 4, 2, []) := rfl
theorem t98_123 : q_tb (PP 98) 123 = some (.getfield 68, 3, []) := rfl
theorem t98_126 : q_tb (PP 98) 126 = some (.iconst 0, 1, []) := rfl
theorem t98_127 : q_tb (PP 98) 127 = some (.laload, 1, []) := rfl
theorem t98_128 : q_tb (PP 98) 128 = some (.l2i, 1, []) := rfl
theorem t98_129 : q_tb (PP 98) 129 = some (.ireturn, 1, []) := rfl
theorem t99_0 : q_tb (PP 99) 0 = some (.iconst 0, 1, []) := rfl
theorem t99_1 : q_tb (PP 99) 1 = some (.istore_n 2, 1, []) := rfl
theorem t99_2 : q_tb (PP 99) 2 = some (.iload_n 2, 1, [3, 4]) := rfl
theorem t99_3 : q_tb (PP 99) 3 = some (.aload_n 0, 1, []) := rfl
theorem t99_4 : q_tb (PP 99) 4 = some (.getfield 12, 3, []) := rfl
theorem t99_7 : q_tb (PP 99) 7 = some (.getfield 71, 3, []) := rfl
theorem t99_10 : q_tb (PP 99) 10 = some (.if_icmp .ge 59, 3, []) := rfl
theorem t99_13 : q_tb (PP 99) 13 = some (.iconst 0, 1, []) := rfl
theorem t99_14 : q_tb (PP 99) 14 = some (.istore_n 3, 1, []) := rfl
theorem t99_15 : q_tb (PP 99) 15 = some (.iload_n 3, 1, [4]) := rfl
theorem t99_16 : q_tb (PP 99) 16 = some (.bipush 27, 2, []) := rfl
theorem t99_18 : q_tb (PP 99) 18 = some (.if_icmp .ge 45, 3, []) := rfl
theorem t99_21 : q_tb (PP 99) 21 = some (.iload_n 2, 1, []) := rfl
theorem t99_22 : q_tb (PP 99) 22 = some (.bipush 27, 2, []) := rfl
theorem t99_24 : q_tb (PP 99) 24 = some (.imul, 1, []) := rfl
theorem t99_25 : q_tb (PP 99) 25 = some (.iload_n 3, 1, []) := rfl
theorem t99_26 : q_tb (PP 99) 26 = some (.iadd, 1, []) := rfl
theorem t99_27 : q_tb (PP 99) 27 = some (.istore 4, 2, []) := rfl
theorem t99_29 : q_tb (PP 99) 29 = some (.aload_n 0, 1, []) := rfl
theorem t99_30 : q_tb (PP 99) 30 = some (.getfield 12, 3, []) := rfl
theorem t99_33 : q_tb (PP 99) 33 = some (.getfield 46, 3, []) := rfl
theorem t99_36 : q_tb (PP 99) 36 = some (.iload 4, 2, []) := rfl
theorem t99_38 : q_tb (PP 99) 38 = some (.invokevirtual 56, 3, []) := rfl
theorem t99_41 : q_tb (PP 99) 41 = some (.ifCond .eq 16, 3, []) := rfl
theorem t99_44 : q_tb (PP 99) 44 = some (.aload_n 0, 1, []) := rfl
theorem t99_45 : q_tb (PP 99) 45 = some (.iload_n 2, 1, []) := rfl
theorem t99_46 : q_tb (PP 99) 46 = some (.iload_n 3, 1, []) := rfl
theorem t99_47 : q_tb (PP 99) 47 = some (.invokevirtual 74, 3, []) := rfl
theorem t99_50 : q_tb (PP 99) 50 = some (.aload_n 0, 1, []) := rfl
theorem t99_51 : q_tb (PP 99) 51 = some (.aload_n 1, 1, []) := rfl
theorem t99_52 : q_tb (PP 99) 52 = some (.iload 4, 2, []) := rfl
theorem t99_54 : q_tb (PP 99) 54 = some (.invokevirtual 78, 3, []) := rfl
theorem t99_57 : q_tb (PP 99) 57 = some (.iinc 3 1, 3, [4]) := rfl
theorem t99_60 : q_tb (PP 99) 60 = some (.goto (-45), 3, []) := rfl
theorem t99_63 : q_tb (PP 99) 63 = some (.iinc 2 1, 3, []) := rfl
theorem t99_66 : q_tb (PP 99) 66 = some (.goto (-64), 3, []) := rfl
theorem t99_69 : q_tb (PP 99) 69 = some (.return_, 1, []) := rfl
theorem t100_0 : q_tb (PP 100) 0 = some (.iload_n 2, 1, []) := rfl
theorem t100_1 : q_tb (PP 100) 1 = some (.istore_n 3, 1, []) := rfl
theorem t100_2 : q_tb (PP 100) 2 = some (.iconst 2, 1, []) := rfl
theorem t100_3 : q_tb (PP 100) 3 = some (.istore 4, 2, []) := rfl
theorem t100_5 : q_tb (PP 100) 5 = some (.iload 4, 2, [2]) := rfl
theorem t100_7 : q_tb (PP 100) 7 = some (.ifCond .lt 40, 3, []) := rfl
theorem t100_10 : q_tb (PP 100) 10 = some (.aload_n 0, 1, []) := rfl
theorem t100_11 : q_tb (PP 100) 11 = some (.getfield 21, 3, []) := rfl
theorem t100_14 : q_tb (PP 100) 14 = some (.iload 4, 2, []) := rfl
theorem t100_16 : q_tb (PP 100) 16 = some (.aload_n 0, 1, []) := rfl
theorem t100_17 : q_tb (PP 100) 17 = some (.getfield 12, 3, []) := rfl
theorem t100_20 : q_tb (PP 100) 20 = some (.getfield 82, 3, []) := rfl
theorem t100_23 : q_tb (PP 100) 23 = some (.iload_n 1, 1, []) := rfl
theorem t100_24 : q_tb (PP 100) 24 = some (.iconst 3, 1, []) := rfl
theorem t100_25 : q_tb (PP 100) 25 = some (.imul, 1, []) := rfl
theorem t100_26 : q_tb (PP 100) 26 = some (.iload 4, 2, []) := rfl
theorem t100_28 : q_tb (PP 100) 28 = some (.iadd, 1, []) := rfl
theorem t100_29 : q_tb (PP 100) 29 = some (.iaload, 1, []) := rfl
theorem t100_30 : q_tb (PP 100) 30 = some (.iconst 3, 1, []) := rfl
theorem t100_31 : q_tb (PP 100) 31 = some (.imul, 1, []) := rfl
theorem t100_32 : q_tb (PP 100) 32 = some (.iload_n 3, 1, []) := rfl
theorem t100_33 : q_tb (PP 100) 33 = some (.iconst 3, 1, []) := rfl
theorem t100_34 : q_tb (PP 100) 34 = some (.irem, 1, []) := rfl
theorem t100_35 : q_tb (PP 100) 35 = some (.iadd, 1, []) := rfl
theorem t100_36 : q_tb (PP 100) 36 = some (.iastore, 1, []) := rfl
theorem t100_37 : q_tb (PP 100) 37 = some (.iload_n 3, 1, []) := rfl
theorem t100_38 : q_tb (PP 100) 38 = some (.iconst 3, 1, []) := rfl
theorem t100_39 : q_tb (PP 100) 39 = some (.idiv, 1, []) := rfl
theorem t100_40 : q_tb (PP 100) 40 = some (.istore_n 3, 1, []) := rfl
theorem t100_41 : q_tb (PP 100) 41 = some (.iinc 4 (-1), 3, []) := rfl
theorem t100_44 : q_tb (PP 100) 44 = some (.goto (-39), 3, []) := rfl
theorem t100_47 : q_tb (PP 100) 47 = some (.return_, 1, []) := rfl
theorem t101_0 : q_tb (PP 101) 0 = some (.aload_n 0, 1, []) := rfl
theorem t101_1 : q_tb (PP 101) 1 = some (.getfield 12, 3, []) := rfl
theorem t101_4 : q_tb (PP 101) 4 = some (.getfield 46, 3, []) := rfl
theorem t101_7 : q_tb (PP 101) 7 = some (.getfield 68, 3, []) := rfl
theorem t101_10 : q_tb (PP 101) 10 = some (.iload_n 2, 1, []) := rfl
theorem t101_11 : q_tb (PP 101) 11 = some (.laload, 1, []) := rfl
theorem t101_12 : q_tb (PP 101) 12 = some (.lstore_n 3, 1, []) := rfl
theorem t101_13 : q_tb (PP 101) 13 = some (.aload_n 0, 1, []) := rfl
theorem t101_14 : q_tb (PP 101) 14 = some (.getfield 12, 3, []) := rfl
theorem t101_17 : q_tb (PP 101) 17 = some (.getfield 46, 3, []) := rfl
theorem t101_20 : q_tb (PP 101) 20 = some (.getfield 60, 3, []) := rfl
theorem t101_23 : q_tb (PP 101) 23 = some (.iload_n 2, 1, []) := rfl
theorem t101_24 : q_tb (PP 101) 24 = some (.laload, 1, []) := rfl
theorem t101_25 : q_tb (PP 101) 25 = some (.ldc2_w 85, 3, []) := rfl
theorem t101_28 : q_tb (PP 101) 28 = some (.lmul, 1, []) := rfl
theorem t101_29 : q_tb (PP 101) 29 = some (.lstore 5, 2, []) := rfl
theorem t101_31 : q_tb (PP 101) 31 = some (.iconst 0, 1, []) := rfl
theorem t101_32 : q_tb (PP 101) 32 = some (.istore 7, 2, []) := rfl
theorem t101_34 : q_tb (PP 101) 34 = some (.iload 7, 2, [2, 4, 6, 8, 9, 10]) := rfl
theorem t101_36 : q_tb (PP 101) 36 = some (.aload_n 0, 1, []) := rfl
theorem t101_37 : q_tb (PP 101) 37 = some (.getfield 18, 3, []) := rfl
theorem t101_40 : q_tb (PP 101) 40 = some (.getfield 71, 3, []) := rfl
theorem t101_43 : q_tb (PP 101) 43 = some (.if_icmp .ge 70, 3, []) := rfl
theorem t101_46 : q_tb (PP 101) 46 = some (.aload_n 0, 1, []) := rfl
theorem t101_47 : q_tb (PP 101) 47 = some (.aload_n 1, 1, []) := rfl
theorem t101_48 : q_tb (PP 101) 48 = some (.iload 7, 2, []) := rfl
theorem t101_50 : q_tb (PP 101) 50 = some (.invokevirtual 87, 3, []) := rfl
theorem t101_53 : q_tb (PP 101) 53 = some (.istore 8, 2, []) := rfl
theorem t101_55 : q_tb (PP 101) 55 = some (.iload 8, 2, []) := rfl
theorem t101_57 : q_tb (PP 101) 57 = some (.iconst (-1), 1, []) := rfl
theorem t101_58 : q_tb (PP 101) 58 = some (.if_icmp .eq 49, 3, []) := rfl
theorem t101_61 : q_tb (PP 101) 61 = some (.lload_n 3, 1, []) := rfl
theorem t101_62 : q_tb (PP 101) 62 = some (.aload_n 0, 1, []) := rfl
theorem t101_63 : q_tb (PP 101) 63 = some (.aload_n 1, 1, []) := rfl
theorem t101_64 : q_tb (PP 101) 64 = some (.iload 7, 2, []) := rfl
theorem t101_66 : q_tb (PP 101) 66 = some (.invokevirtual 91, 3, []) := rfl
theorem t101_69 : q_tb (PP 101) 69 = some (.i2l, 1, []) := rfl
theorem t101_70 : q_tb (PP 101) 70 = some (.ladd, 1, []) := rfl
theorem t101_71 : q_tb (PP 101) 71 = some (.lstore 9, 2, []) := rfl
theorem t101_73 : q_tb (PP 101) 73 = some (.aload_n 0, 1, []) := rfl
theorem t101_74 : q_tb (PP 101) 74 = some (.getfield 18, 3, []) := rfl
theorem t101_77 : q_tb (PP 101) 77 = some (.getfield 46, 3, []) := rfl
theorem t101_80 : q_tb (PP 101) 80 = some (.iload 7, 2, []) := rfl
theorem t101_82 : q_tb (PP 101) 82 = some (.bipush 27, 2, []) := rfl
theorem t101_84 : q_tb (PP 101) 84 = some (.imul, 1, []) := rfl
theorem t101_85 : q_tb (PP 101) 85 = some (.iload 8, 2, []) := rfl
theorem t101_87 : q_tb (PP 101) 87 = some (.iadd, 1, []) := rfl
theorem t101_88 : q_tb (PP 101) 88 = some (.lload 9, 2, []) := rfl
theorem t101_90 : q_tb (PP 101) 90 = some (.lload 5, 2, []) := rfl
theorem t101_92 : q_tb (PP 101) 92 = some (.aload_n 0, 1, []) := rfl
theorem t101_93 : q_tb (PP 101) 93 = some (.getfield 18, 3, []) := rfl
theorem t101_96 : q_tb (PP 101) 96 = some (.getfield 94, 3, []) := rfl
theorem t101_99 : q_tb (PP 101) 99 = some (.iload 7, 2, []) := rfl
theorem t101_101 : q_tb (PP 101) 101 = some (.iaload, 1, []) := rfl
theorem t101_102 : q_tb (PP 101) 102 = some (.i2l, 1, []) := rfl
theorem t101_103 : q_tb (PP 101) 103 = some (.ladd, 1, []) := rfl
theorem t101_104 : q_tb (PP 101) 104 = some (.invokevirtual 97, 3, []) := rfl
theorem t101_107 : q_tb (PP 101) 107 = some (.iinc 7 1, 3, [2, 4, 6, 8, 9, 10]) := rfl
theorem t101_110 : q_tb (PP 101) 110 = some (.goto (-76), 3, []) := rfl
theorem t101_113 : q_tb (PP 101) 113 = some (.return_, 1, []) := rfl
theorem t102_0 : q_tb (PP 102) 0 = some (.iconst 0, 1, []) := rfl
theorem t102_1 : q_tb (PP 102) 1 = some (.istore_n 3, 1, []) := rfl
theorem t102_2 : q_tb (PP 102) 2 = some (.iconst 0, 1, []) := rfl
theorem t102_3 : q_tb (PP 102) 3 = some (.istore 4, 2, []) := rfl
theorem t102_5 : q_tb (PP 102) 5 = some (.iload 4, 2, [5, 6]) := rfl
theorem t102_7 : q_tb (PP 102) 7 = some (.iconst 3, 1, []) := rfl
theorem t102_8 : q_tb (PP 102) 8 = some (.if_icmp .ge 63, 3, []) := rfl
theorem t102_11 : q_tb (PP 102) 11 = some (.aload_n 0, 1, []) := rfl
theorem t102_12 : q_tb (PP 102) 12 = some (.getfield 18, 3, []) := rfl
theorem t102_15 : q_tb (PP 102) 15 = some (.getfield 82, 3, []) := rfl
theorem t102_18 : q_tb (PP 102) 18 = some (.iload_n 2, 1, []) := rfl
theorem t102_19 : q_tb (PP 102) 19 = some (.iconst 3, 1, []) := rfl
theorem t102_20 : q_tb (PP 102) 20 = some (.imul, 1, []) := rfl
theorem t102_21 : q_tb (PP 102) 21 = some (.iload 4, 2, []) := rfl
theorem t102_23 : q_tb (PP 102) 23 = some (.iadd, 1, []) := rfl
theorem t102_24 : q_tb (PP 102) 24 = some (.iaload, 1, []) := rfl
theorem t102_25 : q_tb (PP 102) 25 = some (.istore 5, 2, []) := rfl
theorem t102_27 : q_tb (PP 102) 27 = some (.aload_n 1, 1, []) := rfl
theorem t102_28 : q_tb (PP 102) 28 = some (.getfield 101, 3, []) := rfl
theorem t102_31 : q_tb (PP 102) 31 = some (.iload 4, 2, []) := rfl
theorem t102_33 : q_tb (PP 102) 33 = some (.aaload, 1, []) := rfl
theorem t102_34 : q_tb (PP 102) 34 = some (.aload_n 0, 1, []) := rfl
theorem t102_35 : q_tb (PP 102) 35 = some (.getfield 21, 3, []) := rfl
theorem t102_38 : q_tb (PP 102) 38 = some (.iload 4, 2, []) := rfl
theorem t102_40 : q_tb (PP 102) 40 = some (.iaload, 1, []) := rfl
theorem t102_41 : q_tb (PP 102) 41 = some (.iload 5, 2, []) := rfl
theorem t102_43 : q_tb (PP 102) 43 = some (.invokevirtual 105, 3, []) := rfl
theorem t102_46 : q_tb (PP 102) 46 = some (.istore 6, 2, []) := rfl
theorem t102_48 : q_tb (PP 102) 48 = some (.iload 6, 2, []) := rfl
theorem t102_50 : q_tb (PP 102) 50 = some (.iconst (-1), 1, []) := rfl
theorem t102_51 : q_tb (PP 102) 51 = some (.if_icmp .ne 5, 3, []) := rfl
theorem t102_54 : q_tb (PP 102) 54 = some (.iconst (-1), 1, []) := rfl
theorem t102_55 : q_tb (PP 102) 55 = some (.ireturn, 1, []) := rfl
theorem t102_56 : q_tb (PP 102) 56 = some (.iload_n 3, 1, []) := rfl
theorem t102_57 : q_tb (PP 102) 57 = some (.iconst 3, 1, []) := rfl
theorem t102_58 : q_tb (PP 102) 58 = some (.imul, 1, []) := rfl
theorem t102_59 : q_tb (PP 102) 59 = some (.iload 6, 2, []) := rfl
theorem t102_61 : q_tb (PP 102) 61 = some (.iconst 3, 1, []) := rfl
theorem t102_62 : q_tb (PP 102) 62 = some (.irem, 1, []) := rfl
theorem t102_63 : q_tb (PP 102) 63 = some (.iadd, 1, []) := rfl
theorem t102_64 : q_tb (PP 102) 64 = some (.istore_n 3, 1, []) := rfl
theorem t102_65 : q_tb (PP 102) 65 = some (.iinc 4 1, 3, []) := rfl
theorem t102_68 : q_tb (PP 102) 68 = some (.goto (-63), 3, []) := rfl
theorem t102_71 : q_tb (PP 102) 71 = some (.iload_n 3, 1, []) := rfl
theorem t102_72 : q_tb (PP 102) 72 = some (.ireturn, 1, []) := rfl
theorem t103_0 : q_tb (PP 103) 0 = some (.iconst 0, 1, []) := rfl
theorem t103_1 : q_tb (PP 103) 1 = some (.istore_n 3, 1, []) := rfl
theorem t103_2 : q_tb (PP 103) 2 = some (.iconst 0, 1, []) := rfl
theorem t103_3 : q_tb (PP 103) 3 = some (.istore 4, 2, []) := rfl
theorem t103_5 : q_tb (PP 103) 5 = some (.iload 4, 2, [5]) := rfl
theorem t103_7 : q_tb (PP 103) 7 = some (.iconst 3, 1, []) := rfl
theorem t103_8 : q_tb (PP 103) 8 = some (.if_icmp .ge 47, 3, []) := rfl
theorem t103_11 : q_tb (PP 103) 11 = some (.aload_n 0, 1, []) := rfl
theorem t103_12 : q_tb (PP 103) 12 = some (.getfield 18, 3, []) := rfl
theorem t103_15 : q_tb (PP 103) 15 = some (.getfield 82, 3, []) := rfl
theorem t103_18 : q_tb (PP 103) 18 = some (.iload_n 2, 1, []) := rfl
theorem t103_19 : q_tb (PP 103) 19 = some (.iconst 3, 1, []) := rfl
theorem t103_20 : q_tb (PP 103) 20 = some (.imul, 1, []) := rfl
theorem t103_21 : q_tb (PP 103) 21 = some (.iload 4, 2, []) := rfl
theorem t103_23 : q_tb (PP 103) 23 = some (.iadd, 1, []) := rfl
theorem t103_24 : q_tb (PP 103) 24 = some (.iaload, 1, []) := rfl
theorem t103_25 : q_tb (PP 103) 25 = some (.istore 5, 2, []) := rfl
theorem t103_27 : q_tb (PP 103) 27 = some (.iload_n 3, 1, []) := rfl
theorem t103_28 : q_tb (PP 103) 28 = some (.aload_n 1, 1, []) := rfl
theorem t103_29 : q_tb (PP 103) 29 = some (.getfield 101, 3, []) := rfl
theorem t103_32 : q_tb (PP 103) 32 = some (.iload 4, 2, []) := rfl
theorem t103_34 : q_tb (PP 103) 34 = some (.aaload, 1, []) := rfl
theorem t103_35 : q_tb (PP 103) 35 = some (.aload_n 0, 1, []) := rfl
theorem t103_36 : q_tb (PP 103) 36 = some (.getfield 21, 3, []) := rfl
theorem t103_39 : q_tb (PP 103) 39 = some (.iload 4, 2, []) := rfl
theorem t103_41 : q_tb (PP 103) 41 = some (.iaload, 1, []) := rfl
theorem t103_42 : q_tb (PP 103) 42 = some (.iload 5, 2, []) := rfl
theorem t103_44 : q_tb (PP 103) 44 = some (.invokevirtual 111, 3, []) := rfl
theorem t103_47 : q_tb (PP 103) 47 = some (.iadd, 1, []) := rfl
theorem t103_48 : q_tb (PP 103) 48 = some (.istore_n 3, 1, []) := rfl
theorem t103_49 : q_tb (PP 103) 49 = some (.iinc 4 1, 3, []) := rfl
theorem t103_52 : q_tb (PP 103) 52 = some (.goto (-47), 3, []) := rfl
theorem t103_55 : q_tb (PP 103) 55 = some (.iload_n 3, 1, []) := rfl
theorem t103_56 : q_tb (PP 103) 56 = some (.ireturn, 1, []) := rfl
theorem t104_0 : q_tb (PP 104) 0 = some (.lload_n 2, 1, []) := rfl
theorem t104_1 : q_tb (PP 104) 1 = some (.lstore 5, 2, []) := rfl
theorem t104_3 : q_tb (PP 104) 3 = some (.aload_n 1, 1, []) := rfl
theorem t104_4 : q_tb (PP 104) 4 = some (.getfield 29, 3, []) := rfl
theorem t104_7 : q_tb (PP 104) 7 = some (.iconst 1, 1, []) := rfl
theorem t104_8 : q_tb (PP 104) 8 = some (.isub, 1, []) := rfl
theorem t104_9 : q_tb (PP 104) 9 = some (.istore 7, 2, []) := rfl
theorem t104_11 : q_tb (PP 104) 11 = some (.iload 7, 2, [0, 2, 6, 8, 9]) := rfl
theorem t104_13 : q_tb (PP 104) 13 = some (.ifCond .lt 68, 3, []) := rfl
theorem t104_16 : q_tb (PP 104) 16 = some (.lload 5, 2, []) := rfl
theorem t104_18 : q_tb (PP 104) 18 = some (.ldc2_w 85, 3, []) := rfl
theorem t104_21 : q_tb (PP 104) 21 = some (.lrem, 1, []) := rfl
theorem t104_22 : q_tb (PP 104) 22 = some (.l2i, 1, []) := rfl
theorem t104_23 : q_tb (PP 104) 23 = some (.istore 8, 2, []) := rfl
theorem t104_25 : q_tb (PP 104) 25 = some (.iconst 0, 1, []) := rfl
theorem t104_26 : q_tb (PP 104) 26 = some (.istore 9, 2, []) := rfl
theorem t104_28 : q_tb (PP 104) 28 = some (.iload 9, 2, [0, 2, 6]) := rfl
theorem t104_30 : q_tb (PP 104) 30 = some (.iconst 3, 1, []) := rfl
theorem t104_31 : q_tb (PP 104) 31 = some (.if_icmp .ge 36, 3, []) := rfl
theorem t104_34 : q_tb (PP 104) 34 = some (.aload 4, 2, []) := rfl
theorem t104_36 : q_tb (PP 104) 36 = some (.iload 9, 2, []) := rfl
theorem t104_38 : q_tb (PP 104) 38 = some (.iload 7, 2, []) := rfl
theorem t104_40 : q_tb (PP 104) 40 = some (.invokestatic 114, 3, []) := rfl
theorem t104_43 : q_tb (PP 104) 43 = some (.aload_n 1, 1, []) := rfl
theorem t104_44 : q_tb (PP 104) 44 = some (.getfield 101, 3, []) := rfl
theorem t104_47 : q_tb (PP 104) 47 = some (.iload 9, 2, []) := rfl
theorem t104_49 : q_tb (PP 104) 49 = some (.aaload, 1, []) := rfl
theorem t104_50 : q_tb (PP 104) 50 = some (.iload 8, 2, []) := rfl
theorem t104_52 : q_tb (PP 104) 52 = some (.iload 9, 2, []) := rfl
theorem t104_54 : q_tb (PP 104) 54 = some (.invokestatic 117, 3, []) := rfl
theorem t104_57 : q_tb (PP 104) 57 = some (.invokevirtual 120, 3, []) := rfl
theorem t104_60 : q_tb (PP 104) 60 = some (.iastore, 1, []) := rfl
theorem t104_61 : q_tb (PP 104) 61 = some (.iinc 9 1, 3, []) := rfl
theorem t104_64 : q_tb (PP 104) 64 = some (.goto (-36), 3, []) := rfl
theorem t104_67 : q_tb (PP 104) 67 = some (.lload 5, 2, []) := rfl
theorem t104_69 : q_tb (PP 104) 69 = some (.ldc2_w 85, 3, []) := rfl
theorem t104_72 : q_tb (PP 104) 72 = some (.ldiv, 1, []) := rfl
theorem t104_73 : q_tb (PP 104) 73 = some (.lstore 5, 2, []) := rfl
theorem t104_75 : q_tb (PP 104) 75 = some (.iinc 7 (-1), 3, []) := rfl
theorem t104_78 : q_tb (PP 104) 78 = some (.goto (-67), 3, []) := rfl
theorem t104_81 : q_tb (PP 104) 81 = some (.return_, 1, []) := rfl
theorem t105_0 : q_tb (PP 105) 0 = some (.aload_n 0, 1, []) := rfl
theorem t105_1 : q_tb (PP 105) 1 = some (.invokespecial 3, 3, []) := rfl
theorem t105_4 : q_tb (PP 105) 4 = some (.aload_n 0, 1, []) := rfl
theorem t105_5 : q_tb (PP 105) 5 = some (.iconst 0, 1, []) := rfl
theorem t105_6 : q_tb (PP 105) 6 = some (.putfield 9, 3, []) := rfl
theorem t105_9 : q_tb (PP 105) 9 = some (.aload_n 0, 1, []) := rfl
theorem t105_10 : q_tb (PP 105) 10 = some (.iconst 3, 1, []) := rfl
theorem t105_11 : q_tb (PP 105) 11 = some (.anewarray 15, 3, []) := rfl
theorem t105_14 : q_tb (PP 105) 14 = some (.putfield 17, 3, []) := rfl
theorem t105_17 : q_tb (PP 105) 17 = some (.aload_n 0, 1, []) := rfl
theorem t105_18 : q_tb (PP 105) 18 = some (.bipush 8, 2, []) := rfl
theorem t105_20 : q_tb (PP 105) 20 = some (.newarray .int, 2, []) := rfl
theorem t105_22 : q_tb (PP 105) 22 = some (.putfield 21, 3, []) := rfl
theorem t105_25 : q_tb (PP 105) 25 = some (.aload_n 0, 1, []) := rfl
theorem t105_26 : q_tb (PP 105) 26 = some (.bipush 8, 2, []) := rfl
theorem t105_28 : q_tb (PP 105) 28 = some (.newarray .int, 2, []) := rfl
theorem t105_30 : q_tb (PP 105) 30 = some (.putfield 25, 3, []) := rfl
theorem t105_33 : q_tb (PP 105) 33 = some (.aload_n 0, 1, []) := rfl
theorem t105_34 : q_tb (PP 105) 34 = some (.iload_n 1, 1, []) := rfl
theorem t105_35 : q_tb (PP 105) 35 = some (.putfield 28, 3, []) := rfl
theorem t105_38 : q_tb (PP 105) 38 = some (.iconst 0, 1, []) := rfl
theorem t105_39 : q_tb (PP 105) 39 = some (.istore_n 2, 1, []) := rfl
theorem t105_40 : q_tb (PP 105) 40 = some (.iload_n 2, 1, [1]) := rfl
theorem t105_41 : q_tb (PP 105) 41 = some (.iconst 3, 1, []) := rfl
theorem t105_42 : q_tb (PP 105) 42 = some (.if_icmp .ge 22, 3, []) := rfl
theorem t105_45 : q_tb (PP 105) 45 = some (.aload_n 0, 1, []) := rfl
theorem t105_46 : q_tb (PP 105) 46 = some (.getfield 17, 3, []) := rfl
theorem t105_49 : q_tb (PP 105) 49 = some (.iload_n 2, 1, []) := rfl
theorem t105_50 : q_tb (PP 105) 50 = some (.new 15, 3, []) := rfl
theorem t105_53 : q_tb (PP 105) 53 = some (.dup, 1, []) := rfl
theorem t105_54 : q_tb (PP 105) 54 = some (.invokespecial 31, 3, []) := rfl
theorem t105_57 : q_tb (PP 105) 57 = some (.aastore, 1, []) := rfl
theorem t105_58 : q_tb (PP 105) 58 = some (.iinc 2 1, 3, []) := rfl
theorem t105_61 : q_tb (PP 105) 61 = some (.goto (-21), 3, []) := rfl
theorem t105_64 : q_tb (PP 105) 64 = some (.return_, 1, []) := rfl
theorem t106_0 : q_tb (PP 106) 0 = some (.iload_n 1, 1, []) := rfl
theorem t106_1 : q_tb (PP 106) 1 = some (.iconst 0, 1, []) := rfl
theorem t106_2 : q_tb (PP 106) 2 = some (.aload_n 0, 1, []) := rfl
theorem t106_3 : q_tb (PP 106) 3 = some (.getfield 9, 3, []) := rfl
theorem t106_6 : q_tb (PP 106) 6 = some (.iconst 1, 1, []) := rfl
theorem t106_7 : q_tb (PP 106) 7 = some (.isub, 1, []) := rfl
theorem t106_8 : q_tb (PP 106) 8 = some (.invokestatic 32, 3, []) := rfl
theorem t106_11 : q_tb (PP 106) 11 = some (.ireturn, 1, []) := rfl
theorem t107_0 : q_tb (PP 107) 0 = some (.iload_n 1, 1, []) := rfl
theorem t107_1 : q_tb (PP 107) 1 = some (.iconst 0, 1, []) := rfl
theorem t107_2 : q_tb (PP 107) 2 = some (.aload_n 0, 1, []) := rfl
theorem t107_3 : q_tb (PP 107) 3 = some (.getfield 28, 3, []) := rfl
theorem t107_6 : q_tb (PP 107) 6 = some (.iconst 1, 1, []) := rfl
theorem t107_7 : q_tb (PP 107) 7 = some (.isub, 1, []) := rfl
theorem t107_8 : q_tb (PP 107) 8 = some (.invokestatic 32, 3, []) := rfl
theorem t107_11 : q_tb (PP 107) 11 = some (.ireturn, 1, []) := rfl
theorem t108_0 : q_tb (PP 108) 0 = some (.aload_n 0, 1, []) := rfl
theorem t108_1 : q_tb (PP 108) 1 = some (.iload_n 1, 1, []) := rfl
theorem t108_2 : q_tb (PP 108) 2 = some (.invokevirtual 36, 3, []) := rfl
theorem t108_5 : q_tb (PP 108) 5 = some (.ifCond .eq 15, 3, []) := rfl
theorem t108_8 : q_tb (PP 108) 8 = some (.aload_n 0, 1, []) := rfl
theorem t108_9 : q_tb (PP 108) 9 = some (.iload_n 2, 1, []) := rfl
theorem t108_10 : q_tb (PP 108) 10 = some (.invokevirtual 40, 3, []) := rfl
theorem t108_13 : q_tb (PP 108) 13 = some (.ifCond .eq 7, 3, []) := rfl
theorem t108_16 : q_tb (PP 108) 16 = some (.iconst 1, 1, []) := rfl
theorem t108_17 : q_tb (PP 108) 17 = some (.goto 4, 3, []) := rfl
theorem t108_20 : q_tb (PP 108) 20 = some (.iconst 0, 1, [0, 1, 2]) := rfl
theorem t108_21 : q_tb (PP 108) 21 = some (.ireturn, 1, [0, 1, 2]) := rfl
theorem t109_0 : q_tb (PP 109) 0 = some (.iconst 0, 1, []) := rfl
theorem t109_1 : q_tb (PP 109) 1 = some (.istore_n 2, 1, []) := rfl
theorem t109_2 : q_tb (PP 109) 2 = some (.iload_n 2, 1, [3]) := rfl
theorem t109_3 : q_tb (PP 109) 3 = some (.aload_n 0, 1, []) := rfl
theorem t109_4 : q_tb (PP 109) 4 = some (.getfield 28, 3, []) := rfl
theorem t109_7 : q_tb (PP 109) 7 = some (.if_icmp .ge 32, 3, []) := rfl
theorem t109_10 : q_tb (PP 109) 10 = some (.aload_n 0, 1, []) := rfl
theorem t109_11 : q_tb (PP 109) 11 = some (.aload_n 1, 1, []) := rfl
theorem t109_12 : q_tb (PP 109) 12 = some (.iload_n 2, 1, []) := rfl
theorem t109_13 : q_tb (PP 109) 13 = some (.invokevirtual 43, 3, []) := rfl
theorem t109_16 : q_tb (PP 109) 16 = some (.istore_n 3, 1, []) := rfl
theorem t109_17 : q_tb (PP 109) 17 = some (.iload_n 3, 1, []) := rfl
theorem t109_18 : q_tb (PP 109) 18 = some (.bipush 8, 2, []) := rfl
theorem t109_20 : q_tb (PP 109) 20 = some (.if_icmp .ge 13, 3, []) := rfl
theorem t109_23 : q_tb (PP 109) 23 = some (.bipush 10, 2, []) := rfl
theorem t109_25 : q_tb (PP 109) 25 = some (.iload_n 2, 1, []) := rfl
theorem t109_26 : q_tb (PP 109) 26 = some (.imul, 1, []) := rfl
theorem t109_27 : q_tb (PP 109) 27 = some (.bipush 10, 2, []) := rfl
theorem t109_29 : q_tb (PP 109) 29 = some (.iadd, 1, []) := rfl
theorem t109_30 : q_tb (PP 109) 30 = some (.iload_n 3, 1, []) := rfl
theorem t109_31 : q_tb (PP 109) 31 = some (.iadd, 1, []) := rfl
theorem t109_32 : q_tb (PP 109) 32 = some (.ireturn, 1, []) := rfl
theorem t109_33 : q_tb (PP 109) 33 = some (.iinc 2 1, 3, []) := rfl
theorem t109_36 : q_tb (PP 109) 36 = some (.goto (-34), 3, []) := rfl
theorem t109_39 : q_tb (PP 109) 39 = some (.iconst 0, 1, []) := rfl
theorem t109_40 : q_tb (PP 109) 40 = some (.ireturn, 1, []) := rfl
theorem t110_0 : q_tb (PP 110) 0 = some (.iconst 0, 1, []) := rfl
theorem t110_1 : q_tb (PP 110) 1 = some (.istore_n 2, 1, []) := rfl
theorem t110_2 : q_tb (PP 110) 2 = some (.iconst 0, 1, []) := rfl
theorem t110_3 : q_tb (PP 110) 3 = some (.istore_n 3, 1, []) := rfl
theorem t110_4 : q_tb (PP 110) 4 = some (.iload_n 3, 1, [4]) := rfl
theorem t110_5 : q_tb (PP 110) 5 = some (.aload_n 0, 1, []) := rfl
theorem t110_6 : q_tb (PP 110) 6 = some (.getfield 9, 3, []) := rfl
theorem t110_9 : q_tb (PP 110) 9 = some (.if_icmp .ge 69, 3, []) := rfl
theorem t110_12 : q_tb (PP 110) 12 = some (.iconst 0, 1, []) := rfl
theorem t110_13 : q_tb (PP 110) 13 = some (.istore 4, 2, []) := rfl
theorem t110_15 : q_tb (PP 110) 15 = some (.iload 4, 2, []) := rfl
theorem t110_17 : q_tb (PP 110) 17 = some (.aload_n 0, 1, []) := rfl
theorem t110_18 : q_tb (PP 110) 18 = some (.getfield 28, 3, []) := rfl
theorem t110_21 : q_tb (PP 110) 21 = some (.if_icmp .ge 51, 3, []) := rfl
theorem t110_24 : q_tb (PP 110) 24 = some (.aload_n 1, 1, []) := rfl
theorem t110_25 : q_tb (PP 110) 25 = some (.iload_n 3, 1, []) := rfl
theorem t110_26 : q_tb (PP 110) 26 = some (.iload 4, 2, []) := rfl
theorem t110_28 : q_tb (PP 110) 28 = some (.invokestatic 47, 3, []) := rfl
theorem t110_31 : q_tb (PP 110) 31 = some (.iaload, 1, []) := rfl
theorem t110_32 : q_tb (PP 110) 32 = some (.ifCond .eq 34, 3, []) := rfl
theorem t110_35 : q_tb (PP 110) 35 = some (.aload_n 0, 1, []) := rfl
theorem t110_36 : q_tb (PP 110) 36 = some (.aload_n 1, 1, []) := rfl
theorem t110_37 : q_tb (PP 110) 37 = some (.iload_n 3, 1, []) := rfl
theorem t110_38 : q_tb (PP 110) 38 = some (.iload 4, 2, []) := rfl
theorem t110_40 : q_tb (PP 110) 40 = some (.invokevirtual 51, 3, []) := rfl
theorem t110_43 : q_tb (PP 110) 43 = some (.ifCond .ne 23, 3, []) := rfl
theorem t110_46 : q_tb (PP 110) 46 = some (.iload_n 2, 1, []) := rfl
theorem t110_47 : q_tb (PP 110) 47 = some (.aload_n 0, 1, []) := rfl
theorem t110_48 : q_tb (PP 110) 48 = some (.getfield 17, 3, []) := rfl
theorem t110_51 : q_tb (PP 110) 51 = some (.iload_n 3, 1, []) := rfl
theorem t110_52 : q_tb (PP 110) 52 = some (.aaload, 1, []) := rfl
theorem t110_53 : q_tb (PP 110) 53 = some (.aload_n 0, 1, []) := rfl
theorem t110_54 : q_tb (PP 110) 54 = some (.aload_n 1, 1, []) := rfl
theorem t110_55 : q_tb (PP 110) 55 = some (.iload_n 3, 1, []) := rfl
theorem t110_56 : q_tb (PP 110) 56 = some (.iload 4, 2, []) := rfl
theorem t110_58 : q_tb (PP 110) 58 = some (.invokevirtual 55, 3, []) := rfl
theorem t110_61 : q_tb (PP 110) 61 = some (.invokevirtual 58, 3, []) := rfl
theorem t110_64 : q_tb (PP 110) 64 = some (.iadd, 1, []) := rfl
theorem t110_65 : q_tb (PP 110) 65 = some (.istore_n 2, 1, []) := rfl
theorem t110_66 : q_tb (PP 110) 66 = some (.iinc 4 1, 3, []) := rfl
theorem t110_69 : q_tb (PP 110) 69 = some (.goto (-54), 3, []) := rfl
theorem t110_72 : q_tb (PP 110) 72 = some (.iinc 3 1, 3, []) := rfl
theorem t110_75 : q_tb (PP 110) 75 = some (.goto (-71), 3, []) := rfl
theorem t110_78 : q_tb (PP 110) 78 = some (.iload_n 2, 1, []) := rfl
theorem t110_79 : q_tb (PP 110) 79 = some (.ireturn, 1, []) := rfl
theorem t111_0 : q_tb (PP 111) 0 = some (.iconst 0, 1, []) := rfl
theorem t111_1 : q_tb (PP 111) 1 = some (.istore_n 2, 1, []) := rfl
theorem t111_2 : q_tb (PP 111) 2 = some (.iconst 0, 1, []) := rfl
theorem t111_3 : q_tb (PP 111) 3 = some (.istore_n 3, 1, []) := rfl
theorem t111_4 : q_tb (PP 111) 4 = some (.iload_n 3, 1, [4]) := rfl
theorem t111_5 : q_tb (PP 111) 5 = some (.aload_n 0, 1, []) := rfl
theorem t111_6 : q_tb (PP 111) 6 = some (.getfield 9, 3, []) := rfl
theorem t111_9 : q_tb (PP 111) 9 = some (.if_icmp .ge 56, 3, []) := rfl
theorem t111_12 : q_tb (PP 111) 12 = some (.iconst 0, 1, []) := rfl
theorem t111_13 : q_tb (PP 111) 13 = some (.istore 4, 2, []) := rfl
theorem t111_15 : q_tb (PP 111) 15 = some (.iload 4, 2, []) := rfl
theorem t111_17 : q_tb (PP 111) 17 = some (.aload_n 0, 1, []) := rfl
theorem t111_18 : q_tb (PP 111) 18 = some (.getfield 28, 3, []) := rfl
theorem t111_21 : q_tb (PP 111) 21 = some (.if_icmp .ge 38, 3, []) := rfl
theorem t111_24 : q_tb (PP 111) 24 = some (.iload_n 2, 1, []) := rfl
theorem t111_25 : q_tb (PP 111) 25 = some (.aload_n 0, 1, []) := rfl
theorem t111_26 : q_tb (PP 111) 26 = some (.getfield 17, 3, []) := rfl
theorem t111_29 : q_tb (PP 111) 29 = some (.iload_n 3, 1, []) := rfl
theorem t111_30 : q_tb (PP 111) 30 = some (.aaload, 1, []) := rfl
theorem t111_31 : q_tb (PP 111) 31 = some (.aload_n 0, 1, []) := rfl
theorem t111_32 : q_tb (PP 111) 32 = some (.getfield 17, 3, []) := rfl
theorem t111_35 : q_tb (PP 111) 35 = some (.iload_n 3, 1, []) := rfl
theorem t111_36 : q_tb (PP 111) 36 = some (.aaload, 1, []) := rfl
theorem t111_37 : q_tb (PP 111) 37 = some (.aload_n 1, 1, []) := rfl
theorem t111_38 : q_tb (PP 111) 38 = some (.iload_n 3, 1, []) := rfl
theorem t111_39 : q_tb (PP 111) 39 = some (.iload 4, 2, []) := rfl
theorem t111_41 : q_tb (PP 111) 41 = some (.invokestatic 47, 3, []) := rfl
theorem t111_44 : q_tb (PP 111) 44 = some (.iaload, 1, []) := rfl
theorem t111_45 : q_tb (PP 111) 45 = some (.invokevirtual 62, 3, []) := rfl
theorem t111_48 : q_tb (PP 111) 48 = some (.invokevirtual 65, 3, []) := rfl
theorem t111_51 : q_tb (PP 111) 51 = some (.iadd, 1, []) := rfl
theorem t111_52 : q_tb (PP 111) 52 = some (.istore_n 2, 1, []) := rfl
theorem t111_53 : q_tb (PP 111) 53 = some (.iinc 4 1, 3, []) := rfl
theorem t111_56 : q_tb (PP 111) 56 = some (.goto (-41), 3, []) := rfl
theorem t111_59 : q_tb (PP 111) 59 = some (.iinc 3 1, 3, []) := rfl
theorem t111_62 : q_tb (PP 111) 62 = some (.goto (-58), 3, []) := rfl
theorem t111_65 : q_tb (PP 111) 65 = some (.iload_n 2, 1, []) := rfl
theorem t111_66 : q_tb (PP 111) 66 = some (.ireturn, 1, []) := rfl
theorem t112_0 : q_tb (PP 112) 0 = some (.iconst 0, 1, []) := rfl
theorem t112_1 : q_tb (PP 112) 1 = some (.istore_n 3, 1, []) := rfl
theorem t112_2 : q_tb (PP 112) 2 = some (.iconst 0, 1, []) := rfl
theorem t112_3 : q_tb (PP 112) 3 = some (.istore 4, 2, []) := rfl
theorem t112_5 : q_tb (PP 112) 5 = some (.iload 4, 2, [0]) := rfl
theorem t112_7 : q_tb (PP 112) 7 = some (.iconst 3, 1, []) := rfl
theorem t112_8 : q_tb (PP 112) 8 = some (.if_icmp .ge 31, 3, []) := rfl
theorem t112_11 : q_tb (PP 112) 11 = some (.iload_n 3, 1, []) := rfl
theorem t112_12 : q_tb (PP 112) 12 = some (.aload_n 1, 1, []) := rfl
theorem t112_13 : q_tb (PP 112) 13 = some (.iload 4, 2, []) := rfl
theorem t112_15 : q_tb (PP 112) 15 = some (.iload_n 2, 1, []) := rfl
theorem t112_16 : q_tb (PP 112) 16 = some (.invokestatic 47, 3, []) := rfl
theorem t112_19 : q_tb (PP 112) 19 = some (.iaload, 1, []) := rfl
theorem t112_20 : q_tb (PP 112) 20 = some (.ifCond .ne 7, 3, []) := rfl
theorem t112_23 : q_tb (PP 112) 23 = some (.iconst 0, 1, []) := rfl
theorem t112_24 : q_tb (PP 112) 24 = some (.goto 7, 3, []) := rfl
theorem t112_27 : q_tb (PP 112) 27 = some (.iconst 1, 1, []) := rfl
theorem t112_28 : q_tb (PP 112) 28 = some (.iload 4, 2, []) := rfl
theorem t112_30 : q_tb (PP 112) 30 = some (.ishl, 1, []) := rfl
theorem t112_31 : q_tb (PP 112) 31 = some (.ior, 1, [0, 3]) := rfl
theorem t112_32 : q_tb (PP 112) 32 = some (.istore_n 3, 1, []) := rfl
theorem t112_33 : q_tb (PP 112) 33 = some (.iinc 4 1, 3, []) := rfl
theorem t112_36 : q_tb (PP 112) 36 = some (.goto (-31), 3, []) := rfl
theorem t112_39 : q_tb (PP 112) 39 = some (.iload_n 3, 1, []) := rfl
theorem t112_40 : q_tb (PP 112) 40 = some (.ireturn, 1, []) := rfl
theorem t113_0 : q_tb (PP 113) 0 = some (.aload_n 0, 1, []) := rfl
theorem t113_1 : q_tb (PP 113) 1 = some (.aload_n 1, 1, []) := rfl
theorem t113_2 : q_tb (PP 113) 2 = some (.iload_n 2, 1, []) := rfl
theorem t113_3 : q_tb (PP 113) 3 = some (.invokevirtual 68, 3, []) := rfl
theorem t113_6 : q_tb (PP 113) 6 = some (.istore_n 3, 1, []) := rfl
theorem t113_7 : q_tb (PP 113) 7 = some (.iconst 0, 1, []) := rfl
theorem t113_8 : q_tb (PP 113) 8 = some (.istore 4, 2, []) := rfl
theorem t113_10 : q_tb (PP 113) 10 = some (.iload 4, 2, []) := rfl
theorem t113_12 : q_tb (PP 113) 12 = some (.aload_n 0, 1, []) := rfl
theorem t113_13 : q_tb (PP 113) 13 = some (.getfield 9, 3, []) := rfl
theorem t113_16 : q_tb (PP 113) 16 = some (.if_icmp .ge 22, 3, []) := rfl
theorem t113_19 : q_tb (PP 113) 19 = some (.iload_n 3, 1, []) := rfl
theorem t113_20 : q_tb (PP 113) 20 = some (.aload_n 0, 1, []) := rfl
theorem t113_21 : q_tb (PP 113) 21 = some (.aload_n 1, 1, []) := rfl
theorem t113_22 : q_tb (PP 113) 22 = some (.iload 4, 2, []) := rfl
theorem t113_24 : q_tb (PP 113) 24 = some (.iload_n 2, 1, []) := rfl
theorem t113_25 : q_tb (PP 113) 25 = some (.invokevirtual 71, 3, []) := rfl
theorem t113_28 : q_tb (PP 113) 28 = some (.invokestatic 74, 3, []) := rfl
theorem t113_31 : q_tb (PP 113) 31 = some (.istore_n 3, 1, []) := rfl
theorem t113_32 : q_tb (PP 113) 32 = some (.iinc 4 1, 3, []) := rfl
theorem t113_35 : q_tb (PP 113) 35 = some (.goto (-25), 3, []) := rfl
theorem t113_38 : q_tb (PP 113) 38 = some (.iload_n 3, 1, []) := rfl
theorem t113_39 : q_tb (PP 113) 39 = some (.ireturn, 1, []) := rfl
theorem t114_0 : q_tb (PP 114) 0 = some (.iconst 0, 1, []) := rfl
theorem t114_1 : q_tb (PP 114) 1 = some (.istore_n 3, 1, []) := rfl
theorem t114_2 : q_tb (PP 114) 2 = some (.iconst 0, 1, []) := rfl
theorem t114_3 : q_tb (PP 114) 3 = some (.istore 4, 2, []) := rfl
theorem t114_5 : q_tb (PP 114) 5 = some (.iconst 0, 1, []) := rfl
theorem t114_6 : q_tb (PP 114) 6 = some (.istore 5, 2, []) := rfl
theorem t114_8 : q_tb (PP 114) 8 = some (.iload 5, 2, [6]) := rfl
theorem t114_10 : q_tb (PP 114) 10 = some (.aload_n 0, 1, []) := rfl
theorem t114_11 : q_tb (PP 114) 11 = some (.getfield 9, 3, []) := rfl
theorem t114_14 : q_tb (PP 114) 14 = some (.if_icmp .ge 48, 3, []) := rfl
theorem t114_17 : q_tb (PP 114) 17 = some (.aload_n 1, 1, []) := rfl
theorem t114_18 : q_tb (PP 114) 18 = some (.iload 5, 2, []) := rfl
theorem t114_20 : q_tb (PP 114) 20 = some (.iload_n 2, 1, []) := rfl
theorem t114_21 : q_tb (PP 114) 21 = some (.invokestatic 47, 3, []) := rfl
theorem t114_24 : q_tb (PP 114) 24 = some (.iaload, 1, []) := rfl
theorem t114_25 : q_tb (PP 114) 25 = some (.istore 6, 2, []) := rfl
theorem t114_27 : q_tb (PP 114) 27 = some (.iload_n 3, 1, []) := rfl
theorem t114_28 : q_tb (PP 114) 28 = some (.iload 6, 2, []) := rfl
theorem t114_30 : q_tb (PP 114) 30 = some (.iadd, 1, []) := rfl
theorem t114_31 : q_tb (PP 114) 31 = some (.istore_n 3, 1, []) := rfl
theorem t114_32 : q_tb (PP 114) 32 = some (.iload 4, 2, []) := rfl
theorem t114_34 : q_tb (PP 114) 34 = some (.iload 6, 2, []) := rfl
theorem t114_36 : q_tb (PP 114) 36 = some (.ifCond .ne 7, 3, []) := rfl
theorem t114_39 : q_tb (PP 114) 39 = some (.iconst 0, 1, []) := rfl
theorem t114_40 : q_tb (PP 114) 40 = some (.goto 13, 3, []) := rfl
theorem t114_43 : q_tb (PP 114) 43 = some (.aload_n 0, 1, []) := rfl
theorem t114_44 : q_tb (PP 114) 44 = some (.getfield 17, 3, []) := rfl
theorem t114_47 : q_tb (PP 114) 47 = some (.iload 5, 2, []) := rfl
theorem t114_49 : q_tb (PP 114) 49 = some (.aaload, 1, []) := rfl
theorem t114_50 : q_tb (PP 114) 50 = some (.getfield 79, 3, []) := rfl
theorem t114_53 : q_tb (PP 114) 53 = some (.iadd, 1, [4, 6]) := rfl
theorem t114_54 : q_tb (PP 114) 54 = some (.istore 4, 2, []) := rfl
theorem t114_56 : q_tb (PP 114) 56 = some (.iinc 5 1, 3, []) := rfl
theorem t114_59 : q_tb (PP 114) 59 = some (.goto (-51), 3, []) := rfl
theorem t114_62 : q_tb (PP 114) 62 = some (.iload_n 3, 1, []) := rfl
theorem t114_63 : q_tb (PP 114) 63 = some (.aload_n 0, 1, []) := rfl
theorem t114_64 : q_tb (PP 114) 64 = some (.getfield 21, 3, []) := rfl
theorem t114_67 : q_tb (PP 114) 67 = some (.iload_n 2, 1, []) := rfl
theorem t114_68 : q_tb (PP 114) 68 = some (.iaload, 1, []) := rfl
theorem t114_69 : q_tb (PP 114) 69 = some (.if_icmp .eq 5, 3, []) := rfl
theorem t114_72 : q_tb (PP 114) 72 = some (.iconst 2, 1, []) := rfl
theorem t114_73 : q_tb (PP 114) 73 = some (.ireturn, 1, []) := rfl
theorem t114_74 : q_tb (PP 114) 74 = some (.iload 4, 2, []) := rfl
theorem t114_76 : q_tb (PP 114) 76 = some (.aload_n 0, 1, []) := rfl
theorem t114_77 : q_tb (PP 114) 77 = some (.getfield 21, 3, []) := rfl
theorem t114_80 : q_tb (PP 114) 80 = some (.iload_n 2, 1, []) := rfl
theorem t114_81 : q_tb (PP 114) 81 = some (.iaload, 1, []) := rfl
theorem t114_82 : q_tb (PP 114) 82 = some (.isub, 1, []) := rfl
theorem t114_83 : q_tb (PP 114) 83 = some (.aload_n 0, 1, []) := rfl
theorem t114_84 : q_tb (PP 114) 84 = some (.getfield 25, 3, []) := rfl
theorem t114_87 : q_tb (PP 114) 87 = some (.iload_n 2, 1, []) := rfl
theorem t114_88 : q_tb (PP 114) 88 = some (.iaload, 1, []) := rfl
theorem t114_89 : q_tb (PP 114) 89 = some (.if_icmp .ge 7, 3, []) := rfl
theorem t114_92 : q_tb (PP 114) 92 = some (.iconst 3, 1, []) := rfl
theorem t114_93 : q_tb (PP 114) 93 = some (.goto 5, 3, []) := rfl
theorem t114_96 : q_tb (PP 114) 96 = some (.bipush 8, 2, []) := rfl
theorem t114_98 : q_tb (PP 114) 98 = some (.ireturn, 1, [0, 1, 2, 3, 4, 5, 6]) := rfl
theorem t115_0 : q_tb (PP 115) 0 = some (.aload_n 0, 1, []) := rfl
theorem t115_1 : q_tb (PP 115) 1 = some (.getfield 17, 3, []) := rfl
theorem t115_4 : q_tb (PP 115) 4 = some (.iload_n 2, 1, []) := rfl
theorem t115_5 : q_tb (PP 115) 5 = some (.aaload, 1, []) := rfl
theorem t115_6 : q_tb (PP 115) 6 = some (.astore 4, 2, []) := rfl
theorem t115_8 : q_tb (PP 115) 8 = some (.aload_n 1, 1, []) := rfl
theorem t115_9 : q_tb (PP 115) 9 = some (.iload_n 2, 1, []) := rfl
theorem t115_10 : q_tb (PP 115) 10 = some (.iload_n 3, 1, []) := rfl
theorem t115_11 : q_tb (PP 115) 11 = some (.invokestatic 47, 3, []) := rfl
theorem t115_14 : q_tb (PP 115) 14 = some (.iaload, 1, []) := rfl
theorem t115_15 : q_tb (PP 115) 15 = some (.istore 5, 2, []) := rfl
theorem t115_17 : q_tb (PP 115) 17 = some (.aload_n 0, 1, []) := rfl
theorem t115_18 : q_tb (PP 115) 18 = some (.aload_n 1, 1, []) := rfl
theorem t115_19 : q_tb (PP 115) 19 = some (.iload_n 2, 1, []) := rfl
theorem t115_20 : q_tb (PP 115) 20 = some (.iload_n 3, 1, []) := rfl
theorem t115_21 : q_tb (PP 115) 21 = some (.invokevirtual 51, 3, []) := rfl
theorem t115_24 : q_tb (PP 115) 24 = some (.istore 6, 2, []) := rfl
theorem t115_26 : q_tb (PP 115) 26 = some (.iload 5, 2, []) := rfl
theorem t115_28 : q_tb (PP 115) 28 = some (.ifCond .eq 15, 3, []) := rfl
theorem t115_31 : q_tb (PP 115) 31 = some (.aload 4, 2, []) := rfl
theorem t115_33 : q_tb (PP 115) 33 = some (.iload 5, 2, []) := rfl
theorem t115_35 : q_tb (PP 115) 35 = some (.invokevirtual 82, 3, []) := rfl
theorem t115_38 : q_tb (PP 115) 38 = some (.ifCond .ne 5, 3, []) := rfl
theorem t115_41 : q_tb (PP 115) 41 = some (.iconst 1, 1, []) := rfl
theorem t115_42 : q_tb (PP 115) 42 = some (.ireturn, 1, []) := rfl
theorem t115_43 : q_tb (PP 115) 43 = some (.iload 5, 2, []) := rfl
theorem t115_45 : q_tb (PP 115) 45 = some (.ifCond .ne 30, 3, []) := rfl
theorem t115_48 : q_tb (PP 115) 48 = some (.iload 6, 2, []) := rfl
theorem t115_50 : q_tb (PP 115) 50 = some (.ifCond .eq 22, 3, []) := rfl
theorem t115_53 : q_tb (PP 115) 53 = some (.aload_n 0, 1, []) := rfl
theorem t115_54 : q_tb (PP 115) 54 = some (.aload_n 1, 1, []) := rfl
theorem t115_55 : q_tb (PP 115) 55 = some (.iload_n 2, 1, []) := rfl
theorem t115_56 : q_tb (PP 115) 56 = some (.iload_n 3, 1, []) := rfl
theorem t115_57 : q_tb (PP 115) 57 = some (.invokevirtual 55, 3, []) := rfl
theorem t115_60 : q_tb (PP 115) 60 = some (.aload 4, 2, []) := rfl
theorem t115_62 : q_tb (PP 115) 62 = some (.getfield 85, 3, []) := rfl
theorem t115_65 : q_tb (PP 115) 65 = some (.if_icmp .ge 7, 3, []) := rfl
theorem t115_68 : q_tb (PP 115) 68 = some (.iconst 4, 1, []) := rfl
theorem t115_69 : q_tb (PP 115) 69 = some (.goto 5, 3, []) := rfl
theorem t115_72 : q_tb (PP 115) 72 = some (.bipush 8, 2, [0, 1, 2, 3, 4, 5, 6]) := rfl
theorem t115_74 : q_tb (PP 115) 74 = some (.ireturn, 1, [0, 1, 2, 3, 4, 5, 6]) := rfl
theorem t115_75 : q_tb (PP 115) 75 = some (.iload 6, 2, []) := rfl
theorem t115_77 : q_tb (PP 115) 77 = some (.ifCond .eq 27, 3, []) := rfl
theorem t115_80 : q_tb (PP 115) 80 = some (.iload 5, 2, []) := rfl
theorem t115_82 : q_tb (PP 115) 82 = some (.iload 6, 2, []) := rfl
theorem t115_84 : q_tb (PP 115) 84 = some (.isub, 1, []) := rfl
theorem t115_85 : q_tb (PP 115) 85 = some (.invokestatic 88, 3, []) := rfl
theorem t115_88 : q_tb (PP 115) 88 = some (.aload 4, 2, []) := rfl
theorem t115_90 : q_tb (PP 115) 90 = some (.getfield 91, 3, []) := rfl
theorem t115_93 : q_tb (PP 115) 93 = some (.if_icmp .le 8, 3, []) := rfl
theorem t115_96 : q_tb (PP 115) 96 = some (.bipush 6, 2, []) := rfl
theorem t115_98 : q_tb (PP 115) 98 = some (.goto 5, 3, []) := rfl
theorem t115_101 : q_tb (PP 115) 101 = some (.bipush 8, 2, []) := rfl
theorem t115_103 : q_tb (PP 115) 103 = some (.ireturn, 1, [0, 1, 2, 3, 4, 5, 6]) := rfl
theorem t115_104 : q_tb (PP 115) 104 = some (.aload_n 0, 1, []) := rfl
theorem t115_105 : q_tb (PP 115) 105 = some (.aload_n 1, 1, []) := rfl
theorem t115_106 : q_tb (PP 115) 106 = some (.iload_n 2, 1, []) := rfl
theorem t115_107 : q_tb (PP 115) 107 = some (.iload_n 3, 1, []) := rfl
theorem t115_108 : q_tb (PP 115) 108 = some (.invokevirtual 55, 3, []) := rfl
theorem t115_111 : q_tb (PP 115) 111 = some (.aload 4, 2, []) := rfl
theorem t115_113 : q_tb (PP 115) 113 = some (.getfield 94, 3, []) := rfl
theorem t115_116 : q_tb (PP 115) 116 = some (.if_icmp .ge 5, 3, []) := rfl
theorem t115_119 : q_tb (PP 115) 119 = some (.iconst 5, 1, []) := rfl
theorem t115_120 : q_tb (PP 115) 120 = some (.ireturn, 1, []) := rfl
theorem t115_121 : q_tb (PP 115) 121 = some (.iload 5, 2, []) := rfl
theorem t115_123 : q_tb (PP 115) 123 = some (.aload 4, 2, []) := rfl
theorem t115_125 : q_tb (PP 115) 125 = some (.getfield 97, 3, []) := rfl
theorem t115_128 : q_tb (PP 115) 128 = some (.aload 4, 2, []) := rfl
theorem t115_130 : q_tb (PP 115) 130 = some (.getfield 91, 3, []) := rfl
theorem t115_133 : q_tb (PP 115) 133 = some (.iadd, 1, []) := rfl
theorem t115_134 : q_tb (PP 115) 134 = some (.if_icmp .le 8, 3, []) := rfl
theorem t115_137 : q_tb (PP 115) 137 = some (.bipush 7, 2, []) := rfl
theorem t115_139 : q_tb (PP 115) 139 = some (.goto 5, 3, []) := rfl
theorem t115_142 : q_tb (PP 115) 142 = some (.bipush 8, 2, []) := rfl
theorem t115_144 : q_tb (PP 115) 144 = some (.ireturn, 1, [0, 1, 2, 3, 4, 5, 6]) := rfl
theorem t116_0 : q_tb (PP 116) 0 = some (.iload_n 3, 1, []) := rfl
theorem t116_1 : q_tb (PP 116) 1 = some (.ifCond .ne 15, 3, []) := rfl
theorem t116_4 : q_tb (PP 116) 4 = some (.aload_n 0, 1, []) := rfl
theorem t116_5 : q_tb (PP 116) 5 = some (.getfield 17, 3, []) := rfl
theorem t116_8 : q_tb (PP 116) 8 = some (.iload_n 2, 1, []) := rfl
theorem t116_9 : q_tb (PP 116) 9 = some (.aaload, 1, []) := rfl
theorem t116_10 : q_tb (PP 116) 10 = some (.getfield 100, 3, []) := rfl
theorem t116_13 : q_tb (PP 116) 13 = some (.goto 12, 3, []) := rfl
theorem t116_16 : q_tb (PP 116) 16 = some (.aload_n 1, 1, []) := rfl
theorem t116_17 : q_tb (PP 116) 17 = some (.iload_n 2, 1, []) := rfl
theorem t116_18 : q_tb (PP 116) 18 = some (.iload_n 3, 1, []) := rfl
theorem t116_19 : q_tb (PP 116) 19 = some (.iconst 1, 1, []) := rfl
theorem t116_20 : q_tb (PP 116) 20 = some (.isub, 1, []) := rfl
theorem t116_21 : q_tb (PP 116) 21 = some (.invokestatic 47, 3, []) := rfl
theorem t116_24 : q_tb (PP 116) 24 = some (.iaload, 1, []) := rfl
theorem t116_25 : q_tb (PP 116) 25 = some (.ireturn, 1, [0, 1, 2, 3]) := rfl
theorem t117_0 : q_tb (PP 117) 0 = some (.aload_n 0, 1, []) := rfl
theorem t117_1 : q_tb (PP 117) 1 = some (.aload_n 1, 1, []) := rfl
theorem t117_2 : q_tb (PP 117) 2 = some (.iload_n 2, 1, []) := rfl
theorem t117_3 : q_tb (PP 117) 3 = some (.iload_n 3, 1, []) := rfl
theorem t117_4 : q_tb (PP 117) 4 = some (.invokevirtual 51, 3, []) := rfl
theorem t117_7 : q_tb (PP 117) 7 = some (.ifCond .eq 7, 3, []) := rfl
theorem t117_10 : q_tb (PP 117) 10 = some (.iconst 1, 1, []) := rfl
theorem t117_11 : q_tb (PP 117) 11 = some (.goto 4, 3, []) := rfl
theorem t117_14 : q_tb (PP 117) 14 = some (.iconst 0, 1, []) := rfl
theorem t117_15 : q_tb (PP 117) 15 = some (.istore 4, 2, []) := rfl
theorem t117_17 : q_tb (PP 117) 17 = some (.iconst 0, 1, []) := rfl
theorem t117_18 : q_tb (PP 117) 18 = some (.istore 5, 2, []) := rfl
theorem t117_20 : q_tb (PP 117) 20 = some (.iload_n 3, 1, []) := rfl
theorem t117_21 : q_tb (PP 117) 21 = some (.iconst 1, 1, []) := rfl
theorem t117_22 : q_tb (PP 117) 22 = some (.isub, 1, []) := rfl
theorem t117_23 : q_tb (PP 117) 23 = some (.istore 6, 2, []) := rfl
theorem t117_25 : q_tb (PP 117) 25 = some (.iload 6, 2, [3]) := rfl
theorem t117_27 : q_tb (PP 117) 27 = some (.ifCond .lt 36, 3, []) := rfl
theorem t117_30 : q_tb (PP 117) 30 = some (.aload_n 1, 1, []) := rfl
theorem t117_31 : q_tb (PP 117) 31 = some (.iload_n 2, 1, []) := rfl
theorem t117_32 : q_tb (PP 117) 32 = some (.iload 6, 2, []) := rfl
theorem t117_34 : q_tb (PP 117) 34 = some (.invokestatic 47, 3, []) := rfl
theorem t117_37 : q_tb (PP 117) 37 = some (.iaload, 1, []) := rfl
theorem t117_38 : q_tb (PP 117) 38 = some (.ifCond .eq 7, 3, []) := rfl
theorem t117_41 : q_tb (PP 117) 41 = some (.iconst 1, 1, []) := rfl
theorem t117_42 : q_tb (PP 117) 42 = some (.goto 4, 3, []) := rfl
theorem t117_45 : q_tb (PP 117) 45 = some (.iconst 0, 1, []) := rfl
theorem t117_46 : q_tb (PP 117) 46 = some (.iload 4, 2, [3]) := rfl
theorem t117_48 : q_tb (PP 117) 48 = some (.if_icmp .eq 6, 3, []) := rfl
theorem t117_51 : q_tb (PP 117) 51 = some (.iload 5, 2, []) := rfl
theorem t117_53 : q_tb (PP 117) 53 = some (.ireturn, 1, []) := rfl
theorem t117_54 : q_tb (PP 117) 54 = some (.iinc 5 1, 3, []) := rfl
theorem t117_57 : q_tb (PP 117) 57 = some (.iinc 6 (-1), 3, []) := rfl
theorem t117_60 : q_tb (PP 117) 60 = some (.goto (-35), 3, []) := rfl
theorem t117_63 : q_tb (PP 117) 63 = some (.aload_n 0, 1, []) := rfl
theorem t117_64 : q_tb (PP 117) 64 = some (.getfield 17, 3, []) := rfl
theorem t117_67 : q_tb (PP 117) 67 = some (.iload_n 2, 1, []) := rfl
theorem t117_68 : q_tb (PP 117) 68 = some (.aaload, 1, []) := rfl
theorem t117_69 : q_tb (PP 117) 69 = some (.getfield 100, 3, []) := rfl
theorem t117_72 : q_tb (PP 117) 72 = some (.ifCond .eq 7, 3, []) := rfl
theorem t117_75 : q_tb (PP 117) 75 = some (.iconst 1, 1, []) := rfl
theorem t117_76 : q_tb (PP 117) 76 = some (.goto 4, 3, []) := rfl
theorem t117_79 : q_tb (PP 117) 79 = some (.iconst 0, 1, []) := rfl
theorem t117_80 : q_tb (PP 117) 80 = some (.iload 4, 2, [1, 3, 6]) := rfl
theorem t117_82 : q_tb (PP 117) 82 = some (.if_icmp .ne 7, 3, []) := rfl
theorem t117_85 : q_tb (PP 117) 85 = some (.iconst 1, 1, []) := rfl
theorem t117_86 : q_tb (PP 117) 86 = some (.goto 4, 3, []) := rfl
theorem t117_89 : q_tb (PP 117) 89 = some (.iconst 0, 1, []) := rfl
theorem t117_90 : q_tb (PP 117) 90 = some (.istore 6, 2, [1, 3, 4, 6]) := rfl
theorem t117_92 : q_tb (PP 117) 92 = some (.iload 6, 2, []) := rfl
theorem t117_94 : q_tb (PP 117) 94 = some (.ifCond .eq 18, 3, []) := rfl
theorem t117_97 : q_tb (PP 117) 97 = some (.iload 5, 2, []) := rfl
theorem t117_99 : q_tb (PP 117) 99 = some (.aload_n 0, 1, []) := rfl
theorem t117_100 : q_tb (PP 117) 100 = some (.getfield 17, 3, []) := rfl
theorem t117_103 : q_tb (PP 117) 103 = some (.iload_n 2, 1, []) := rfl
theorem t117_104 : q_tb (PP 117) 104 = some (.aaload, 1, []) := rfl
theorem t117_105 : q_tb (PP 117) 105 = some (.getfield 103, 3, []) := rfl
theorem t117_108 : q_tb (PP 117) 108 = some (.iadd, 1, []) := rfl
theorem t117_109 : q_tb (PP 117) 109 = some (.goto 5, 3, []) := rfl
theorem t117_112 : q_tb (PP 117) 112 = some (.iload 5, 2, []) := rfl
theorem t117_114 : q_tb (PP 117) 114 = some (.ireturn, 1, [0, 1, 2, 3, 4, 5, 6]) := rfl
theorem t118_0 : q_tb (PP 118) 0 = some (.aload_n 0, 1, []) := rfl
theorem t118_1 : q_tb (PP 118) 1 = some (.invokespecial 3, 3, []) := rfl
theorem t118_4 : q_tb (PP 118) 4 = some (.aload_n 0, 1, []) := rfl
theorem t118_5 : q_tb (PP 118) 5 = some (.iconst 1, 1, []) := rfl
theorem t118_6 : q_tb (PP 118) 6 = some (.putfield 9, 3, []) := rfl
theorem t118_9 : q_tb (PP 118) 9 = some (.aload_n 0, 1, []) := rfl
theorem t118_10 : q_tb (PP 118) 10 = some (.iconst 0, 1, []) := rfl
theorem t118_11 : q_tb (PP 118) 11 = some (.putfield 15, 3, []) := rfl
theorem t118_14 : q_tb (PP 118) 14 = some (.aload_n 0, 1, []) := rfl
theorem t118_15 : q_tb (PP 118) 15 = some (.iconst 1, 1, []) := rfl
theorem t118_16 : q_tb (PP 118) 16 = some (.putfield 18, 3, []) := rfl
theorem t118_19 : q_tb (PP 118) 19 = some (.aload_n 0, 1, []) := rfl
theorem t118_20 : q_tb (PP 118) 20 = some (.iconst 1, 1, []) := rfl
theorem t118_21 : q_tb (PP 118) 21 = some (.putfield 21, 3, []) := rfl
theorem t118_24 : q_tb (PP 118) 24 = some (.aload_n 0, 1, []) := rfl
theorem t118_25 : q_tb (PP 118) 25 = some (.iconst 1, 1, []) := rfl
theorem t118_26 : q_tb (PP 118) 26 = some (.putfield 24, 3, []) := rfl
theorem t118_29 : q_tb (PP 118) 29 = some (.aload_n 0, 1, []) := rfl
theorem t118_30 : q_tb (PP 118) 30 = some (.iconst 0, 1, []) := rfl
theorem t118_31 : q_tb (PP 118) 31 = some (.putfield 27, 3, []) := rfl
theorem t118_34 : q_tb (PP 118) 34 = some (.aload_n 0, 1, []) := rfl
theorem t118_35 : q_tb (PP 118) 35 = some (.iconst 3, 1, []) := rfl
theorem t118_36 : q_tb (PP 118) 36 = some (.putfield 30, 3, []) := rfl
theorem t118_39 : q_tb (PP 118) 39 = some (.aload_n 0, 1, []) := rfl
theorem t118_40 : q_tb (PP 118) 40 = some (.iconst 5, 1, []) := rfl
theorem t118_41 : q_tb (PP 118) 41 = some (.newarray .int, 2, []) := rfl
theorem t118_43 : q_tb (PP 118) 43 = some (.putfield 33, 3, []) := rfl
theorem t118_46 : q_tb (PP 118) 46 = some (.aload_n 0, 1, []) := rfl
theorem t118_47 : q_tb (PP 118) 47 = some (.iconst 3, 1, []) := rfl
theorem t118_48 : q_tb (PP 118) 48 = some (.newarray .int, 2, []) := rfl
theorem t118_50 : q_tb (PP 118) 50 = some (.putfield 37, 3, []) := rfl
theorem t118_53 : q_tb (PP 118) 53 = some (.aload_n 0, 1, []) := rfl
theorem t118_54 : q_tb (PP 118) 54 = some (.bipush 75, 2, []) := rfl
theorem t118_56 : q_tb (PP 118) 56 = some (.newarray .int, 2, []) := rfl
theorem t118_58 : q_tb (PP 118) 58 = some (.putfield 40, 3, []) := rfl
theorem t118_61 : q_tb (PP 118) 61 = some (.aload_n 0, 1, []) := rfl
theorem t118_62 : q_tb (PP 118) 62 = some (.invokevirtual 43, 3, []) := rfl
theorem t118_65 : q_tb (PP 118) 65 = some (.return_, 1, []) := rfl
theorem t119_0 : q_tb (PP 119) 0 = some (.aload_n 0, 1, []) := rfl
theorem t119_1 : q_tb (PP 119) 1 = some (.iload_n 1, 1, []) := rfl
theorem t119_2 : q_tb (PP 119) 2 = some (.putfield 9, 3, []) := rfl
theorem t119_5 : q_tb (PP 119) 5 = some (.aload_n 0, 1, []) := rfl
theorem t119_6 : q_tb (PP 119) 6 = some (.iload_n 2, 1, []) := rfl
theorem t119_7 : q_tb (PP 119) 7 = some (.putfield 15, 3, []) := rfl
theorem t119_10 : q_tb (PP 119) 10 = some (.aload_n 0, 1, []) := rfl
theorem t119_11 : q_tb (PP 119) 11 = some (.iload_n 3, 1, []) := rfl
theorem t119_12 : q_tb (PP 119) 12 = some (.putfield 18, 3, []) := rfl
theorem t119_15 : q_tb (PP 119) 15 = some (.aload_n 0, 1, []) := rfl
theorem t119_16 : q_tb (PP 119) 16 = some (.iload 4, 2, []) := rfl
theorem t119_18 : q_tb (PP 119) 18 = some (.putfield 21, 3, []) := rfl
theorem t119_21 : q_tb (PP 119) 21 = some (.aload_n 0, 1, []) := rfl
theorem t119_22 : q_tb (PP 119) 22 = some (.iload 5, 2, []) := rfl
theorem t119_24 : q_tb (PP 119) 24 = some (.putfield 24, 3, []) := rfl
theorem t119_27 : q_tb (PP 119) 27 = some (.aload_n 0, 1, []) := rfl
theorem t119_28 : q_tb (PP 119) 28 = some (.invokevirtual 43, 3, []) := rfl
theorem t119_31 : q_tb (PP 119) 31 = some (.return_, 1, []) := rfl
theorem t120_0 : q_tb (PP 120) 0 = some (.aload_n 0, 1, []) := rfl
theorem t120_1 : q_tb (PP 120) 1 = some (.getfield 33, 3, []) := rfl
theorem t120_4 : q_tb (PP 120) 4 = some (.iconst 1, 1, []) := rfl
theorem t120_5 : q_tb (PP 120) 5 = some (.iload_n 1, 1, []) := rfl
theorem t120_6 : q_tb (PP 120) 6 = some (.iastore, 1, []) := rfl
theorem t120_7 : q_tb (PP 120) 7 = some (.aload_n 0, 1, []) := rfl
theorem t120_8 : q_tb (PP 120) 8 = some (.getfield 33, 3, []) := rfl
theorem t120_11 : q_tb (PP 120) 11 = some (.iconst 2, 1, []) := rfl
theorem t120_12 : q_tb (PP 120) 12 = some (.iload_n 1, 1, []) := rfl
theorem t120_13 : q_tb (PP 120) 13 = some (.iload_n 2, 1, []) := rfl
theorem t120_14 : q_tb (PP 120) 14 = some (.iadd, 1, []) := rfl
theorem t120_15 : q_tb (PP 120) 15 = some (.iastore, 1, []) := rfl
theorem t120_16 : q_tb (PP 120) 16 = some (.aload_n 0, 1, []) := rfl
theorem t120_17 : q_tb (PP 120) 17 = some (.getfield 33, 3, []) := rfl
theorem t120_20 : q_tb (PP 120) 20 = some (.iconst 3, 1, []) := rfl
theorem t120_21 : q_tb (PP 120) 21 = some (.iload_n 1, 1, []) := rfl
theorem t120_22 : q_tb (PP 120) 22 = some (.iload_n 2, 1, []) := rfl
theorem t120_23 : q_tb (PP 120) 23 = some (.iadd, 1, []) := rfl
theorem t120_24 : q_tb (PP 120) 24 = some (.iload_n 3, 1, []) := rfl
theorem t120_25 : q_tb (PP 120) 25 = some (.iadd, 1, []) := rfl
theorem t120_26 : q_tb (PP 120) 26 = some (.iastore, 1, []) := rfl
theorem t120_27 : q_tb (PP 120) 27 = some (.aload_n 0, 1, []) := rfl
theorem t120_28 : q_tb (PP 120) 28 = some (.getfield 33, 3, []) := rfl
theorem t120_31 : q_tb (PP 120) 31 = some (.iconst 4, 1, []) := rfl
theorem t120_32 : q_tb (PP 120) 32 = some (.iload_n 1, 1, []) := rfl
theorem t120_33 : q_tb (PP 120) 33 = some (.iload_n 2, 1, []) := rfl
theorem t120_34 : q_tb (PP 120) 34 = some (.iadd, 1, []) := rfl
theorem t120_35 : q_tb (PP 120) 35 = some (.iload_n 3, 1, []) := rfl
theorem t120_36 : q_tb (PP 120) 36 = some (.iadd, 1, []) := rfl
theorem t120_37 : q_tb (PP 120) 37 = some (.iload 4, 2, []) := rfl
theorem t120_39 : q_tb (PP 120) 39 = some (.iadd, 1, []) := rfl
theorem t120_40 : q_tb (PP 120) 40 = some (.iastore, 1, []) := rfl
theorem t120_41 : q_tb (PP 120) 41 = some (.return_, 1, []) := rfl
theorem t121_0 : q_tb (PP 121) 0 = some (.aload_n 0, 1, []) := rfl
theorem t121_1 : q_tb (PP 121) 1 = some (.getfield 37, 3, []) := rfl
theorem t121_4 : q_tb (PP 121) 4 = some (.iconst 0, 1, []) := rfl
theorem t121_5 : q_tb (PP 121) 5 = some (.iload_n 1, 1, []) := rfl
theorem t121_6 : q_tb (PP 121) 6 = some (.iastore, 1, []) := rfl
theorem t121_7 : q_tb (PP 121) 7 = some (.aload_n 0, 1, []) := rfl
theorem t121_8 : q_tb (PP 121) 8 = some (.getfield 37, 3, []) := rfl
theorem t121_11 : q_tb (PP 121) 11 = some (.iconst 1, 1, []) := rfl
theorem t121_12 : q_tb (PP 121) 12 = some (.iload_n 2, 1, []) := rfl
theorem t121_13 : q_tb (PP 121) 13 = some (.iastore, 1, []) := rfl
theorem t121_14 : q_tb (PP 121) 14 = some (.aload_n 0, 1, []) := rfl
theorem t121_15 : q_tb (PP 121) 15 = some (.getfield 37, 3, []) := rfl
theorem t121_18 : q_tb (PP 121) 18 = some (.iconst 2, 1, []) := rfl
theorem t121_19 : q_tb (PP 121) 19 = some (.iload_n 3, 1, []) := rfl
theorem t121_20 : q_tb (PP 121) 20 = some (.iastore, 1, []) := rfl
theorem t121_21 : q_tb (PP 121) 21 = some (.return_, 1, []) := rfl
theorem t122_0 : q_tb (PP 122) 0 = some (.aload_n 0, 1, []) := rfl
theorem t122_1 : q_tb (PP 122) 1 = some (.getfield 9, 3, []) := rfl
theorem t122_4 : q_tb (PP 122) 4 = some (.iload_n 1, 1, []) := rfl
theorem t122_5 : q_tb (PP 122) 5 = some (.if_icmp .gt 15, 3, []) := rfl
theorem t122_8 : q_tb (PP 122) 8 = some (.iload_n 1, 1, []) := rfl
theorem t122_9 : q_tb (PP 122) 9 = some (.aload_n 0, 1, []) := rfl
theorem t122_10 : q_tb (PP 122) 10 = some (.getfield 15, 3, []) := rfl
theorem t122_13 : q_tb (PP 122) 13 = some (.if_icmp .gt 7, 3, []) := rfl
theorem t122_16 : q_tb (PP 122) 16 = some (.iconst 1, 1, []) := rfl
theorem t122_17 : q_tb (PP 122) 17 = some (.goto 4, 3, []) := rfl
theorem t122_20 : q_tb (PP 122) 20 = some (.iconst 0, 1, [0, 1]) := rfl
theorem t122_21 : q_tb (PP 122) 21 = some (.ireturn, 1, [0, 1]) := rfl
theorem t123_0 : q_tb (PP 123) 0 = some (.iload_n 1, 1, []) := rfl
theorem t123_1 : q_tb (PP 123) 1 = some (.ifCond .eq 18, 3, []) := rfl
theorem t123_4 : q_tb (PP 123) 4 = some (.aload_n 0, 1, []) := rfl
theorem t123_5 : q_tb (PP 123) 5 = some (.getfield 9, 3, []) := rfl
theorem t123_8 : q_tb (PP 123) 8 = some (.iload_n 1, 1, []) := rfl
theorem t123_9 : q_tb (PP 123) 9 = some (.iadd, 1, []) := rfl
theorem t123_10 : q_tb (PP 123) 10 = some (.iconst 1, 1, []) := rfl
theorem t123_11 : q_tb (PP 123) 11 = some (.isub, 1, []) := rfl
theorem t123_12 : q_tb (PP 123) 12 = some (.aload_n 0, 1, []) := rfl
theorem t123_13 : q_tb (PP 123) 13 = some (.getfield 15, 3, []) := rfl
theorem t123_16 : q_tb (PP 123) 16 = some (.if_icmp .gt 7, 3, []) := rfl
theorem t123_19 : q_tb (PP 123) 19 = some (.iconst 1, 1, [0, 1]) := rfl
theorem t123_20 : q_tb (PP 123) 20 = some (.goto 4, 3, []) := rfl
theorem t123_23 : q_tb (PP 123) 23 = some (.iconst 0, 1, []) := rfl
theorem t123_24 : q_tb (PP 123) 24 = some (.ireturn, 1, [0, 1]) := rfl
theorem t124_0 : q_tb (PP 124) 0 = some (.iload_n 1, 1, []) := rfl
theorem t124_1 : q_tb (PP 124) 1 = some (.ifCond .ne 7, 3, []) := rfl
theorem t124_4 : q_tb (PP 124) 4 = some (.iconst 0, 1, []) := rfl
theorem t124_5 : q_tb (PP 124) 5 = some (.goto 11, 3, []) := rfl
theorem t124_8 : q_tb (PP 124) 8 = some (.aload_n 0, 1, []) := rfl
theorem t124_9 : q_tb (PP 124) 9 = some (.getfield 9, 3, []) := rfl
theorem t124_12 : q_tb (PP 124) 12 = some (.iload_n 1, 1, []) := rfl
theorem t124_13 : q_tb (PP 124) 13 = some (.iadd, 1, []) := rfl
theorem t124_14 : q_tb (PP 124) 14 = some (.iconst 1, 1, []) := rfl
theorem t124_15 : q_tb (PP 124) 15 = some (.isub, 1, []) := rfl
theorem t124_16 : q_tb (PP 124) 16 = some (.ireturn, 1, [0, 1]) := rfl
theorem t125_0 : q_tb (PP 125) 0 = some (.aload_n 0, 1, []) := rfl
theorem t125_1 : q_tb (PP 125) 1 = some (.iload_n 1, 1, []) := rfl
theorem t125_2 : q_tb (PP 125) 2 = some (.invokevirtual 46, 3, []) := rfl
theorem t125_5 : q_tb (PP 125) 5 = some (.ifCond .eq 14, 3, []) := rfl
theorem t125_8 : q_tb (PP 125) 8 = some (.iload_n 1, 1, []) := rfl
theorem t125_9 : q_tb (PP 125) 9 = some (.aload_n 0, 1, []) := rfl
theorem t125_10 : q_tb (PP 125) 10 = some (.getfield 9, 3, []) := rfl
theorem t125_13 : q_tb (PP 125) 13 = some (.isub, 1, []) := rfl
theorem t125_14 : q_tb (PP 125) 14 = some (.iconst 1, 1, []) := rfl
theorem t125_15 : q_tb (PP 125) 15 = some (.iadd, 1, []) := rfl
theorem t125_16 : q_tb (PP 125) 16 = some (.goto 4, 3, []) := rfl
theorem t125_19 : q_tb (PP 125) 19 = some (.iconst 0, 1, []) := rfl
theorem t125_20 : q_tb (PP 125) 20 = some (.ireturn, 1, [0, 1]) := rfl
theorem t126_0 : q_tb (PP 126) 0 = some (.aload_n 0, 1, []) := rfl
theorem t126_1 : q_tb (PP 126) 1 = some (.aload_n 0, 1, []) := rfl
theorem t126_2 : q_tb (PP 126) 2 = some (.getfield 27, 3, []) := rfl
theorem t126_5 : q_tb (PP 126) 5 = some (.invokevirtual 50, 3, []) := rfl
theorem t126_8 : q_tb (PP 126) 8 = some (.istore_n 1, 1, []) := rfl
theorem t126_9 : q_tb (PP 126) 9 = some (.iload_n 1, 1, []) := rfl
theorem t126_10 : q_tb (PP 126) 10 = some (.ifCond .ne 7, 3, []) := rfl
theorem t126_13 : q_tb (PP 126) 13 = some (.iconst 3, 1, []) := rfl
theorem t126_14 : q_tb (PP 126) 14 = some (.goto 7, 3, []) := rfl
theorem t126_17 : q_tb (PP 126) 17 = some (.aload_n 0, 1, []) := rfl
theorem t126_18 : q_tb (PP 126) 18 = some (.getfield 18, 3, []) := rfl
theorem t126_21 : q_tb (PP 126) 21 = some (.istore_n 2, 1, []) := rfl
theorem t126_22 : q_tb (PP 126) 22 = some (.iload_n 1, 1, []) := rfl
theorem t126_23 : q_tb (PP 126) 23 = some (.iconst 3, 1, []) := rfl
theorem t126_24 : q_tb (PP 126) 24 = some (.imul, 1, []) := rfl
theorem t126_25 : q_tb (PP 126) 25 = some (.aload_n 0, 1, []) := rfl
theorem t126_26 : q_tb (PP 126) 26 = some (.getfield 30, 3, []) := rfl
theorem t126_29 : q_tb (PP 126) 29 = some (.iload_n 2, 1, []) := rfl
theorem t126_30 : q_tb (PP 126) 30 = some (.invokestatic 54, 3, []) := rfl
theorem t126_33 : q_tb (PP 126) 33 = some (.iadd, 1, []) := rfl
theorem t126_34 : q_tb (PP 126) 34 = some (.iconst 1, 1, []) := rfl
theorem t126_35 : q_tb (PP 126) 35 = some (.isub, 1, []) := rfl
theorem t126_36 : q_tb (PP 126) 36 = some (.ireturn, 1, []) := rfl
theorem t127_0 : q_tb (PP 127) 0 = some (.aload_n 0, 1, []) := rfl
theorem t127_1 : q_tb (PP 127) 1 = some (.getfield 40, 3, []) := rfl
theorem t127_4 : q_tb (PP 127) 4 = some (.iload_n 1, 1, []) := rfl
theorem t127_5 : q_tb (PP 127) 5 = some (.iconst 5, 1, []) := rfl
theorem t127_6 : q_tb (PP 127) 6 = some (.imul, 1, []) := rfl
theorem t127_7 : q_tb (PP 127) 7 = some (.iload_n 2, 1, []) := rfl
theorem t127_8 : q_tb (PP 127) 8 = some (.iadd, 1, []) := rfl
theorem t127_9 : q_tb (PP 127) 9 = some (.iaload, 1, []) := rfl
theorem t127_10 : q_tb (PP 127) 10 = some (.ireturn, 1, []) := rfl
theorem t128_0 : q_tb (PP 128) 0 = some (.aload_n 0, 1, []) := rfl
theorem t128_1 : q_tb (PP 128) 1 = some (.getfield 33, 3, []) := rfl
theorem t128_4 : q_tb (PP 128) 4 = some (.iload_n 1, 1, []) := rfl
theorem t128_5 : q_tb (PP 128) 5 = some (.iaload, 1, []) := rfl
theorem t128_6 : q_tb (PP 128) 6 = some (.ireturn, 1, []) := rfl
theorem t129_0 : q_tb (PP 129) 0 = some (.aload_n 0, 1, []) := rfl
theorem t129_1 : q_tb (PP 129) 1 = some (.getfield 37, 3, []) := rfl
theorem t129_4 : q_tb (PP 129) 4 = some (.iconst 1, 1, []) := rfl
theorem t129_5 : q_tb (PP 129) 5 = some (.iload_n 1, 1, []) := rfl
theorem t129_6 : q_tb (PP 129) 6 = some (.iconst 3, 1, []) := rfl
theorem t129_7 : q_tb (PP 129) 7 = some (.invokestatic 54, 3, []) := rfl
theorem t129_10 : q_tb (PP 129) 10 = some (.invokestatic 60, 3, []) := rfl
theorem t129_13 : q_tb (PP 129) 13 = some (.iconst 1, 1, []) := rfl
theorem t129_14 : q_tb (PP 129) 14 = some (.isub, 1, []) := rfl
theorem t129_15 : q_tb (PP 129) 15 = some (.iaload, 1, []) := rfl
theorem t129_16 : q_tb (PP 129) 16 = some (.ireturn, 1, []) := rfl
theorem t130_0 : q_tb (PP 130) 0 = some (.iload_n 1, 1, []) := rfl
theorem t130_1 : q_tb (PP 130) 1 = some (.iconst 3, 1, []) := rfl
theorem t130_2 : q_tb (PP 130) 2 = some (.if_icmp .ge 11, 3, []) := rfl
theorem t130_5 : q_tb (PP 130) 5 = some (.iload_n 2, 1, []) := rfl
theorem t130_6 : q_tb (PP 130) 6 = some (.ifCond .eq 7, 3, []) := rfl
theorem t130_9 : q_tb (PP 130) 9 = some (.iconst 1, 1, []) := rfl
theorem t130_10 : q_tb (PP 130) 10 = some (.goto 4, 3, []) := rfl
theorem t130_13 : q_tb (PP 130) 13 = some (.iconst 0, 1, []) := rfl
theorem t130_14 : q_tb (PP 130) 14 = some (.istore_n 3, 1, []) := rfl
theorem t130_15 : q_tb (PP 130) 15 = some (.aload_n 0, 1, []) := rfl
theorem t130_16 : q_tb (PP 130) 16 = some (.getfield 33, 3, []) := rfl
theorem t130_19 : q_tb (PP 130) 19 = some (.iload_n 2, 1, []) := rfl
theorem t130_20 : q_tb (PP 130) 20 = some (.iaload, 1, []) := rfl
theorem t130_21 : q_tb (PP 130) 21 = some (.iload_n 3, 1, []) := rfl
theorem t130_22 : q_tb (PP 130) 22 = some (.ifCond .eq 12, 3, []) := rfl
theorem t130_25 : q_tb (PP 130) 25 = some (.aload_n 0, 1, []) := rfl
theorem t130_26 : q_tb (PP 130) 26 = some (.getfield 37, 3, []) := rfl
theorem t130_29 : q_tb (PP 130) 29 = some (.iload_n 1, 1, []) := rfl
theorem t130_30 : q_tb (PP 130) 30 = some (.iaload, 1, []) := rfl
theorem t130_31 : q_tb (PP 130) 31 = some (.goto 4, 3, []) := rfl
theorem t130_34 : q_tb (PP 130) 34 = some (.iconst 0, 1, []) := rfl
theorem t130_35 : q_tb (PP 130) 35 = some (.iadd, 1, [0, 1, 2, 3]) := rfl
theorem t130_36 : q_tb (PP 130) 36 = some (.ireturn, 1, []) := rfl
theorem t131_0 : q_tb (PP 131) 0 = some (.iconst 0, 1, []) := rfl
theorem t131_1 : q_tb (PP 131) 1 = some (.istore_n 1, 1, []) := rfl
theorem t131_2 : q_tb (PP 131) 2 = some (.iload_n 1, 1, [2]) := rfl
theorem t131_3 : q_tb (PP 131) 3 = some (.bipush 15, 2, []) := rfl
theorem t131_5 : q_tb (PP 131) 5 = some (.if_icmp .ge 38, 3, []) := rfl
theorem t131_8 : q_tb (PP 131) 8 = some (.iconst 0, 1, []) := rfl
theorem t131_9 : q_tb (PP 131) 9 = some (.istore_n 2, 1, []) := rfl
theorem t131_10 : q_tb (PP 131) 10 = some (.iload_n 2, 1, []) := rfl
theorem t131_11 : q_tb (PP 131) 11 = some (.iconst 5, 1, []) := rfl
theorem t131_12 : q_tb (PP 131) 12 = some (.if_icmp .ge 25, 3, []) := rfl
theorem t131_15 : q_tb (PP 131) 15 = some (.aload_n 0, 1, []) := rfl
theorem t131_16 : q_tb (PP 131) 16 = some (.getfield 40, 3, []) := rfl
theorem t131_19 : q_tb (PP 131) 19 = some (.iload_n 1, 1, []) := rfl
theorem t131_20 : q_tb (PP 131) 20 = some (.iconst 5, 1, []) := rfl
theorem t131_21 : q_tb (PP 131) 21 = some (.imul, 1, []) := rfl
theorem t131_22 : q_tb (PP 131) 22 = some (.iload_n 2, 1, []) := rfl
theorem t131_23 : q_tb (PP 131) 23 = some (.iadd, 1, []) := rfl
theorem t131_24 : q_tb (PP 131) 24 = some (.aload_n 0, 1, []) := rfl
theorem t131_25 : q_tb (PP 131) 25 = some (.iload_n 1, 1, []) := rfl
theorem t131_26 : q_tb (PP 131) 26 = some (.iload_n 2, 1, []) := rfl
theorem t131_27 : q_tb (PP 131) 27 = some (.invokevirtual 63, 3, []) := rfl
theorem t131_30 : q_tb (PP 131) 30 = some (.iastore, 1, []) := rfl
theorem t131_31 : q_tb (PP 131) 31 = some (.iinc 2 1, 3, []) := rfl
theorem t131_34 : q_tb (PP 131) 34 = some (.goto (-24), 3, []) := rfl
theorem t131_37 : q_tb (PP 131) 37 = some (.iinc 1 1, 3, []) := rfl
theorem t131_40 : q_tb (PP 131) 40 = some (.goto (-38), 3, []) := rfl
theorem t131_43 : q_tb (PP 131) 43 = some (.return_, 1, []) := rfl
theorem t132_0 : q_tb (PP 132) 0 = some (.iload_n 1, 1, []) := rfl
theorem t132_1 : q_tb (PP 132) 1 = some (.iconst 3, 1, []) := rfl
theorem t132_2 : q_tb (PP 132) 2 = some (.idiv, 1, []) := rfl
theorem t132_3 : q_tb (PP 132) 3 = some (.istore_n 3, 1, []) := rfl
theorem t132_4 : q_tb (PP 132) 4 = some (.iload_n 1, 1, []) := rfl
theorem t132_5 : q_tb (PP 132) 5 = some (.iconst 3, 1, []) := rfl
theorem t132_6 : q_tb (PP 132) 6 = some (.irem, 1, []) := rfl
theorem t132_7 : q_tb (PP 132) 7 = some (.iconst 1, 1, []) := rfl
theorem t132_8 : q_tb (PP 132) 8 = some (.iadd, 1, []) := rfl
theorem t132_9 : q_tb (PP 132) 9 = some (.istore 4, 2, []) := rfl
theorem t132_11 : q_tb (PP 132) 11 = some (.aload_n 0, 1, []) := rfl
theorem t132_12 : q_tb (PP 132) 12 = some (.iload_n 2, 1, []) := rfl
theorem t132_13 : q_tb (PP 132) 13 = some (.invokevirtual 66, 3, []) := rfl
theorem t132_16 : q_tb (PP 132) 16 = some (.ifCond .ne 5, 3, []) := rfl
theorem t132_19 : q_tb (PP 132) 19 = some (.iconst (-1), 1, []) := rfl
theorem t132_20 : q_tb (PP 132) 20 = some (.ireturn, 1, []) := rfl
theorem t132_21 : q_tb (PP 132) 21 = some (.iload_n 3, 1, []) := rfl
theorem t132_22 : q_tb (PP 132) 22 = some (.ifCond .ne 14, 3, []) := rfl
theorem t132_25 : q_tb (PP 132) 25 = some (.iload_n 2, 1, []) := rfl
theorem t132_26 : q_tb (PP 132) 26 = some (.ifCond .ne 10, 3, []) := rfl
theorem t132_29 : q_tb (PP 132) 29 = some (.iload 4, 2, []) := rfl
theorem t132_31 : q_tb (PP 132) 31 = some (.iconst 2, 1, []) := rfl
theorem t132_32 : q_tb (PP 132) 32 = some (.invokestatic 54, 3, []) := rfl
theorem t132_35 : q_tb (PP 132) 35 = some (.ireturn, 1, []) := rfl
theorem t132_36 : q_tb (PP 132) 36 = some (.iload_n 2, 1, [1]) := rfl
theorem t132_37 : q_tb (PP 132) 37 = some (.ifCond .ne 18, 3, []) := rfl
theorem t132_40 : q_tb (PP 132) 40 = some (.iload 4, 2, []) := rfl
theorem t132_42 : q_tb (PP 132) 42 = some (.aload_n 0, 1, []) := rfl
theorem t132_43 : q_tb (PP 132) 43 = some (.getfield 18, 3, []) := rfl
theorem t132_46 : q_tb (PP 132) 46 = some (.if_icmp .ge 7, 3, []) := rfl
theorem t132_49 : q_tb (PP 132) 49 = some (.iconst (-1), 1, []) := rfl
theorem t132_50 : q_tb (PP 132) 50 = some (.goto 4, 3, []) := rfl
theorem t132_53 : q_tb (PP 132) 53 = some (.iconst 0, 1, []) := rfl
theorem t132_54 : q_tb (PP 132) 54 = some (.ireturn, 1, [0, 1, 2, 3, 4]) := rfl
theorem t132_55 : q_tb (PP 132) 55 = some (.iload_n 3, 1, []) := rfl
theorem t132_56 : q_tb (PP 132) 56 = some (.ifCond .ne 30, 3, []) := rfl
theorem t132_59 : q_tb (PP 132) 59 = some (.iload 4, 2, []) := rfl
theorem t132_61 : q_tb (PP 132) 61 = some (.aload_n 0, 1, []) := rfl
theorem t132_62 : q_tb (PP 132) 62 = some (.getfield 21, 3, []) := rfl
theorem t132_65 : q_tb (PP 132) 65 = some (.if_icmp .lt 13, 3, []) := rfl
theorem t132_68 : q_tb (PP 132) 68 = some (.iload_n 2, 1, []) := rfl
theorem t132_69 : q_tb (PP 132) 69 = some (.iconst 1, 1, []) := rfl
theorem t132_70 : q_tb (PP 132) 70 = some (.isub, 1, []) := rfl
theorem t132_71 : q_tb (PP 132) 71 = some (.aload_n 0, 1, []) := rfl
theorem t132_72 : q_tb (PP 132) 72 = some (.getfield 24, 3, []) := rfl
theorem t132_75 : q_tb (PP 132) 75 = some (.if_icmp .le 7, 3, []) := rfl
theorem t132_78 : q_tb (PP 132) 78 = some (.iconst (-1), 1, [0, 1, 2, 3, 4]) := rfl
theorem t132_79 : q_tb (PP 132) 79 = some (.goto 6, 3, []) := rfl
theorem t132_82 : q_tb (PP 132) 82 = some (.iload_n 2, 1, []) := rfl
theorem t132_83 : q_tb (PP 132) 83 = some (.iconst 3, 1, []) := rfl
theorem t132_84 : q_tb (PP 132) 84 = some (.imul, 1, []) := rfl
theorem t132_85 : q_tb (PP 132) 85 = some (.ireturn, 1, [0, 1, 2, 3, 4]) := rfl
theorem t132_86 : q_tb (PP 132) 86 = some (.iload_n 2, 1, []) := rfl
theorem t132_87 : q_tb (PP 132) 87 = some (.iload_n 3, 1, []) := rfl
theorem t132_88 : q_tb (PP 132) 88 = some (.isub, 1, []) := rfl
theorem t132_89 : q_tb (PP 132) 89 = some (.invokestatic 69, 3, []) := rfl
theorem t132_92 : q_tb (PP 132) 92 = some (.aload_n 0, 1, []) := rfl
theorem t132_93 : q_tb (PP 132) 93 = some (.getfield 24, 3, []) := rfl
theorem t132_96 : q_tb (PP 132) 96 = some (.if_icmp .le 5, 3, []) := rfl
theorem t132_99 : q_tb (PP 132) 99 = some (.iconst (-1), 1, []) := rfl
theorem t132_100 : q_tb (PP 132) 100 = some (.ireturn, 1, []) := rfl
theorem t132_101 : q_tb (PP 132) 101 = some (.iload_n 2, 1, []) := rfl
theorem t132_102 : q_tb (PP 132) 102 = some (.iconst 3, 1, []) := rfl
theorem t132_103 : q_tb (PP 132) 103 = some (.imul, 1, []) := rfl
theorem t132_104 : q_tb (PP 132) 104 = some (.iload 4, 2, []) := rfl
theorem t132_106 : q_tb (PP 132) 106 = some (.aload_n 0, 1, []) := rfl
theorem t132_107 : q_tb (PP 132) 107 = some (.getfield 18, 3, []) := rfl
theorem t132_110 : q_tb (PP 132) 110 = some (.iconst 1, 1, []) := rfl
theorem t132_111 : q_tb (PP 132) 111 = some (.isub, 1, []) := rfl
theorem t132_112 : q_tb (PP 132) 112 = some (.invokestatic 54, 3, []) := rfl
theorem t132_115 : q_tb (PP 132) 115 = some (.iadd, 1, []) := rfl
theorem t132_116 : q_tb (PP 132) 116 = some (.ireturn, 1, []) := rfl
theorem t133_0 : q_tb (PP 133) 0 = some (.iload_n 0, 1, []) := rfl
theorem t133_1 : q_tb (PP 133) 1 = some (.iload_n 1, 1, []) := rfl
theorem t133_2 : q_tb (PP 133) 2 = some (.if_icmp .ge 7, 3, []) := rfl
theorem t133_5 : q_tb (PP 133) 5 = some (.iconst (-1), 1, []) := rfl
theorem t133_6 : q_tb (PP 133) 6 = some (.goto 13, 3, []) := rfl
theorem t133_9 : q_tb (PP 133) 9 = some (.iload_n 0, 1, []) := rfl
theorem t133_10 : q_tb (PP 133) 10 = some (.iload_n 1, 1, []) := rfl
theorem t133_11 : q_tb (PP 133) 11 = some (.if_icmp .ne 7, 3, []) := rfl
theorem t133_14 : q_tb (PP 133) 14 = some (.iconst 0, 1, []) := rfl
theorem t133_15 : q_tb (PP 133) 15 = some (.goto 4, 3, []) := rfl
theorem t133_18 : q_tb (PP 133) 18 = some (.iconst 1, 1, []) := rfl
theorem t133_19 : q_tb (PP 133) 19 = some (.ireturn, 1, [0, 1]) := rfl
theorem t134_0 : q_tb (PP 134) 0 = some (.iconst 0, 1, []) := rfl
theorem t134_1 : q_tb (PP 134) 1 = some (.istore_n 3, 1, []) := rfl
theorem t134_2 : q_tb (PP 134) 2 = some (.aload_n 0, 1, []) := rfl
theorem t134_3 : q_tb (PP 134) 3 = some (.arraylength, 1, []) := rfl
theorem t134_4 : q_tb (PP 134) 4 = some (.istore 4, 2, []) := rfl
theorem t134_6 : q_tb (PP 134) 6 = some (.iload_n 3, 1, []) := rfl
theorem t134_7 : q_tb (PP 134) 7 = some (.iload 4, 2, []) := rfl
theorem t134_9 : q_tb (PP 134) 9 = some (.if_icmp .ge 13, 3, []) := rfl
theorem t134_12 : q_tb (PP 134) 12 = some (.aload_n 0, 1, []) := rfl
theorem t134_13 : q_tb (PP 134) 13 = some (.iload_n 3, 1, []) := rfl
theorem t134_14 : q_tb (PP 134) 14 = some (.lload_n 1, 1, []) := rfl
theorem t134_15 : q_tb (PP 134) 15 = some (.lastore, 1, []) := rfl
theorem t134_16 : q_tb (PP 134) 16 = some (.iinc 3 1, 3, []) := rfl
theorem t134_19 : q_tb (PP 134) 19 = some (.goto (-13), 3, []) := rfl
theorem t134_22 : q_tb (PP 134) 22 = some (.return_, 1, []) := rfl
