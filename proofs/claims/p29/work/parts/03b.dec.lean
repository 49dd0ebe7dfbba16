theorem dX6_init_0 : decode cX6_init 0 = .ok (.aload_n 0, 1) := by decide +kernel
theorem dX6_init_1 : decode cX6_init 1 = .ok (.invokespecial 1, 3) := by decide +kernel
theorem dX6_init_4 : decode cX6_init 4 = .ok (.aload_n 0, 1) := by decide +kernel
theorem dX6_init_5 : decode cX6_init 5 = .ok (.new 7, 3) := by decide +kernel
theorem dX6_init_8 : decode cX6_init 8 = .ok (.dup, 1) := by decide +kernel
theorem dX6_init_9 : decode cX6_init 9 = .ok (.invokespecial 9, 3) := by decide +kernel
theorem dX6_init_12 : decode cX6_init 12 = .ok (.putfield 10, 3) := by decide +kernel
theorem dX6_init_15 : decode cX6_init 15 = .ok (.aload_n 0, 1) := by decide +kernel
theorem dX6_init_16 : decode cX6_init 16 = .ok (.new 7, 3) := by decide +kernel
theorem dX6_init_19 : decode cX6_init 19 = .ok (.dup, 1) := by decide +kernel
theorem dX6_init_20 : decode cX6_init 20 = .ok (.invokespecial 9, 3) := by decide +kernel
theorem dX6_init_23 : decode cX6_init 23 = .ok (.putfield 16, 3) := by decide +kernel
theorem dX6_init_26 : decode cX6_init 26 = .ok (.aload_n 0, 1) := by decide +kernel
theorem dX6_init_27 : decode cX6_init 27 = .ok (.bipush 6, 2) := by decide +kernel
theorem dX6_init_29 : decode cX6_init 29 = .ok (.anewarray 7, 3) := by decide +kernel
theorem dX6_init_32 : decode cX6_init 32 = .ok (.putfield 19, 3) := by decide +kernel
theorem dX6_init_35 : decode cX6_init 35 = .ok (.iconst 0, 1) := by decide +kernel
theorem dX6_init_36 : decode cX6_init 36 = .ok (.istore_n 1, 1) := by decide +kernel
theorem dX6_init_37 : decode cX6_init 37 = .ok (.iload_n 1, 1) := by decide +kernel
theorem dX6_init_38 : decode cX6_init 38 = .ok (.aload_n 0, 1) := by decide +kernel
theorem dX6_init_39 : decode cX6_init 39 = .ok (.getfield 19, 3) := by decide +kernel
theorem dX6_init_42 : decode cX6_init 42 = .ok (.arraylength, 1) := by decide +kernel
theorem dX6_init_43 : decode cX6_init 43 = .ok (.if_icmp .ge 22, 3) := by decide +kernel
theorem dX6_init_46 : decode cX6_init 46 = .ok (.aload_n 0, 1) := by decide +kernel
theorem dX6_init_47 : decode cX6_init 47 = .ok (.getfield 19, 3) := by decide +kernel
theorem dX6_init_50 : decode cX6_init 50 = .ok (.iload_n 1, 1) := by decide +kernel
theorem dX6_init_51 : decode cX6_init 51 = .ok (.new 7, 3) := by decide +kernel
theorem dX6_init_54 : decode cX6_init 54 = .ok (.dup, 1) := by decide +kernel
theorem dX6_init_55 : decode cX6_init 55 = .ok (.invokespecial 9, 3) := by decide +kernel
theorem dX6_init_58 : decode cX6_init 58 = .ok (.aastore, 1) := by decide +kernel
theorem dX6_init_59 : decode cX6_init 59 = .ok (.iinc 1 1, 3) := by decide +kernel
theorem dX6_init_62 : decode cX6_init 62 = .ok (.goto (-25), 3) := by decide +kernel
theorem dX6_init_65 : decode cX6_init 65 = .ok (.aload_n 0, 1) := by decide +kernel
theorem dX6_init_66 : decode cX6_init 66 = .ok (.new 23, 3) := by decide +kernel
theorem dX6_init_69 : decode cX6_init 69 = .ok (.dup, 1) := by decide +kernel
theorem dX6_init_70 : decode cX6_init 70 = .ok (.invokespecial 25, 3) := by decide +kernel
theorem dX6_init_73 : decode cX6_init 73 = .ok (.putfield 26, 3) := by decide +kernel
theorem dX6_init_76 : decode cX6_init 76 = .ok (.return_, 1) := by decide +kernel
theorem dX6_stock_0 : decode cX6_stock 0 = .ok (.iload_n 1, 1) := by decide +kernel
theorem dX6_stock_1 : decode cX6_stock 1 = .ok (.iconst 0, 1) := by decide +kernel
theorem dX6_stock_2 : decode cX6_stock 2 = .ok (.iconst 3, 1) := by decide +kernel
theorem dX6_stock_3 : decode cX6_stock 3 = .ok (.invokestatic 30, 3) := by decide +kernel
theorem dX6_stock_6 : decode cX6_stock 6 = .ok (.ifCond .ne 13, 3) := by decide +kernel
theorem dX6_stock_9 : decode cX6_stock 9 = .ok (.new 34, 3) := by decide +kernel
theorem dX6_stock_12 : decode cX6_stock 12 = .ok (.dup, 1) := by decide +kernel
theorem dX6_stock_13 : decode cX6_stock 13 = .ok (.ldc 36, 2) := by decide +kernel
theorem dX6_stock_15 : decode cX6_stock 15 = .ok (.invokespecial 38, 3) := by decide +kernel
theorem dX6_stock_18 : decode cX6_stock 18 = .ok (.athrow, 1) := by decide +kernel
theorem dX6_stock_19 : decode cX6_stock 19 = .ok (.iload_n 2, 1) := by decide +kernel
theorem dX6_stock_20 : decode cX6_stock 20 = .ok (.iconst 1, 1) := by decide +kernel
theorem dX6_stock_21 : decode cX6_stock 21 = .ok (.bipush 99, 2) := by decide +kernel
theorem dX6_stock_23 : decode cX6_stock 23 = .ok (.invokestatic 30, 3) := by decide +kernel
theorem dX6_stock_26 : decode cX6_stock 26 = .ok (.ifCond .ne 13, 3) := by decide +kernel
theorem dX6_stock_29 : decode cX6_stock 29 = .ok (.new 41, 3) := by decide +kernel
theorem dX6_stock_32 : decode cX6_stock 32 = .ok (.dup, 1) := by decide +kernel
theorem dX6_stock_33 : decode cX6_stock 33 = .ok (.ldc 43, 2) := by decide +kernel
theorem dX6_stock_35 : decode cX6_stock 35 = .ok (.invokespecial 45, 3) := by decide +kernel
theorem dX6_stock_38 : decode cX6_stock 38 = .ok (.athrow, 1) := by decide +kernel
theorem dX6_stock_39 : decode cX6_stock 39 = .ok (.aload_n 0, 1) := by decide +kernel
theorem dX6_stock_40 : decode cX6_stock 40 = .ok (.getfield 10, 3) := by decide +kernel
theorem dX6_stock_43 : decode cX6_stock 43 = .ok (.iload_n 1, 1) := by decide +kernel
theorem dX6_stock_44 : decode cX6_stock 44 = .ok (.invokevirtual 46, 3) := by decide +kernel
theorem dX6_stock_47 : decode cX6_stock 47 = .ok (.astore_n 3, 1) := by decide +kernel
theorem dX6_stock_48 : decode cX6_stock 48 = .ok (.aload_n 3, 1) := by decide +kernel
theorem dX6_stock_49 : decode cX6_stock 49 = .ok (.getfield 50, 3) := by decide +kernel
theorem dX6_stock_52 : decode cX6_stock 52 = .ok (.iload_n 2, 1) := by decide +kernel
theorem dX6_stock_53 : decode cX6_stock 53 = .ok (.iadd, 1) := by decide +kernel
theorem dX6_stock_54 : decode cX6_stock 54 = .ok (.sipush 200, 3) := by decide +kernel
theorem dX6_stock_57 : decode cX6_stock 57 = .ok (.if_icmp .le 13, 3) := by decide +kernel
theorem dX6_stock_60 : decode cX6_stock 60 = .ok (.new 56, 3) := by decide +kernel
theorem dX6_stock_63 : decode cX6_stock 63 = .ok (.dup, 1) := by decide +kernel
theorem dX6_stock_64 : decode cX6_stock 64 = .ok (.ldc 58, 2) := by decide +kernel
theorem dX6_stock_66 : decode cX6_stock 66 = .ok (.invokespecial 60, 3) := by decide +kernel
theorem dX6_stock_69 : decode cX6_stock 69 = .ok (.athrow, 1) := by decide +kernel
theorem dX6_stock_70 : decode cX6_stock 70 = .ok (.aload_n 0, 1) := by decide +kernel
theorem dX6_stock_71 : decode cX6_stock 71 = .ok (.invokevirtual 61, 3) := by decide +kernel
theorem dX6_stock_74 : decode cX6_stock 74 = .ok (.aload_n 3, 1) := by decide +kernel
theorem dX6_stock_75 : decode cX6_stock 75 = .ok (.dup, 1) := by decide +kernel
theorem dX6_stock_76 : decode cX6_stock 76 = .ok (.getfield 50, 3) := by decide +kernel
theorem dX6_stock_79 : decode cX6_stock 79 = .ok (.iload_n 2, 1) := by decide +kernel
theorem dX6_stock_80 : decode cX6_stock 80 = .ok (.iadd, 1) := by decide +kernel
theorem dX6_stock_81 : decode cX6_stock 81 = .ok (.putfield 50, 3) := by decide +kernel
theorem dX6_stock_84 : decode cX6_stock 84 = .ok (.aload_n 3, 1) := by decide +kernel
theorem dX6_stock_85 : decode cX6_stock 85 = .ok (.getfield 50, 3) := by decide +kernel
theorem dX6_stock_88 : decode cX6_stock 88 = .ok (.ireturn, 1) := by decide +kernel
theorem dX6_range_0 : decode cX6_range 0 = .ok (.iload_n 1, 1) := by decide +kernel
theorem dX6_range_1 : decode cX6_range 1 = .ok (.iconst 0, 1) := by decide +kernel
theorem dX6_range_2 : decode cX6_range 2 = .ok (.iconst 3, 1) := by decide +kernel
theorem dX6_range_3 : decode cX6_range 3 = .ok (.invokestatic 30, 3) := by decide +kernel
theorem dX6_range_6 : decode cX6_range 6 = .ok (.ifCond .ne 13, 3) := by decide +kernel
theorem dX6_range_9 : decode cX6_range 9 = .ok (.new 34, 3) := by decide +kernel
theorem dX6_range_12 : decode cX6_range 12 = .ok (.dup, 1) := by decide +kernel
theorem dX6_range_13 : decode cX6_range 13 = .ok (.ldc 36, 2) := by decide +kernel
theorem dX6_range_15 : decode cX6_range 15 = .ok (.invokespecial 38, 3) := by decide +kernel
theorem dX6_range_18 : decode cX6_range 18 = .ok (.athrow, 1) := by decide +kernel
theorem dX6_range_19 : decode cX6_range 19 = .ok (.iload_n 2, 1) := by decide +kernel
theorem dX6_range_20 : decode cX6_range 20 = .ok (.sipush 600, 3) := by decide +kernel
theorem dX6_range_23 : decode cX6_range 23 = .ok (.sipush 1240, 3) := by decide +kernel
theorem dX6_range_26 : decode cX6_range 26 = .ok (.invokestatic 30, 3) := by decide +kernel
theorem dX6_range_29 : decode cX6_range 29 = .ok (.ifCond .eq 14, 3) := by decide +kernel
theorem dX6_range_32 : decode cX6_range 32 = .ok (.iload_n 3, 1) := by decide +kernel
theorem dX6_range_33 : decode cX6_range 33 = .ok (.iload_n 2, 1) := by decide +kernel
theorem dX6_range_34 : decode cX6_range 34 = .ok (.sipush 1240, 3) := by decide +kernel
theorem dX6_range_37 : decode cX6_range 37 = .ok (.invokestatic 30, 3) := by decide +kernel
theorem dX6_range_40 : decode cX6_range 40 = .ok (.ifCond .ne 13, 3) := by decide +kernel
theorem dX6_range_43 : decode cX6_range 43 = .ok (.new 41, 3) := by decide +kernel
theorem dX6_range_46 : decode cX6_range 46 = .ok (.dup, 1) := by decide +kernel
theorem dX6_range_47 : decode cX6_range 47 = .ok (.ldc 64, 2) := by decide +kernel
theorem dX6_range_49 : decode cX6_range 49 = .ok (.invokespecial 45, 3) := by decide +kernel
theorem dX6_range_52 : decode cX6_range 52 = .ok (.athrow, 1) := by decide +kernel
theorem dX6_range_53 : decode cX6_range 53 = .ok (.aload_n 0, 1) := by decide +kernel
theorem dX6_range_54 : decode cX6_range 54 = .ok (.invokevirtual 61, 3) := by decide +kernel
theorem dX6_range_57 : decode cX6_range 57 = .ok (.aload_n 0, 1) := by decide +kernel
theorem dX6_range_58 : decode cX6_range 58 = .ok (.getfield 10, 3) := by decide +kernel
theorem dX6_range_61 : decode cX6_range 61 = .ok (.iload_n 1, 1) := by decide +kernel
theorem dX6_range_62 : decode cX6_range 62 = .ok (.invokevirtual 46, 3) := by decide +kernel
theorem dX6_range_65 : decode cX6_range 65 = .ok (.astore 4, 2) := by decide +kernel
theorem dX6_range_67 : decode cX6_range 67 = .ok (.sipush 10000, 3) := by decide +kernel
theorem dX6_range_70 : decode cX6_range 70 = .ok (.aload 4, 2) := by decide +kernel
theorem dX6_range_72 : decode cX6_range 72 = .ok (.getfield 66, 3) := by decide +kernel
theorem dX6_range_75 : decode cX6_range 75 = .ok (.imul, 1) := by decide +kernel
theorem dX6_range_76 : decode cX6_range 76 = .ok (.aload 4, 2) := by decide +kernel
theorem dX6_range_78 : decode cX6_range 78 = .ok (.getfield 69, 3) := by decide +kernel
theorem dX6_range_81 : decode cX6_range 81 = .ok (.iadd, 1) := by decide +kernel
theorem dX6_range_82 : decode cX6_range 82 = .ok (.istore 5, 2) := by decide +kernel
theorem dX6_range_84 : decode cX6_range 84 = .ok (.aload 4, 2) := by decide +kernel
theorem dX6_range_86 : decode cX6_range 86 = .ok (.iload_n 2, 1) := by decide +kernel
theorem dX6_range_87 : decode cX6_range 87 = .ok (.putfield 66, 3) := by decide +kernel
theorem dX6_range_90 : decode cX6_range 90 = .ok (.aload 4, 2) := by decide +kernel
theorem dX6_range_92 : decode cX6_range 92 = .ok (.iload_n 3, 1) := by decide +kernel
theorem dX6_range_93 : decode cX6_range 93 = .ok (.putfield 69, 3) := by decide +kernel
theorem dX6_range_96 : decode cX6_range 96 = .ok (.iload 5, 2) := by decide +kernel
theorem dX6_range_98 : decode cX6_range 98 = .ok (.ireturn, 1) := by decide +kernel
theorem dX6_die_0 : decode cX6_die 0 = .ok (.iload_n 1, 1) := by decide +kernel
theorem dX6_die_1 : decode cX6_die 1 = .ok (.iconst 0, 1) := by decide +kernel
theorem dX6_die_2 : decode cX6_die 2 = .ok (.iconst 4, 1) := by decide +kernel
theorem dX6_die_3 : decode cX6_die 3 = .ok (.invokestatic 30, 3) := by decide +kernel
theorem dX6_die_6 : decode cX6_die 6 = .ok (.ifCond .ne 13, 3) := by decide +kernel
theorem dX6_die_9 : decode cX6_die 9 = .ok (.new 34, 3) := by decide +kernel
theorem dX6_die_12 : decode cX6_die 12 = .ok (.dup, 1) := by decide +kernel
theorem dX6_die_13 : decode cX6_die 13 = .ok (.ldc 72, 2) := by decide +kernel
theorem dX6_die_15 : decode cX6_die 15 = .ok (.invokespecial 38, 3) := by decide +kernel
theorem dX6_die_18 : decode cX6_die 18 = .ok (.athrow, 1) := by decide +kernel
theorem dX6_die_19 : decode cX6_die 19 = .ok (.iload_n 2, 1) := by decide +kernel
theorem dX6_die_20 : decode cX6_die 20 = .ok (.iconst 1, 1) := by decide +kernel
theorem dX6_die_21 : decode cX6_die 21 = .ok (.bipush 9, 2) := by decide +kernel
theorem dX6_die_23 : decode cX6_die 23 = .ok (.invokestatic 30, 3) := by decide +kernel
theorem dX6_die_26 : decode cX6_die 26 = .ok (.ifCond .eq 15, 3) := by decide +kernel
theorem dX6_die_29 : decode cX6_die 29 = .ok (.iload_n 3, 1) := by decide +kernel
theorem dX6_die_30 : decode cX6_die 30 = .ok (.bipush 10, 2) := by decide +kernel
theorem dX6_die_32 : decode cX6_die 32 = .ok (.sipush 300, 3) := by decide +kernel
theorem dX6_die_35 : decode cX6_die 35 = .ok (.invokestatic 30, 3) := by decide +kernel
theorem dX6_die_38 : decode cX6_die 38 = .ok (.ifCond .ne 13, 3) := by decide +kernel
theorem dX6_die_41 : decode cX6_die 41 = .ok (.new 41, 3) := by decide +kernel
theorem dX6_die_44 : decode cX6_die 44 = .ok (.dup, 1) := by decide +kernel
theorem dX6_die_45 : decode cX6_die 45 = .ok (.ldc 74, 2) := by decide +kernel
theorem dX6_die_47 : decode cX6_die 47 = .ok (.invokespecial 45, 3) := by decide +kernel
theorem dX6_die_50 : decode cX6_die 50 = .ok (.athrow, 1) := by decide +kernel
theorem dX6_die_51 : decode cX6_die 51 = .ok (.aload_n 0, 1) := by decide +kernel
theorem dX6_die_52 : decode cX6_die 52 = .ok (.getfield 10, 3) := by decide +kernel
theorem dX6_die_55 : decode cX6_die 55 = .ok (.iload_n 1, 1) := by decide +kernel
theorem dX6_die_56 : decode cX6_die 56 = .ok (.invokevirtual 76, 3) := by decide +kernel
theorem dX6_die_59 : decode cX6_die 59 = .ok (.astore 4, 2) := by decide +kernel
theorem dX6_die_61 : decode cX6_die 61 = .ok (.aload 4, 2) := by decide +kernel
theorem dX6_die_63 : decode cX6_die 63 = .ok (.invokevirtual 80, 3) := by decide +kernel
theorem dX6_die_66 : decode cX6_die 66 = .ok (.ifCond .eq 13, 3) := by decide +kernel
theorem dX6_die_69 : decode cX6_die 69 = .ok (.new 56, 3) := by decide +kernel
theorem dX6_die_72 : decode cX6_die 72 = .ok (.dup, 1) := by decide +kernel
theorem dX6_die_73 : decode cX6_die 73 = .ok (.ldc 86, 2) := by decide +kernel
theorem dX6_die_75 : decode cX6_die 75 = .ok (.invokespecial 60, 3) := by decide +kernel
theorem dX6_die_78 : decode cX6_die 78 = .ok (.athrow, 1) := by decide +kernel
theorem dX6_die_79 : decode cX6_die 79 = .ok (.aload_n 0, 1) := by decide +kernel
theorem dX6_die_80 : decode cX6_die 80 = .ok (.invokevirtual 61, 3) := by decide +kernel
theorem dX6_die_83 : decode cX6_die 83 = .ok (.aload 4, 2) := by decide +kernel
theorem dX6_die_85 : decode cX6_die 85 = .ok (.getfield 88, 3) := by decide +kernel
theorem dX6_die_88 : decode cX6_die 88 = .ok (.istore 5, 2) := by decide +kernel
theorem dX6_die_90 : decode cX6_die 90 = .ok (.aload 4, 2) := by decide +kernel
theorem dX6_die_92 : decode cX6_die 92 = .ok (.iload_n 2, 1) := by decide +kernel
theorem dX6_die_93 : decode cX6_die 93 = .ok (.putfield 91, 3) := by decide +kernel
theorem dX6_die_96 : decode cX6_die 96 = .ok (.aload 4, 2) := by decide +kernel
theorem dX6_die_98 : decode cX6_die 98 = .ok (.iload_n 3, 1) := by decide +kernel
theorem dX6_die_99 : decode cX6_die 99 = .ok (.putfield 94, 3) := by decide +kernel
theorem dX6_die_102 : decode cX6_die 102 = .ok (.aload 4, 2) := by decide +kernel
theorem dX6_die_104 : decode cX6_die 104 = .ok (.iconst 0, 1) := by decide +kernel
theorem dX6_die_105 : decode cX6_die 105 = .ok (.putfield 88, 3) := by decide +kernel
theorem dX6_die_108 : decode cX6_die 108 = .ok (.iload 5, 2) := by decide +kernel
theorem dX6_die_110 : decode cX6_die 110 = .ok (.ireturn, 1) := by decide +kernel
theorem dX6_grind_0 : decode cX6_grind 0 = .ok (.iload_n 1, 1) := by decide +kernel
theorem dX6_grind_1 : decode cX6_grind 1 = .ok (.iconst 0, 1) := by decide +kernel
theorem dX6_grind_2 : decode cX6_grind 2 = .ok (.iconst 4, 1) := by decide +kernel
theorem dX6_grind_3 : decode cX6_grind 3 = .ok (.invokestatic 30, 3) := by decide +kernel
theorem dX6_grind_6 : decode cX6_grind 6 = .ok (.ifCond .ne 13, 3) := by decide +kernel
theorem dX6_grind_9 : decode cX6_grind 9 = .ok (.new 34, 3) := by decide +kernel
theorem dX6_grind_12 : decode cX6_grind 12 = .ok (.dup, 1) := by decide +kernel
theorem dX6_grind_13 : decode cX6_grind 13 = .ok (.ldc 72, 2) := by decide +kernel
theorem dX6_grind_15 : decode cX6_grind 15 = .ok (.invokespecial 38, 3) := by decide +kernel
theorem dX6_grind_18 : decode cX6_grind 18 = .ok (.athrow, 1) := by decide +kernel
theorem dX6_grind_19 : decode cX6_grind 19 = .ok (.aload_n 0, 1) := by decide +kernel
theorem dX6_grind_20 : decode cX6_grind 20 = .ok (.getfield 10, 3) := by decide +kernel
theorem dX6_grind_23 : decode cX6_grind 23 = .ok (.invokevirtual 97, 3) := by decide +kernel
theorem dX6_grind_26 : decode cX6_grind 26 = .ok (.iconst (-1), 1) := by decide +kernel
theorem dX6_grind_27 : decode cX6_grind 27 = .ok (.if_icmp .eq 13, 3) := by decide +kernel
theorem dX6_grind_30 : decode cX6_grind 30 = .ok (.new 56, 3) := by decide +kernel
theorem dX6_grind_33 : decode cX6_grind 33 = .ok (.dup, 1) := by decide +kernel
theorem dX6_grind_34 : decode cX6_grind 34 = .ok (.ldc 101, 2) := by decide +kernel
theorem dX6_grind_36 : decode cX6_grind 36 = .ok (.invokespecial 60, 3) := by decide +kernel
theorem dX6_grind_39 : decode cX6_grind 39 = .ok (.athrow, 1) := by decide +kernel
theorem dX6_grind_40 : decode cX6_grind 40 = .ok (.aload_n 0, 1) := by decide +kernel
theorem dX6_grind_41 : decode cX6_grind 41 = .ok (.invokevirtual 61, 3) := by decide +kernel
theorem dX6_grind_44 : decode cX6_grind 44 = .ok (.aload_n 0, 1) := by decide +kernel
theorem dX6_grind_45 : decode cX6_grind 45 = .ok (.getfield 10, 3) := by decide +kernel
theorem dX6_grind_48 : decode cX6_grind 48 = .ok (.iload_n 1, 1) := by decide +kernel
theorem dX6_grind_49 : decode cX6_grind 49 = .ok (.invokevirtual 76, 3) := by decide +kernel
theorem dX6_grind_52 : decode cX6_grind 52 = .ok (.astore_n 2, 1) := by decide +kernel
theorem dX6_grind_53 : decode cX6_grind 53 = .ok (.aload_n 2, 1) := by decide +kernel
theorem dX6_grind_54 : decode cX6_grind 54 = .ok (.aload_n 0, 1) := by decide +kernel
theorem dX6_grind_55 : decode cX6_grind 55 = .ok (.getfield 10, 3) := by decide +kernel
theorem dX6_grind_58 : decode cX6_grind 58 = .ok (.getfield 103, 3) := by decide +kernel
theorem dX6_grind_61 : decode cX6_grind 61 = .ok (.putfield 106, 3) := by decide +kernel
theorem dX6_grind_64 : decode cX6_grind 64 = .ok (.aload_n 2, 1) := by decide +kernel
theorem dX6_grind_65 : decode cX6_grind 65 = .ok (.getfield 88, 3) := by decide +kernel
theorem dX6_grind_68 : decode cX6_grind 68 = .ok (.ireturn, 1) := by decide +kernel
theorem dX6_job_0 : decode cX6_job 0 = .ok (.iload_n 1, 1) := by decide +kernel
theorem dX6_job_1 : decode cX6_job 1 = .ok (.iconst 0, 1) := by decide +kernel
theorem dX6_job_2 : decode cX6_job 2 = .ok (.iconst 4, 1) := by decide +kernel
theorem dX6_job_3 : decode cX6_job 3 = .ok (.invokestatic 30, 3) := by decide +kernel
theorem dX6_job_6 : decode cX6_job 6 = .ok (.ifCond .eq 12, 3) := by decide +kernel
theorem dX6_job_9 : decode cX6_job 9 = .ok (.iload_n 2, 1) := by decide +kernel
theorem dX6_job_10 : decode cX6_job 10 = .ok (.iconst 0, 1) := by decide +kernel
theorem dX6_job_11 : decode cX6_job 11 = .ok (.iconst 3, 1) := by decide +kernel
theorem dX6_job_12 : decode cX6_job 12 = .ok (.invokestatic 30, 3) := by decide +kernel
theorem dX6_job_15 : decode cX6_job 15 = .ok (.ifCond .ne 13, 3) := by decide +kernel
theorem dX6_job_18 : decode cX6_job 18 = .ok (.new 34, 3) := by decide +kernel
theorem dX6_job_21 : decode cX6_job 21 = .ok (.dup, 1) := by decide +kernel
theorem dX6_job_22 : decode cX6_job 22 = .ok (.ldc 109, 2) := by decide +kernel
theorem dX6_job_24 : decode cX6_job 24 = .ok (.invokespecial 38, 3) := by decide +kernel
theorem dX6_job_27 : decode cX6_job 27 = .ok (.athrow, 1) := by decide +kernel
theorem dX6_job_28 : decode cX6_job 28 = .ok (.iload_n 3, 1) := by decide +kernel
theorem dX6_job_29 : decode cX6_job 29 = .ok (.iconst 1, 1) := by decide +kernel
theorem dX6_job_30 : decode cX6_job 30 = .ok (.bipush 40, 2) := by decide +kernel
theorem dX6_job_32 : decode cX6_job 32 = .ok (.invokestatic 30, 3) := by decide +kernel
theorem dX6_job_35 : decode cX6_job 35 = .ok (.ifCond .eq 15, 3) := by decide +kernel
theorem dX6_job_38 : decode cX6_job 38 = .ok (.iload 4, 2) := by decide +kernel
theorem dX6_job_40 : decode cX6_job 40 = .ok (.iconst 0, 1) := by decide +kernel
theorem dX6_job_41 : decode cX6_job 41 = .ok (.sipush 9999, 3) := by decide +kernel
theorem dX6_job_44 : decode cX6_job 44 = .ok (.invokestatic 30, 3) := by decide +kernel
theorem dX6_job_47 : decode cX6_job 47 = .ok (.ifCond .ne 13, 3) := by decide +kernel
theorem dX6_job_50 : decode cX6_job 50 = .ok (.new 41, 3) := by decide +kernel
theorem dX6_job_53 : decode cX6_job 53 = .ok (.dup, 1) := by decide +kernel
theorem dX6_job_54 : decode cX6_job 54 = .ok (.ldc 111, 2) := by decide +kernel
theorem dX6_job_56 : decode cX6_job 56 = .ok (.invokespecial 45, 3) := by decide +kernel
theorem dX6_job_59 : decode cX6_job 59 = .ok (.athrow, 1) := by decide +kernel
theorem dX6_job_60 : decode cX6_job 60 = .ok (.aload_n 0, 1) := by decide +kernel
theorem dX6_job_61 : decode cX6_job 61 = .ok (.getfield 10, 3) := by decide +kernel
theorem dX6_job_64 : decode cX6_job 64 = .ok (.getfield 113, 3) := by decide +kernel
theorem dX6_job_67 : decode cX6_job 67 = .ok (.bipush 10, 2) := by decide +kernel
theorem dX6_job_69 : decode cX6_job 69 = .ok (.if_icmp .lt 13, 3) := by decide +kernel
theorem dX6_job_72 : decode cX6_job 72 = .ok (.new 56, 3) := by decide +kernel
theorem dX6_job_75 : decode cX6_job 75 = .ok (.dup, 1) := by decide +kernel
theorem dX6_job_76 : decode cX6_job 76 = .ok (.ldc 116, 2) := by decide +kernel
theorem dX6_job_78 : decode cX6_job 78 = .ok (.invokespecial 60, 3) := by decide +kernel
theorem dX6_job_81 : decode cX6_job 81 = .ok (.athrow, 1) := by decide +kernel
theorem dX6_job_82 : decode cX6_job 82 = .ok (.aload_n 0, 1) := by decide +kernel
theorem dX6_job_83 : decode cX6_job 83 = .ok (.invokevirtual 61, 3) := by decide +kernel
theorem dX6_job_86 : decode cX6_job 86 = .ok (.aload_n 0, 1) := by decide +kernel
theorem dX6_job_87 : decode cX6_job 87 = .ok (.getfield 10, 3) := by decide +kernel
theorem dX6_job_90 : decode cX6_job 90 = .ok (.iload_n 1, 1) := by decide +kernel
theorem dX6_job_91 : decode cX6_job 91 = .ok (.iload_n 2, 1) := by decide +kernel
theorem dX6_job_92 : decode cX6_job 92 = .ok (.iload_n 3, 1) := by decide +kernel
theorem dX6_job_93 : decode cX6_job 93 = .ok (.iload 4, 2) := by decide +kernel
theorem dX6_job_95 : decode cX6_job 95 = .ok (.iload 5, 2) := by decide +kernel
theorem dX6_job_97 : decode cX6_job 97 = .ok (.invokevirtual 118, 3) := by decide +kernel
theorem dX6_job_100 : decode cX6_job 100 = .ok (.ireturn, 1) := by decide +kernel
theorem dX6_cancel_0 : decode cX6_cancel 0 = .ok (.aload_n 0, 1) := by decide +kernel
theorem dX6_cancel_1 : decode cX6_cancel 1 = .ok (.getfield 10, 3) := by decide +kernel
theorem dX6_cancel_4 : decode cX6_cancel 4 = .ok (.iload_n 1, 1) := by decide +kernel
theorem dX6_cancel_5 : decode cX6_cancel 5 = .ok (.invokevirtual 122, 3) := by decide +kernel
theorem dX6_cancel_8 : decode cX6_cancel 8 = .ok (.istore_n 2, 1) := by decide +kernel
theorem dX6_cancel_9 : decode cX6_cancel 9 = .ok (.iload_n 2, 1) := by decide +kernel
theorem dX6_cancel_10 : decode cX6_cancel 10 = .ok (.iconst (-1), 1) := by decide +kernel
theorem dX6_cancel_11 : decode cX6_cancel 11 = .ok (.if_icmp .ne 13, 3) := by decide +kernel
theorem dX6_cancel_14 : decode cX6_cancel 14 = .ok (.new 34, 3) := by decide +kernel
theorem dX6_cancel_17 : decode cX6_cancel 17 = .ok (.dup, 1) := by decide +kernel
theorem dX6_cancel_18 : decode cX6_cancel 18 = .ok (.ldc 126, 2) := by decide +kernel
theorem dX6_cancel_20 : decode cX6_cancel 20 = .ok (.invokespecial 38, 3) := by decide +kernel
theorem dX6_cancel_23 : decode cX6_cancel 23 = .ok (.athrow, 1) := by decide +kernel
theorem dX6_cancel_24 : decode cX6_cancel 24 = .ok (.aload_n 0, 1) := by decide +kernel
theorem dX6_cancel_25 : decode cX6_cancel 25 = .ok (.invokevirtual 61, 3) := by decide +kernel
theorem dX6_cancel_28 : decode cX6_cancel 28 = .ok (.aload_n 0, 1) := by decide +kernel
theorem dX6_cancel_29 : decode cX6_cancel 29 = .ok (.getfield 10, 3) := by decide +kernel
theorem dX6_cancel_32 : decode cX6_cancel 32 = .ok (.iload_n 2, 1) := by decide +kernel
theorem dX6_cancel_33 : decode cX6_cancel 33 = .ok (.invokevirtual 128, 3) := by decide +kernel
theorem dX6_cancel_36 : decode cX6_cancel 36 = .ok (.ireturn, 1) := by decide +kernel
theorem dX6_rush_0 : decode cX6_rush 0 = .ok (.aload_n 0, 1) := by decide +kernel
theorem dX6_rush_1 : decode cX6_rush 1 = .ok (.getfield 10, 3) := by decide +kernel
theorem dX6_rush_4 : decode cX6_rush 4 = .ok (.iload_n 1, 1) := by decide +kernel
theorem dX6_rush_5 : decode cX6_rush 5 = .ok (.invokevirtual 122, 3) := by decide +kernel
theorem dX6_rush_8 : decode cX6_rush 8 = .ok (.istore_n 3, 1) := by decide +kernel
theorem dX6_rush_9 : decode cX6_rush 9 = .ok (.iload_n 3, 1) := by decide +kernel
theorem dX6_rush_10 : decode cX6_rush 10 = .ok (.iconst (-1), 1) := by decide +kernel
theorem dX6_rush_11 : decode cX6_rush 11 = .ok (.if_icmp .ne 13, 3) := by decide +kernel
theorem dX6_rush_14 : decode cX6_rush 14 = .ok (.new 34, 3) := by decide +kernel
theorem dX6_rush_17 : decode cX6_rush 17 = .ok (.dup, 1) := by decide +kernel
theorem dX6_rush_18 : decode cX6_rush 18 = .ok (.ldc 126, 2) := by decide +kernel
theorem dX6_rush_20 : decode cX6_rush 20 = .ok (.invokespecial 38, 3) := by decide +kernel
theorem dX6_rush_23 : decode cX6_rush 23 = .ok (.athrow, 1) := by decide +kernel
theorem dX6_rush_24 : decode cX6_rush 24 = .ok (.aload_n 0, 1) := by decide +kernel
theorem dX6_rush_25 : decode cX6_rush 25 = .ok (.invokevirtual 61, 3) := by decide +kernel
theorem dX6_rush_28 : decode cX6_rush 28 = .ok (.aload_n 0, 1) := by decide +kernel
theorem dX6_rush_29 : decode cX6_rush 29 = .ok (.getfield 10, 3) := by decide +kernel
theorem dX6_rush_32 : decode cX6_rush 32 = .ok (.iload_n 3, 1) := by decide +kernel
theorem dX6_rush_33 : decode cX6_rush 33 = .ok (.iload_n 2, 1) := by decide +kernel
theorem dX6_rush_34 : decode cX6_rush 34 = .ok (.invokevirtual 131, 3) := by decide +kernel
theorem dX6_rush_37 : decode cX6_rush 37 = .ok (.ireturn, 1) := by decide +kernel
theorem dX6_set_0 : decode cX6_set 0 = .ok (.iload_n 1, 1) := by decide +kernel
theorem dX6_set_1 : decode cX6_set 1 = .ok (.iconst 0, 1) := by decide +kernel
theorem dX6_set_2 : decode cX6_set 2 = .ok (.iconst 3, 1) := by decide +kernel
theorem dX6_set_3 : decode cX6_set 3 = .ok (.invokestatic 30, 3) := by decide +kernel
theorem dX6_set_6 : decode cX6_set 6 = .ok (.ifCond .ne 13, 3) := by decide +kernel
theorem dX6_set_9 : decode cX6_set 9 = .ok (.new 34, 3) := by decide +kernel
theorem dX6_set_12 : decode cX6_set 12 = .ok (.dup, 1) := by decide +kernel
theorem dX6_set_13 : decode cX6_set 13 = .ok (.ldc 135, 2) := by decide +kernel
theorem dX6_set_15 : decode cX6_set 15 = .ok (.invokespecial 38, 3) := by decide +kernel
theorem dX6_set_18 : decode cX6_set 18 = .ok (.athrow, 1) := by decide +kernel
theorem dX6_set_19 : decode cX6_set 19 = .ok (.iload_n 2, 1) := by decide +kernel
theorem dX6_set_20 : decode cX6_set 20 = .ok (.iload_n 1, 1) := by decide +kernel
theorem dX6_set_21 : decode cX6_set 21 = .ok (.invokestatic 137, 3) := by decide +kernel
theorem dX6_set_24 : decode cX6_set 24 = .ok (.iload_n 1, 1) := by decide +kernel
theorem dX6_set_25 : decode cX6_set 25 = .ok (.invokestatic 140, 3) := by decide +kernel
theorem dX6_set_28 : decode cX6_set 28 = .ok (.invokestatic 30, 3) := by decide +kernel
theorem dX6_set_31 : decode cX6_set 31 = .ok (.ifCond .ne 13, 3) := by decide +kernel
theorem dX6_set_34 : decode cX6_set 34 = .ok (.new 41, 3) := by decide +kernel
theorem dX6_set_37 : decode cX6_set 37 = .ok (.dup, 1) := by decide +kernel
theorem dX6_set_38 : decode cX6_set 38 = .ok (.ldc 143, 2) := by decide +kernel
theorem dX6_set_40 : decode cX6_set 40 = .ok (.invokespecial 45, 3) := by decide +kernel
theorem dX6_set_43 : decode cX6_set 43 = .ok (.athrow, 1) := by decide +kernel
theorem dX6_set_44 : decode cX6_set 44 = .ok (.aload_n 0, 1) := by decide +kernel
theorem dX6_set_45 : decode cX6_set 45 = .ok (.invokevirtual 61, 3) := by decide +kernel
theorem dX6_set_48 : decode cX6_set 48 = .ok (.aload_n 0, 1) := by decide +kernel
theorem dX6_set_49 : decode cX6_set 49 = .ok (.getfield 10, 3) := by decide +kernel
theorem dX6_set_52 : decode cX6_set 52 = .ok (.iload_n 1, 1) := by decide +kernel
theorem dX6_set_53 : decode cX6_set 53 = .ok (.invokevirtual 145, 3) := by decide +kernel
theorem dX6_set_56 : decode cX6_set 56 = .ok (.istore_n 3, 1) := by decide +kernel
theorem dX6_set_57 : decode cX6_set 57 = .ok (.aload_n 0, 1) := by decide +kernel
theorem dX6_set_58 : decode cX6_set 58 = .ok (.getfield 10, 3) := by decide +kernel
theorem dX6_set_61 : decode cX6_set 61 = .ok (.iload_n 1, 1) := by decide +kernel
theorem dX6_set_62 : decode cX6_set 62 = .ok (.iload_n 2, 1) := by decide +kernel
theorem dX6_set_63 : decode cX6_set 63 = .ok (.invokevirtual 148, 3) := by decide +kernel
theorem dX6_set_66 : decode cX6_set 66 = .ok (.iload_n 3, 1) := by decide +kernel
theorem dX6_set_67 : decode cX6_set 67 = .ok (.ireturn, 1) := by decide +kernel
theorem dX6_pass_0 : decode cX6_pass 0 = .ok (.iload_n 1, 1) := by decide +kernel
theorem dX6_pass_1 : decode cX6_pass 1 = .ok (.iconst 1, 1) := by decide +kernel
theorem dX6_pass_2 : decode cX6_pass 2 = .ok (.bipush 120, 2) := by decide +kernel
theorem dX6_pass_4 : decode cX6_pass 4 = .ok (.invokestatic 30, 3) := by decide +kernel
theorem dX6_pass_7 : decode cX6_pass 7 = .ok (.ifCond .ne 13, 3) := by decide +kernel
theorem dX6_pass_10 : decode cX6_pass 10 = .ok (.new 41, 3) := by decide +kernel
theorem dX6_pass_13 : decode cX6_pass 13 = .ok (.dup, 1) := by decide +kernel
theorem dX6_pass_14 : decode cX6_pass 14 = .ok (.ldc 152, 2) := by decide +kernel
theorem dX6_pass_16 : decode cX6_pass 16 = .ok (.invokespecial 45, 3) := by decide +kernel
theorem dX6_pass_19 : decode cX6_pass 19 = .ok (.athrow, 1) := by decide +kernel
theorem dX6_pass_20 : decode cX6_pass 20 = .ok (.aload_n 0, 1) := by decide +kernel
theorem dX6_pass_21 : decode cX6_pass 21 = .ok (.getfield 10, 3) := by decide +kernel
theorem dX6_pass_24 : decode cX6_pass 24 = .ok (.getfield 154, 3) := by decide +kernel
theorem dX6_pass_27 : decode cX6_pass 27 = .ok (.iload_n 1, 1) := by decide +kernel
theorem dX6_pass_28 : decode cX6_pass 28 = .ok (.iadd, 1) := by decide +kernel
theorem dX6_pass_29 : decode cX6_pass 29 = .ok (.sipush 9999, 3) := by decide +kernel
theorem dX6_pass_32 : decode cX6_pass 32 = .ok (.if_icmp .le 13, 3) := by decide +kernel
theorem dX6_pass_35 : decode cX6_pass 35 = .ok (.new 56, 3) := by decide +kernel
theorem dX6_pass_38 : decode cX6_pass 38 = .ok (.dup, 1) := by decide +kernel
theorem dX6_pass_39 : decode cX6_pass 39 = .ok (.ldc 157, 2) := by decide +kernel
theorem dX6_pass_41 : decode cX6_pass 41 = .ok (.invokespecial 60, 3) := by decide +kernel
theorem dX6_pass_44 : decode cX6_pass 44 = .ok (.athrow, 1) := by decide +kernel
theorem dX6_pass_45 : decode cX6_pass 45 = .ok (.aload_n 0, 1) := by decide +kernel
theorem dX6_pass_46 : decode cX6_pass 46 = .ok (.invokevirtual 61, 3) := by decide +kernel
theorem dX6_pass_49 : decode cX6_pass 49 = .ok (.aload_n 0, 1) := by decide +kernel
theorem dX6_pass_50 : decode cX6_pass 50 = .ok (.getfield 10, 3) := by decide +kernel
theorem dX6_pass_53 : decode cX6_pass 53 = .ok (.invokevirtual 159, 3) := by decide +kernel
theorem dX6_pass_56 : decode cX6_pass 56 = .ok (.istore_n 2, 1) := by decide +kernel
theorem dX6_pass_57 : decode cX6_pass 57 = .ok (.aload_n 0, 1) := by decide +kernel
theorem dX6_pass_58 : decode cX6_pass 58 = .ok (.getfield 10, 3) := by decide +kernel
theorem dX6_pass_61 : decode cX6_pass 61 = .ok (.iload_n 1, 1) := by decide +kernel
theorem dX6_pass_62 : decode cX6_pass 62 = .ok (.invokevirtual 162, 3) := by decide +kernel
theorem dX6_pass_65 : decode cX6_pass 65 = .ok (.aload_n 0, 1) := by decide +kernel
theorem dX6_pass_66 : decode cX6_pass 66 = .ok (.getfield 10, 3) := by decide +kernel
theorem dX6_pass_69 : decode cX6_pass 69 = .ok (.invokevirtual 159, 3) := by decide +kernel
theorem dX6_pass_72 : decode cX6_pass 72 = .ok (.iload_n 2, 1) := by decide +kernel
theorem dX6_pass_73 : decode cX6_pass 73 = .ok (.isub, 1) := by decide +kernel
theorem dX6_pass_74 : decode cX6_pass 74 = .ok (.ireturn, 1) := by decide +kernel
theorem dX6_undo_0 : decode cX6_undo 0 = .ok (.aload_n 0, 1) := by decide +kernel
theorem dX6_undo_1 : decode cX6_undo 1 = .ok (.aload_n 0, 1) := by decide +kernel
theorem dX6_undo_2 : decode cX6_undo 2 = .ok (.getfield 212, 3) := by decide +kernel
theorem dX6_undo_5 : decode cX6_undo 5 = .ok (.iconst 1, 1) := by decide +kernel
theorem dX6_undo_6 : decode cX6_undo 6 = .ok (.isub, 1) := by decide +kernel
theorem dX6_undo_7 : decode cX6_undo 7 = .ok (.invokevirtual 215, 3) := by decide +kernel
theorem dX6_undo_10 : decode cX6_undo 10 = .ok (.astore_n 1, 1) := by decide +kernel
theorem dX6_undo_11 : decode cX6_undo 11 = .ok (.aload_n 1, 1) := by decide +kernel
theorem dX6_undo_12 : decode cX6_undo 12 = .ok (.ifnonnull 13, 3) := by decide +kernel
theorem dX6_undo_15 : decode cX6_undo 15 = .ok (.new 56, 3) := by decide +kernel
theorem dX6_undo_18 : decode cX6_undo 18 = .ok (.dup, 1) := by decide +kernel
theorem dX6_undo_19 : decode cX6_undo 19 = .ok (.ldc 219, 2) := by decide +kernel
theorem dX6_undo_21 : decode cX6_undo 21 = .ok (.invokespecial 60, 3) := by decide +kernel
theorem dX6_undo_24 : decode cX6_undo 24 = .ok (.athrow, 1) := by decide +kernel
theorem dX6_undo_25 : decode cX6_undo 25 = .ok (.aload_n 0, 1) := by decide +kernel
theorem dX6_undo_26 : decode cX6_undo 26 = .ok (.getfield 10, 3) := by decide +kernel
theorem dX6_undo_29 : decode cX6_undo 29 = .ok (.aload_n 1, 1) := by decide +kernel
theorem dX6_undo_30 : decode cX6_undo 30 = .ok (.invokevirtual 221, 3) := by decide +kernel
theorem dX6_undo_33 : decode cX6_undo 33 = .ok (.aload_n 0, 1) := by decide +kernel
theorem dX6_undo_34 : decode cX6_undo 34 = .ok (.dup, 1) := by decide +kernel
theorem dX6_undo_35 : decode cX6_undo 35 = .ok (.getfield 212, 3) := by decide +kernel
theorem dX6_undo_38 : decode cX6_undo 38 = .ok (.iconst 1, 1) := by decide +kernel
theorem dX6_undo_39 : decode cX6_undo 39 = .ok (.isub, 1) := by decide +kernel
theorem dX6_undo_40 : decode cX6_undo 40 = .ok (.putfield 212, 3) := by decide +kernel
theorem dX6_undo_43 : decode cX6_undo 43 = .ok (.aload_n 0, 1) := by decide +kernel
theorem dX6_undo_44 : decode cX6_undo 44 = .ok (.getfield 212, 3) := by decide +kernel
theorem dX6_undo_47 : decode cX6_undo 47 = .ok (.ireturn, 1) := by decide +kernel
theorem dX6_heat_0 : decode cX6_heat 0 = .ok (.iload_n 1, 1) := by decide +kernel
theorem dX6_heat_1 : decode cX6_heat 1 = .ok (.iconst 0, 1) := by decide +kernel
theorem dX6_heat_2 : decode cX6_heat 2 = .ok (.iconst 3, 1) := by decide +kernel
theorem dX6_heat_3 : decode cX6_heat 3 = .ok (.invokestatic 30, 3) := by decide +kernel
theorem dX6_heat_6 : decode cX6_heat 6 = .ok (.ifCond .ne 13, 3) := by decide +kernel
theorem dX6_heat_9 : decode cX6_heat 9 = .ok (.new 34, 3) := by decide +kernel
theorem dX6_heat_12 : decode cX6_heat 12 = .ok (.dup, 1) := by decide +kernel
theorem dX6_heat_13 : decode cX6_heat 13 = .ok (.ldc 36, 2) := by decide +kernel
theorem dX6_heat_15 : decode cX6_heat 15 = .ok (.invokespecial 38, 3) := by decide +kernel
theorem dX6_heat_18 : decode cX6_heat 18 = .ok (.athrow, 1) := by decide +kernel
theorem dX6_heat_19 : decode cX6_heat 19 = .ok (.iload_n 2, 1) := by decide +kernel
theorem dX6_heat_20 : decode cX6_heat 20 = .ok (.iconst 0, 1) := by decide +kernel
theorem dX6_heat_21 : decode cX6_heat 21 = .ok (.bipush 6, 2) := by decide +kernel
theorem dX6_heat_23 : decode cX6_heat 23 = .ok (.invokestatic 30, 3) := by decide +kernel
theorem dX6_heat_26 : decode cX6_heat 26 = .ok (.ifCond .ne 13, 3) := by decide +kernel
theorem dX6_heat_29 : decode cX6_heat 29 = .ok (.new 41, 3) := by decide +kernel
theorem dX6_heat_32 : decode cX6_heat 32 = .ok (.dup, 1) := by decide +kernel
theorem dX6_heat_33 : decode cX6_heat 33 = .ok (.ldc 225, 2) := by decide +kernel
theorem dX6_heat_35 : decode cX6_heat 35 = .ok (.invokespecial 45, 3) := by decide +kernel
theorem dX6_heat_38 : decode cX6_heat 38 = .ok (.athrow, 1) := by decide +kernel
theorem dX6_heat_39 : decode cX6_heat 39 = .ok (.aload_n 0, 1) := by decide +kernel
theorem dX6_heat_40 : decode cX6_heat 40 = .ok (.getfield 10, 3) := by decide +kernel
theorem dX6_heat_43 : decode cX6_heat 43 = .ok (.iload_n 1, 1) := by decide +kernel
theorem dX6_heat_44 : decode cX6_heat 44 = .ok (.iload_n 2, 1) := by decide +kernel
theorem dX6_heat_45 : decode cX6_heat 45 = .ok (.invokevirtual 227, 3) := by decide +kernel
theorem dX6_heat_48 : decode cX6_heat 48 = .ok (.ireturn, 1) := by decide +kernel
theorem dX6_dieOf_0 : decode cX6_dieOf 0 = .ok (.iload_n 1, 1) := by decide +kernel
theorem dX6_dieOf_1 : decode cX6_dieOf 1 = .ok (.iconst 0, 1) := by decide +kernel
theorem dX6_dieOf_2 : decode cX6_dieOf 2 = .ok (.iconst 4, 1) := by decide +kernel
theorem dX6_dieOf_3 : decode cX6_dieOf 3 = .ok (.invokestatic 30, 3) := by decide +kernel
theorem dX6_dieOf_6 : decode cX6_dieOf 6 = .ok (.ifCond .ne 13, 3) := by decide +kernel
theorem dX6_dieOf_9 : decode cX6_dieOf 9 = .ok (.new 34, 3) := by decide +kernel
theorem dX6_dieOf_12 : decode cX6_dieOf 12 = .ok (.dup, 1) := by decide +kernel
theorem dX6_dieOf_13 : decode cX6_dieOf 13 = .ok (.ldc 72, 2) := by decide +kernel
theorem dX6_dieOf_15 : decode cX6_dieOf 15 = .ok (.invokespecial 38, 3) := by decide +kernel
theorem dX6_dieOf_18 : decode cX6_dieOf 18 = .ok (.athrow, 1) := by decide +kernel
theorem dX6_dieOf_19 : decode cX6_dieOf 19 = .ok (.iload_n 2, 1) := by decide +kernel
theorem dX6_dieOf_20 : decode cX6_dieOf 20 = .ok (.iconst 0, 1) := by decide +kernel
theorem dX6_dieOf_21 : decode cX6_dieOf 21 = .ok (.iconst 5, 1) := by decide +kernel
theorem dX6_dieOf_22 : decode cX6_dieOf 22 = .ok (.invokestatic 30, 3) := by decide +kernel
theorem dX6_dieOf_25 : decode cX6_dieOf 25 = .ok (.ifCond .ne 13, 3) := by decide +kernel
theorem dX6_dieOf_28 : decode cX6_dieOf 28 = .ok (.new 41, 3) := by decide +kernel
theorem dX6_dieOf_31 : decode cX6_dieOf 31 = .ok (.dup, 1) := by decide +kernel
theorem dX6_dieOf_32 : decode cX6_dieOf 32 = .ok (.ldc 225, 2) := by decide +kernel
theorem dX6_dieOf_34 : decode cX6_dieOf 34 = .ok (.invokespecial 45, 3) := by decide +kernel
theorem dX6_dieOf_37 : decode cX6_dieOf 37 = .ok (.athrow, 1) := by decide +kernel
theorem dX6_dieOf_38 : decode cX6_dieOf 38 = .ok (.aload_n 0, 1) := by decide +kernel
theorem dX6_dieOf_39 : decode cX6_dieOf 39 = .ok (.getfield 10, 3) := by decide +kernel
theorem dX6_dieOf_42 : decode cX6_dieOf 42 = .ok (.iload_n 1, 1) := by decide +kernel
theorem dX6_dieOf_43 : decode cX6_dieOf 43 = .ok (.invokevirtual 76, 3) := by decide +kernel
theorem dX6_dieOf_46 : decode cX6_dieOf 46 = .ok (.iload_n 2, 1) := by decide +kernel
theorem dX6_dieOf_47 : decode cX6_dieOf 47 = .ok (.invokevirtual 231, 3) := by decide +kernel
theorem dX6_dieOf_50 : decode cX6_dieOf 50 = .ok (.ireturn, 1) := by decide +kernel
theorem dX6_jobOf_0 : decode cX6_jobOf 0 = .ok (.iload_n 1, 1) := by decide +kernel
theorem dX6_jobOf_1 : decode cX6_jobOf 1 = .ok (.ifCond .lt 13, 3) := by decide +kernel
theorem dX6_jobOf_4 : decode cX6_jobOf 4 = .ok (.iload_n 2, 1) := by decide +kernel
theorem dX6_jobOf_5 : decode cX6_jobOf 5 = .ok (.iconst 0, 1) := by decide +kernel
theorem dX6_jobOf_6 : decode cX6_jobOf 6 = .ok (.bipush 7, 2) := by decide +kernel
theorem dX6_jobOf_8 : decode cX6_jobOf 8 = .ok (.invokestatic 30, 3) := by decide +kernel
theorem dX6_jobOf_11 : decode cX6_jobOf 11 = .ok (.ifCond .ne 13, 3) := by decide +kernel
theorem dX6_jobOf_14 : decode cX6_jobOf 14 = .ok (.new 41, 3) := by decide +kernel
theorem dX6_jobOf_17 : decode cX6_jobOf 17 = .ok (.dup, 1) := by decide +kernel
theorem dX6_jobOf_18 : decode cX6_jobOf 18 = .ok (.ldc 234, 2) := by decide +kernel
theorem dX6_jobOf_20 : decode cX6_jobOf 20 = .ok (.invokespecial 45, 3) := by decide +kernel
theorem dX6_jobOf_23 : decode cX6_jobOf 23 = .ok (.athrow, 1) := by decide +kernel
theorem dX6_jobOf_24 : decode cX6_jobOf 24 = .ok (.iload_n 1, 1) := by decide +kernel
theorem dX6_jobOf_25 : decode cX6_jobOf 25 = .ok (.aload_n 0, 1) := by decide +kernel
theorem dX6_jobOf_26 : decode cX6_jobOf 26 = .ok (.getfield 10, 3) := by decide +kernel
theorem dX6_jobOf_29 : decode cX6_jobOf 29 = .ok (.getfield 113, 3) := by decide +kernel
theorem dX6_jobOf_32 : decode cX6_jobOf 32 = .ok (.if_icmp .ge 15, 3) := by decide +kernel
theorem dX6_jobOf_35 : decode cX6_jobOf 35 = .ok (.aload_n 0, 1) := by decide +kernel
theorem dX6_jobOf_36 : decode cX6_jobOf 36 = .ok (.getfield 10, 3) := by decide +kernel
theorem dX6_jobOf_39 : decode cX6_jobOf 39 = .ok (.iload_n 1, 1) := by decide +kernel
theorem dX6_jobOf_40 : decode cX6_jobOf 40 = .ok (.iload_n 2, 1) := by decide +kernel
theorem dX6_jobOf_41 : decode cX6_jobOf 41 = .ok (.invokevirtual 236, 3) := by decide +kernel
theorem dX6_jobOf_44 : decode cX6_jobOf 44 = .ok (.goto 4, 3) := by decide +kernel
theorem dX6_jobOf_47 : decode cX6_jobOf 47 = .ok (.iconst (-1), 1) := by decide +kernel
theorem dX6_jobOf_48 : decode cX6_jobOf 48 = .ok (.ireturn, 1) := by decide +kernel
theorem dX6_billet_0 : decode cX6_billet 0 = .ok (.iload_n 1, 1) := by decide +kernel
theorem dX6_billet_1 : decode cX6_billet 1 = .ok (.iconst 0, 1) := by decide +kernel
theorem dX6_billet_2 : decode cX6_billet 2 = .ok (.bipush 6, 2) := by decide +kernel
theorem dX6_billet_4 : decode cX6_billet 4 = .ok (.invokestatic 30, 3) := by decide +kernel
theorem dX6_billet_7 : decode cX6_billet 7 = .ok (.ifCond .ne 13, 3) := by decide +kernel
theorem dX6_billet_10 : decode cX6_billet 10 = .ok (.new 34, 3) := by decide +kernel
theorem dX6_billet_13 : decode cX6_billet 13 = .ok (.dup, 1) := by decide +kernel
theorem dX6_billet_14 : decode cX6_billet 14 = .ok (.ldc 239, 2) := by decide +kernel
theorem dX6_billet_16 : decode cX6_billet 16 = .ok (.invokespecial 38, 3) := by decide +kernel
theorem dX6_billet_19 : decode cX6_billet 19 = .ok (.athrow, 1) := by decide +kernel
theorem dX6_billet_20 : decode cX6_billet 20 = .ok (.iload_n 2, 1) := by decide +kernel
theorem dX6_billet_21 : decode cX6_billet 21 = .ok (.iconst 0, 1) := by decide +kernel
theorem dX6_billet_22 : decode cX6_billet 22 = .ok (.iconst 3, 1) := by decide +kernel
theorem dX6_billet_23 : decode cX6_billet 23 = .ok (.invokestatic 30, 3) := by decide +kernel
theorem dX6_billet_26 : decode cX6_billet 26 = .ok (.ifCond .ne 13, 3) := by decide +kernel
theorem dX6_billet_29 : decode cX6_billet 29 = .ok (.new 41, 3) := by decide +kernel
theorem dX6_billet_32 : decode cX6_billet 32 = .ok (.dup, 1) := by decide +kernel
theorem dX6_billet_33 : decode cX6_billet 33 = .ok (.ldc 225, 2) := by decide +kernel
theorem dX6_billet_35 : decode cX6_billet 35 = .ok (.invokespecial 45, 3) := by decide +kernel
theorem dX6_billet_38 : decode cX6_billet 38 = .ok (.athrow, 1) := by decide +kernel
theorem dX6_billet_39 : decode cX6_billet 39 = .ok (.aload_n 0, 1) := by decide +kernel
theorem dX6_billet_40 : decode cX6_billet 40 = .ok (.getfield 10, 3) := by decide +kernel
theorem dX6_billet_43 : decode cX6_billet 43 = .ok (.iload_n 1, 1) := by decide +kernel
theorem dX6_billet_44 : decode cX6_billet 44 = .ok (.invokevirtual 241, 3) := by decide +kernel
theorem dX6_billet_47 : decode cX6_billet 47 = .ok (.iload_n 2, 1) := by decide +kernel
theorem dX6_billet_48 : decode cX6_billet 48 = .ok (.invokevirtual 245, 3) := by decide +kernel
theorem dX6_billet_51 : decode cX6_billet 51 = .ok (.ireturn, 1) := by decide +kernel
theorem dX6_count_0 : decode cX6_count 0 = .ok (.iload_n 1, 1) := by decide +kernel
theorem dX6_count_1 : decode cX6_count 1 = .ok (.iconst 0, 1) := by decide +kernel
theorem dX6_count_2 : decode cX6_count 2 = .ok (.bipush 11, 2) := by decide +kernel
theorem dX6_count_4 : decode cX6_count 4 = .ok (.invokestatic 30, 3) := by decide +kernel
theorem dX6_count_7 : decode cX6_count 7 = .ok (.ifCond .ne 13, 3) := by decide +kernel
theorem dX6_count_10 : decode cX6_count 10 = .ok (.new 41, 3) := by decide +kernel
theorem dX6_count_13 : decode cX6_count 13 = .ok (.dup, 1) := by decide +kernel
theorem dX6_count_14 : decode cX6_count 14 = .ok (.ldc 248, 2) := by decide +kernel
theorem dX6_count_16 : decode cX6_count 16 = .ok (.invokespecial 45, 3) := by decide +kernel
theorem dX6_count_19 : decode cX6_count 19 = .ok (.athrow, 1) := by decide +kernel
theorem dX6_count_20 : decode cX6_count 20 = .ok (.aload_n 0, 1) := by decide +kernel
theorem dX6_count_21 : decode cX6_count 21 = .ok (.iload_n 1, 1) := by decide +kernel
theorem dX6_count_22 : decode cX6_count 22 = .ok (.invokevirtual 250, 3) := by decide +kernel
theorem dX6_count_25 : decode cX6_count 25 = .ok (.ireturn, 1) := by decide +kernel
theorem dX6_setting_0 : decode cX6_setting 0 = .ok (.iload_n 1, 1) := by decide +kernel
theorem dX6_setting_1 : decode cX6_setting 1 = .ok (.iconst 0, 1) := by decide +kernel
theorem dX6_setting_2 : decode cX6_setting 2 = .ok (.iconst 3, 1) := by decide +kernel
theorem dX6_setting_3 : decode cX6_setting 3 = .ok (.invokestatic 30, 3) := by decide +kernel
theorem dX6_setting_6 : decode cX6_setting 6 = .ok (.ifCond .ne 13, 3) := by decide +kernel
theorem dX6_setting_9 : decode cX6_setting 9 = .ok (.new 34, 3) := by decide +kernel
theorem dX6_setting_12 : decode cX6_setting 12 = .ok (.dup, 1) := by decide +kernel
theorem dX6_setting_13 : decode cX6_setting 13 = .ok (.ldc 135, 2) := by decide +kernel
theorem dX6_setting_15 : decode cX6_setting 15 = .ok (.invokespecial 38, 3) := by decide +kernel
theorem dX6_setting_18 : decode cX6_setting 18 = .ok (.athrow, 1) := by decide +kernel
theorem dX6_setting_19 : decode cX6_setting 19 = .ok (.aload_n 0, 1) := by decide +kernel
theorem dX6_setting_20 : decode cX6_setting 20 = .ok (.getfield 10, 3) := by decide +kernel
theorem dX6_setting_23 : decode cX6_setting 23 = .ok (.iload_n 1, 1) := by decide +kernel
theorem dX6_setting_24 : decode cX6_setting 24 = .ok (.invokevirtual 145, 3) := by decide +kernel
theorem dX6_setting_27 : decode cX6_setting 27 = .ok (.ireturn, 1) := by decide +kernel
theorem dX6_saved_0 : decode cX6_saved 0 = .ok (.aload_n 0, 1) := by decide +kernel
theorem dX6_saved_1 : decode cX6_saved 1 = .ok (.invokevirtual 270, 3) := by decide +kernel
theorem dX6_saved_4 : decode cX6_saved 4 = .ok (.dreturn, 1) := by decide +kernel
theorem dX6_isWithin_0 : decode cX6_isWithin 0 = .ok (.iload_n 0, 1) := by decide +kernel
theorem dX6_isWithin_1 : decode cX6_isWithin 1 = .ok (.iload_n 1, 1) := by decide +kernel
theorem dX6_isWithin_2 : decode cX6_isWithin 2 = .ok (.if_icmp .lt 12, 3) := by decide +kernel
theorem dX6_isWithin_5 : decode cX6_isWithin 5 = .ok (.iload_n 0, 1) := by decide +kernel
theorem dX6_isWithin_6 : decode cX6_isWithin 6 = .ok (.iload_n 2, 1) := by decide +kernel
theorem dX6_isWithin_7 : decode cX6_isWithin 7 = .ok (.if_icmp .gt 7, 3) := by decide +kernel
theorem dX6_isWithin_10 : decode cX6_isWithin 10 = .ok (.iconst 1, 1) := by decide +kernel
theorem dX6_isWithin_11 : decode cX6_isWithin 11 = .ok (.goto 4, 3) := by decide +kernel
theorem dX6_isWithin_14 : decode cX6_isWithin 14 = .ok (.iconst 0, 1) := by decide +kernel
theorem dX6_isWithin_15 : decode cX6_isWithin 15 = .ok (.ireturn, 1) := by decide +kernel
theorem dX6_leastValue_0 : decode cX6_leastValue 0 = .ok (.iload_n 0, 1) := by decide +kernel
theorem dX6_leastValue_1 : decode cX6_leastValue 1 = .ok (.lookupswitch 32 #[(0, 27), (2, 30)], 27) := by decide +kernel
theorem dX6_leastValue_28 : decode cX6_leastValue 28 = .ok (.bipush 10, 2) := by decide +kernel
theorem dX6_leastValue_30 : decode cX6_leastValue 30 = .ok (.ireturn, 1) := by decide +kernel
theorem dX6_leastValue_31 : decode cX6_leastValue 31 = .ok (.iconst 0, 1) := by decide +kernel
theorem dX6_leastValue_32 : decode cX6_leastValue 32 = .ok (.ireturn, 1) := by decide +kernel
theorem dX6_leastValue_33 : decode cX6_leastValue 33 = .ok (.iconst 1, 1) := by decide +kernel
theorem dX6_leastValue_34 : decode cX6_leastValue 34 = .ok (.ireturn, 1) := by decide +kernel
theorem dX6_mostValue_0 : decode cX6_mostValue 0 = .ok (.iload_n 0, 1) := by decide +kernel
theorem dX6_mostValue_1 : decode cX6_mostValue 1 = .ok (.tableswitch 37 0 2 #[27, 31, 35], 27) := by decide +kernel
theorem dX6_mostValue_28 : decode cX6_mostValue 28 = .ok (.sipush 300, 3) := by decide +kernel
theorem dX6_mostValue_31 : decode cX6_mostValue 31 = .ok (.ireturn, 1) := by decide +kernel
theorem dX6_mostValue_32 : decode cX6_mostValue 32 = .ok (.sipush 200, 3) := by decide +kernel
theorem dX6_mostValue_35 : decode cX6_mostValue 35 = .ok (.ireturn, 1) := by decide +kernel
theorem dX6_mostValue_36 : decode cX6_mostValue 36 = .ok (.iconst 3, 1) := by decide +kernel
theorem dX6_mostValue_37 : decode cX6_mostValue 37 = .ok (.ireturn, 1) := by decide +kernel
theorem dX6_mostValue_38 : decode cX6_mostValue 38 = .ok (.bipush 30, 2) := by decide +kernel
theorem dX6_mostValue_40 : decode cX6_mostValue 40 = .ok (.ireturn, 1) := by decide +kernel
theorem dX6_remember_0 : decode cX6_remember 0 = .ok (.aload_n 0, 1) := by decide +kernel
theorem dX6_remember_1 : decode cX6_remember 1 = .ok (.getfield 212, 3) := by decide +kernel
theorem dX6_remember_4 : decode cX6_remember 4 = .ok (.aload_n 0, 1) := by decide +kernel
theorem dX6_remember_5 : decode cX6_remember 5 = .ok (.getfield 19, 3) := by decide +kernel
theorem dX6_remember_8 : decode cX6_remember 8 = .ok (.arraylength, 1) := by decide +kernel
theorem dX6_remember_9 : decode cX6_remember 9 = .ok (.if_icmp .lt 7, 3) := by decide +kernel
theorem dX6_remember_12 : decode cX6_remember 12 = .ok (.aload_n 0, 1) := by decide +kernel
theorem dX6_remember_13 : decode cX6_remember 13 = .ok (.invokevirtual 297, 3) := by decide +kernel
theorem dX6_remember_16 : decode cX6_remember 16 = .ok (.aload_n 0, 1) := by decide +kernel
theorem dX6_remember_17 : decode cX6_remember 17 = .ok (.aload_n 0, 1) := by decide +kernel
theorem dX6_remember_18 : decode cX6_remember 18 = .ok (.getfield 212, 3) := by decide +kernel
theorem dX6_remember_21 : decode cX6_remember 21 = .ok (.invokevirtual 215, 3) := by decide +kernel
theorem dX6_remember_24 : decode cX6_remember 24 = .ok (.astore_n 1, 1) := by decide +kernel
theorem dX6_remember_25 : decode cX6_remember 25 = .ok (.aload_n 1, 1) := by decide +kernel
theorem dX6_remember_26 : decode cX6_remember 26 = .ok (.ifnull 21, 3) := by decide +kernel
theorem dX6_remember_29 : decode cX6_remember 29 = .ok (.aload_n 1, 1) := by decide +kernel
theorem dX6_remember_30 : decode cX6_remember 30 = .ok (.aload_n 0, 1) := by decide +kernel
theorem dX6_remember_31 : decode cX6_remember 31 = .ok (.getfield 10, 3) := by decide +kernel
theorem dX6_remember_34 : decode cX6_remember 34 = .ok (.invokevirtual 221, 3) := by decide +kernel
theorem dX6_remember_37 : decode cX6_remember 37 = .ok (.aload_n 0, 1) := by decide +kernel
theorem dX6_remember_38 : decode cX6_remember 38 = .ok (.dup, 1) := by decide +kernel
theorem dX6_remember_39 : decode cX6_remember 39 = .ok (.getfield 212, 3) := by decide +kernel
theorem dX6_remember_42 : decode cX6_remember 42 = .ok (.iconst 1, 1) := by decide +kernel
theorem dX6_remember_43 : decode cX6_remember 43 = .ok (.iadd, 1) := by decide +kernel
theorem dX6_remember_44 : decode cX6_remember 44 = .ok (.putfield 212, 3) := by decide +kernel
theorem dX6_remember_47 : decode cX6_remember 47 = .ok (.return_, 1) := by decide +kernel
theorem dX6_dropOldest_0 : decode cX6_dropOldest 0 = .ok (.aload_n 0, 1) := by decide +kernel
theorem dX6_dropOldest_1 : decode cX6_dropOldest 1 = .ok (.iconst 0, 1) := by decide +kernel
theorem dX6_dropOldest_2 : decode cX6_dropOldest 2 = .ok (.invokevirtual 215, 3) := by decide +kernel
theorem dX6_dropOldest_5 : decode cX6_dropOldest 5 = .ok (.astore_n 1, 1) := by decide +kernel
theorem dX6_dropOldest_6 : decode cX6_dropOldest 6 = .ok (.aload_n 0, 1) := by decide +kernel
theorem dX6_dropOldest_7 : decode cX6_dropOldest 7 = .ok (.getfield 19, 3) := by decide +kernel
theorem dX6_dropOldest_10 : decode cX6_dropOldest 10 = .ok (.arraylength, 1) := by decide +kernel
theorem dX6_dropOldest_11 : decode cX6_dropOldest 11 = .ok (.iconst 1, 1) := by decide +kernel
theorem dX6_dropOldest_12 : decode cX6_dropOldest 12 = .ok (.isub, 1) := by decide +kernel
theorem dX6_dropOldest_13 : decode cX6_dropOldest 13 = .ok (.istore_n 2, 1) := by decide +kernel
theorem dX6_dropOldest_14 : decode cX6_dropOldest 14 = .ok (.iconst 0, 1) := by decide +kernel
theorem dX6_dropOldest_15 : decode cX6_dropOldest 15 = .ok (.istore_n 3, 1) := by decide +kernel
theorem dX6_dropOldest_16 : decode cX6_dropOldest 16 = .ok (.iload_n 3, 1) := by decide +kernel
theorem dX6_dropOldest_17 : decode cX6_dropOldest 17 = .ok (.iload_n 2, 1) := by decide +kernel
theorem dX6_dropOldest_18 : decode cX6_dropOldest 18 = .ok (.if_icmp .ge 23, 3) := by decide +kernel
theorem dX6_dropOldest_21 : decode cX6_dropOldest 21 = .ok (.aload_n 0, 1) := by decide +kernel
theorem dX6_dropOldest_22 : decode cX6_dropOldest 22 = .ok (.getfield 19, 3) := by decide +kernel
theorem dX6_dropOldest_25 : decode cX6_dropOldest 25 = .ok (.iload_n 3, 1) := by decide +kernel
theorem dX6_dropOldest_26 : decode cX6_dropOldest 26 = .ok (.aload_n 0, 1) := by decide +kernel
theorem dX6_dropOldest_27 : decode cX6_dropOldest 27 = .ok (.getfield 19, 3) := by decide +kernel
theorem dX6_dropOldest_30 : decode cX6_dropOldest 30 = .ok (.iload_n 3, 1) := by decide +kernel
theorem dX6_dropOldest_31 : decode cX6_dropOldest 31 = .ok (.iconst 1, 1) := by decide +kernel
theorem dX6_dropOldest_32 : decode cX6_dropOldest 32 = .ok (.iadd, 1) := by decide +kernel
theorem dX6_dropOldest_33 : decode cX6_dropOldest 33 = .ok (.aaload, 1) := by decide +kernel
theorem dX6_dropOldest_34 : decode cX6_dropOldest 34 = .ok (.aastore, 1) := by decide +kernel
theorem dX6_dropOldest_35 : decode cX6_dropOldest 35 = .ok (.iinc 3 1, 3) := by decide +kernel
theorem dX6_dropOldest_38 : decode cX6_dropOldest 38 = .ok (.goto (-22), 3) := by decide +kernel
theorem dX6_dropOldest_41 : decode cX6_dropOldest 41 = .ok (.iload_n 2, 1) := by decide +kernel
theorem dX6_dropOldest_42 : decode cX6_dropOldest 42 = .ok (.ifCond .lt 15, 3) := by decide +kernel
theorem dX6_dropOldest_45 : decode cX6_dropOldest 45 = .ok (.aload_n 0, 1) := by decide +kernel
theorem dX6_dropOldest_46 : decode cX6_dropOldest 46 = .ok (.getfield 19, 3) := by decide +kernel
theorem dX6_dropOldest_49 : decode cX6_dropOldest 49 = .ok (.iload_n 2, 1) := by decide +kernel
theorem dX6_dropOldest_50 : decode cX6_dropOldest 50 = .ok (.aload_n 1, 1) := by decide +kernel
theorem dX6_dropOldest_51 : decode cX6_dropOldest 51 = .ok (.aastore, 1) := by decide +kernel
theorem dX6_dropOldest_52 : decode cX6_dropOldest 52 = .ok (.aload_n 0, 1) := by decide +kernel
theorem dX6_dropOldest_53 : decode cX6_dropOldest 53 = .ok (.iload_n 2, 1) := by decide +kernel
theorem dX6_dropOldest_54 : decode cX6_dropOldest 54 = .ok (.putfield 212, 3) := by decide +kernel
theorem dX6_dropOldest_57 : decode cX6_dropOldest 57 = .ok (.return_, 1) := by decide +kernel
theorem dX6_pastAt_0 : decode cX6_pastAt 0 = .ok (.iload_n 1, 1) := by decide +kernel
theorem dX6_pastAt_1 : decode cX6_pastAt 1 = .ok (.ifCond .lt 21, 3) := by decide +kernel
theorem dX6_pastAt_4 : decode cX6_pastAt 4 = .ok (.iload_n 1, 1) := by decide +kernel
theorem dX6_pastAt_5 : decode cX6_pastAt 5 = .ok (.aload_n 0, 1) := by decide +kernel
theorem dX6_pastAt_6 : decode cX6_pastAt 6 = .ok (.getfield 19, 3) := by decide +kernel
theorem dX6_pastAt_9 : decode cX6_pastAt 9 = .ok (.arraylength, 1) := by decide +kernel
theorem dX6_pastAt_10 : decode cX6_pastAt 10 = .ok (.if_icmp .ge 12, 3) := by decide +kernel
theorem dX6_pastAt_13 : decode cX6_pastAt 13 = .ok (.aload_n 0, 1) := by decide +kernel
theorem dX6_pastAt_14 : decode cX6_pastAt 14 = .ok (.getfield 19, 3) := by decide +kernel
theorem dX6_pastAt_17 : decode cX6_pastAt 17 = .ok (.iload_n 1, 1) := by decide +kernel
theorem dX6_pastAt_18 : decode cX6_pastAt 18 = .ok (.aaload, 1) := by decide +kernel
theorem dX6_pastAt_19 : decode cX6_pastAt 19 = .ok (.goto 4, 3) := by decide +kernel
theorem dX6_pastAt_22 : decode cX6_pastAt 22 = .ok (.aconst_null, 1) := by decide +kernel
theorem dX6_pastAt_23 : decode cX6_pastAt 23 = .ok (.areturn, 1) := by decide +kernel
theorem dX6_numberOf_0 : decode cX6_numberOf 0 = .ok (.iload_n 1, 1) := by decide +kernel
theorem dX6_numberOf_1 : decode cX6_numberOf 1 = .ok (.tableswitch 147 0 10 #[59, 67, 75, 83, 91, 99, 107, 115, 123, 131, 139], 59) := by decide +kernel
theorem dX6_numberOf_60 : decode cX6_numberOf 60 = .ok (.aload_n 0, 1) := by decide +kernel
theorem dX6_numberOf_61 : decode cX6_numberOf 61 = .ok (.getfield 10, 3) := by decide +kernel
theorem dX6_numberOf_64 : decode cX6_numberOf 64 = .ok (.getfield 154, 3) := by decide +kernel
theorem dX6_numberOf_67 : decode cX6_numberOf 67 = .ok (.ireturn, 1) := by decide +kernel
theorem dX6_numberOf_68 : decode cX6_numberOf 68 = .ok (.aload_n 0, 1) := by decide +kernel
theorem dX6_numberOf_69 : decode cX6_numberOf 69 = .ok (.getfield 10, 3) := by decide +kernel
theorem dX6_numberOf_72 : decode cX6_numberOf 72 = .ok (.getfield 113, 3) := by decide +kernel
theorem dX6_numberOf_75 : decode cX6_numberOf 75 = .ok (.ireturn, 1) := by decide +kernel
theorem dX6_numberOf_76 : decode cX6_numberOf 76 = .ok (.aload_n 0, 1) := by decide +kernel
theorem dX6_numberOf_77 : decode cX6_numberOf 77 = .ok (.getfield 10, 3) := by decide +kernel
theorem dX6_numberOf_80 : decode cX6_numberOf 80 = .ok (.invokevirtual 300, 3) := by decide +kernel
theorem dX6_numberOf_83 : decode cX6_numberOf 83 = .ok (.ireturn, 1) := by decide +kernel
theorem dX6_numberOf_84 : decode cX6_numberOf 84 = .ok (.aload_n 0, 1) := by decide +kernel
theorem dX6_numberOf_85 : decode cX6_numberOf 85 = .ok (.getfield 10, 3) := by decide +kernel
theorem dX6_numberOf_88 : decode cX6_numberOf 88 = .ok (.invokevirtual 303, 3) := by decide +kernel
theorem dX6_numberOf_91 : decode cX6_numberOf 91 = .ok (.ireturn, 1) := by decide +kernel
theorem dX6_numberOf_92 : decode cX6_numberOf 92 = .ok (.aload_n 0, 1) := by decide +kernel
theorem dX6_numberOf_93 : decode cX6_numberOf 93 = .ok (.getfield 10, 3) := by decide +kernel
theorem dX6_numberOf_96 : decode cX6_numberOf 96 = .ok (.invokevirtual 159, 3) := by decide +kernel
theorem dX6_numberOf_99 : decode cX6_numberOf 99 = .ok (.ireturn, 1) := by decide +kernel
theorem dX6_numberOf_100 : decode cX6_numberOf 100 = .ok (.aload_n 0, 1) := by decide +kernel
theorem dX6_numberOf_101 : decode cX6_numberOf 101 = .ok (.getfield 10, 3) := by decide +kernel
theorem dX6_numberOf_104 : decode cX6_numberOf 104 = .ok (.invokevirtual 306, 3) := by decide +kernel
theorem dX6_numberOf_107 : decode cX6_numberOf 107 = .ok (.ireturn, 1) := by decide +kernel
theorem dX6_numberOf_108 : decode cX6_numberOf 108 = .ok (.aload_n 0, 1) := by decide +kernel
theorem dX6_numberOf_109 : decode cX6_numberOf 109 = .ok (.getfield 10, 3) := by decide +kernel
theorem dX6_numberOf_112 : decode cX6_numberOf 112 = .ok (.getfield 309, 3) := by decide +kernel
theorem dX6_numberOf_115 : decode cX6_numberOf 115 = .ok (.ireturn, 1) := by decide +kernel
theorem dX6_numberOf_116 : decode cX6_numberOf 116 = .ok (.aload_n 0, 1) := by decide +kernel
theorem dX6_numberOf_117 : decode cX6_numberOf 117 = .ok (.getfield 10, 3) := by decide +kernel
theorem dX6_numberOf_120 : decode cX6_numberOf 120 = .ok (.getfield 310, 3) := by decide +kernel
theorem dX6_numberOf_123 : decode cX6_numberOf 123 = .ok (.ireturn, 1) := by decide +kernel
theorem dX6_numberOf_124 : decode cX6_numberOf 124 = .ok (.aload_n 0, 1) := by decide +kernel
theorem dX6_numberOf_125 : decode cX6_numberOf 125 = .ok (.getfield 10, 3) := by decide +kernel
theorem dX6_numberOf_128 : decode cX6_numberOf 128 = .ok (.getfield 313, 3) := by decide +kernel
theorem dX6_numberOf_131 : decode cX6_numberOf 131 = .ok (.ireturn, 1) := by decide +kernel
theorem dX6_numberOf_132 : decode cX6_numberOf 132 = .ok (.aload_n 0, 1) := by decide +kernel
theorem dX6_numberOf_133 : decode cX6_numberOf 133 = .ok (.getfield 10, 3) := by decide +kernel
theorem dX6_numberOf_136 : decode cX6_numberOf 136 = .ok (.getfield 316, 3) := by decide +kernel
theorem dX6_numberOf_139 : decode cX6_numberOf 139 = .ok (.ireturn, 1) := by decide +kernel
theorem dX6_numberOf_140 : decode cX6_numberOf 140 = .ok (.aload_n 0, 1) := by decide +kernel
theorem dX6_numberOf_141 : decode cX6_numberOf 141 = .ok (.getfield 10, 3) := by decide +kernel
theorem dX6_numberOf_144 : decode cX6_numberOf 144 = .ok (.invokevirtual 97, 3) := by decide +kernel
theorem dX6_numberOf_147 : decode cX6_numberOf 147 = .ok (.ireturn, 1) := by decide +kernel
theorem dX6_numberOf_148 : decode cX6_numberOf 148 = .ok (.aload_n 0, 1) := by decide +kernel
theorem dX6_numberOf_149 : decode cX6_numberOf 149 = .ok (.getfield 212, 3) := by decide +kernel
theorem dX6_numberOf_152 : decode cX6_numberOf 152 = .ok (.ireturn, 1) := by decide +kernel
theorem dX6_shareMade_0 : decode cX6_shareMade 0 = .ok (.aload_n 0, 1) := by decide +kernel
theorem dX6_shareMade_1 : decode cX6_shareMade 1 = .ok (.getfield 10, 3) := by decide +kernel
theorem dX6_shareMade_4 : decode cX6_shareMade 4 = .ok (.invokevirtual 159, 3) := by decide +kernel
theorem dX6_shareMade_7 : decode cX6_shareMade 7 = .ok (.istore_n 1, 1) := by decide +kernel
theorem dX6_shareMade_8 : decode cX6_shareMade 8 = .ok (.iload_n 1, 1) := by decide +kernel
theorem dX6_shareMade_9 : decode cX6_shareMade 9 = .ok (.aload_n 0, 1) := by decide +kernel
theorem dX6_shareMade_10 : decode cX6_shareMade 10 = .ok (.getfield 10, 3) := by decide +kernel
theorem dX6_shareMade_13 : decode cX6_shareMade 13 = .ok (.invokevirtual 306, 3) := by decide +kernel
theorem dX6_shareMade_16 : decode cX6_shareMade 16 = .ok (.iadd, 1) := by decide +kernel
theorem dX6_shareMade_17 : decode cX6_shareMade 17 = .ok (.istore_n 2, 1) := by decide +kernel
theorem dX6_shareMade_18 : decode cX6_shareMade 18 = .ok (.iload_n 2, 1) := by decide +kernel
theorem dX6_shareMade_19 : decode cX6_shareMade 19 = .ok (.ifCond .ne 7, 3) := by decide +kernel
theorem dX6_shareMade_22 : decode cX6_shareMade 22 = .ok (.dconst 1, 1) := by decide +kernel
theorem dX6_shareMade_23 : decode cX6_shareMade 23 = .ok (.goto 8, 3) := by decide +kernel
theorem dX6_shareMade_26 : decode cX6_shareMade 26 = .ok (.iload_n 1, 1) := by decide +kernel
theorem dX6_shareMade_27 : decode cX6_shareMade 27 = .ok (.i2d, 1) := by decide +kernel
theorem dX6_shareMade_28 : decode cX6_shareMade 28 = .ok (.iload_n 2, 1) := by decide +kernel
theorem dX6_shareMade_29 : decode cX6_shareMade 29 = .ok (.i2d, 1) := by decide +kernel
theorem dX6_shareMade_30 : decode cX6_shareMade 30 = .ok (.ddiv, 1) := by decide +kernel
theorem dX6_shareMade_31 : decode cX6_shareMade 31 = .ok (.dreturn, 1) := by decide +kernel
