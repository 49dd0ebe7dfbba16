theorem dX0_init_0 : decode cX0_init 0 = .ok (.aload_n 0, 1) := by decide +kernel
theorem dX0_init_1 : decode cX0_init 1 = .ok (.invokespecial 3, 3) := by decide +kernel
theorem dX0_init_4 : decode cX0_init 4 = .ok (.aload_n 0, 1) := by decide +kernel
theorem dX0_init_5 : decode cX0_init 5 = .ok (.iconst (-1), 1) := by decide +kernel
theorem dX0_init_6 : decode cX0_init 6 = .ok (.putfield 9, 3) := by decide +kernel
theorem dX0_init_9 : decode cX0_init 9 = .ok (.return_, 1) := by decide +kernel
theorem dX0_copyFrom_0 : decode cX0_copyFrom 0 = .ok (.aload_n 0, 1) := by decide +kernel
theorem dX0_copyFrom_1 : decode cX0_copyFrom 1 = .ok (.aload_n 1, 1) := by decide +kernel
theorem dX0_copyFrom_2 : decode cX0_copyFrom 2 = .ok (.getfield 9, 3) := by decide +kernel
theorem dX0_copyFrom_5 : decode cX0_copyFrom 5 = .ok (.putfield 9, 3) := by decide +kernel
theorem dX0_copyFrom_8 : decode cX0_copyFrom 8 = .ok (.aload_n 0, 1) := by decide +kernel
theorem dX0_copyFrom_9 : decode cX0_copyFrom 9 = .ok (.aload_n 1, 1) := by decide +kernel
theorem dX0_copyFrom_10 : decode cX0_copyFrom 10 = .ok (.getfield 15, 3) := by decide +kernel
theorem dX0_copyFrom_13 : decode cX0_copyFrom 13 = .ok (.putfield 15, 3) := by decide +kernel
theorem dX0_copyFrom_16 : decode cX0_copyFrom 16 = .ok (.aload_n 0, 1) := by decide +kernel
theorem dX0_copyFrom_17 : decode cX0_copyFrom 17 = .ok (.aload_n 1, 1) := by decide +kernel
theorem dX0_copyFrom_18 : decode cX0_copyFrom 18 = .ok (.getfield 18, 3) := by decide +kernel
theorem dX0_copyFrom_21 : decode cX0_copyFrom 21 = .ok (.putfield 18, 3) := by decide +kernel
theorem dX0_copyFrom_24 : decode cX0_copyFrom 24 = .ok (.aload_n 0, 1) := by decide +kernel
theorem dX0_copyFrom_25 : decode cX0_copyFrom 25 = .ok (.aload_n 1, 1) := by decide +kernel
theorem dX0_copyFrom_26 : decode cX0_copyFrom 26 = .ok (.getfield 21, 3) := by decide +kernel
theorem dX0_copyFrom_29 : decode cX0_copyFrom 29 = .ok (.putfield 21, 3) := by decide +kernel
theorem dX0_copyFrom_32 : decode cX0_copyFrom 32 = .ok (.return_, 1) := by decide +kernel
theorem dX0_property_0 : decode cX0_property 0 = .ok (.aload_n 0, 1) := by decide +kernel
theorem dX0_property_1 : decode cX0_property 1 = .ok (.getfield 9, 3) := by decide +kernel
theorem dX0_property_4 : decode cX0_property 4 = .ok (.iconst (-1), 1) := by decide +kernel
theorem dX0_property_5 : decode cX0_property 5 = .ok (.if_icmp .ne 5, 3) := by decide +kernel
theorem dX0_property_8 : decode cX0_property 8 = .ok (.iconst (-1), 1) := by decide +kernel
theorem dX0_property_9 : decode cX0_property 9 = .ok (.ireturn, 1) := by decide +kernel
theorem dX0_property_10 : decode cX0_property 10 = .ok (.iload_n 1, 1) := by decide +kernel
theorem dX0_property_11 : decode cX0_property 11 = .ok (.tableswitch 40 0 2 #[25, 30, 35], 25) := by decide +kernel
theorem dX0_property_36 : decode cX0_property 36 = .ok (.aload_n 0, 1) := by decide +kernel
theorem dX0_property_37 : decode cX0_property 37 = .ok (.getfield 9, 3) := by decide +kernel
theorem dX0_property_40 : decode cX0_property 40 = .ok (.ireturn, 1) := by decide +kernel
theorem dX0_property_41 : decode cX0_property 41 = .ok (.aload_n 0, 1) := by decide +kernel
theorem dX0_property_42 : decode cX0_property 42 = .ok (.getfield 15, 3) := by decide +kernel
theorem dX0_property_45 : decode cX0_property 45 = .ok (.ireturn, 1) := by decide +kernel
theorem dX0_property_46 : decode cX0_property 46 = .ok (.aload_n 0, 1) := by decide +kernel
theorem dX0_property_47 : decode cX0_property 47 = .ok (.getfield 18, 3) := by decide +kernel
theorem dX0_property_50 : decode cX0_property 50 = .ok (.ireturn, 1) := by decide +kernel
theorem dX0_property_51 : decode cX0_property 51 = .ok (.aload_n 0, 1) := by decide +kernel
theorem dX0_property_52 : decode cX0_property 52 = .ok (.getfield 21, 3) := by decide +kernel
theorem dX0_property_55 : decode cX0_property 55 = .ok (.ireturn, 1) := by decide +kernel
theorem dX1_init_0 : decode cX1_init 0 = .ok (.aload_n 0, 1) := by decide +kernel
theorem dX1_init_1 : decode cX1_init 1 = .ok (.invokespecial 3, 3) := by decide +kernel
theorem dX1_init_4 : decode cX1_init 4 = .ok (.aload_n 0, 1) := by decide +kernel
theorem dX1_init_5 : decode cX1_init 5 = .ok (.iconst 3, 1) := by decide +kernel
theorem dX1_init_6 : decode cX1_init 6 = .ok (.putfield 9, 3) := by decide +kernel
theorem dX1_init_9 : decode cX1_init 9 = .ok (.aload_n 0, 1) := by decide +kernel
theorem dX1_init_10 : decode cX1_init 10 = .ok (.bipush 60, 2) := by decide +kernel
theorem dX1_init_12 : decode cX1_init 12 = .ok (.putfield 15, 3) := by decide +kernel
theorem dX1_init_15 : decode cX1_init 15 = .ok (.return_, 1) := by decide +kernel
theorem dX1_copyFrom_0 : decode cX1_copyFrom 0 = .ok (.aload_n 0, 1) := by decide +kernel
theorem dX1_copyFrom_1 : decode cX1_copyFrom 1 = .ok (.aload_n 1, 1) := by decide +kernel
theorem dX1_copyFrom_2 : decode cX1_copyFrom 2 = .ok (.getfield 9, 3) := by decide +kernel
theorem dX1_copyFrom_5 : decode cX1_copyFrom 5 = .ok (.putfield 9, 3) := by decide +kernel
theorem dX1_copyFrom_8 : decode cX1_copyFrom 8 = .ok (.aload_n 0, 1) := by decide +kernel
theorem dX1_copyFrom_9 : decode cX1_copyFrom 9 = .ok (.aload_n 1, 1) := by decide +kernel
theorem dX1_copyFrom_10 : decode cX1_copyFrom 10 = .ok (.getfield 15, 3) := by decide +kernel
theorem dX1_copyFrom_13 : decode cX1_copyFrom 13 = .ok (.putfield 15, 3) := by decide +kernel
theorem dX1_copyFrom_16 : decode cX1_copyFrom 16 = .ok (.aload_n 0, 1) := by decide +kernel
theorem dX1_copyFrom_17 : decode cX1_copyFrom 17 = .ok (.aload_n 1, 1) := by decide +kernel
theorem dX1_copyFrom_18 : decode cX1_copyFrom 18 = .ok (.getfield 18, 3) := by decide +kernel
theorem dX1_copyFrom_21 : decode cX1_copyFrom 21 = .ok (.putfield 18, 3) := by decide +kernel
theorem dX1_copyFrom_24 : decode cX1_copyFrom 24 = .ok (.aload_n 0, 1) := by decide +kernel
theorem dX1_copyFrom_25 : decode cX1_copyFrom 25 = .ok (.aload_n 1, 1) := by decide +kernel
theorem dX1_copyFrom_26 : decode cX1_copyFrom 26 = .ok (.getfield 21, 3) := by decide +kernel
theorem dX1_copyFrom_29 : decode cX1_copyFrom 29 = .ok (.putfield 21, 3) := by decide +kernel
theorem dX1_copyFrom_32 : decode cX1_copyFrom 32 = .ok (.aload_n 0, 1) := by decide +kernel
theorem dX1_copyFrom_33 : decode cX1_copyFrom 33 = .ok (.aload_n 1, 1) := by decide +kernel
theorem dX1_copyFrom_34 : decode cX1_copyFrom 34 = .ok (.getfield 24, 3) := by decide +kernel
theorem dX1_copyFrom_37 : decode cX1_copyFrom 37 = .ok (.putfield 24, 3) := by decide +kernel
theorem dX1_copyFrom_40 : decode cX1_copyFrom 40 = .ok (.aload_n 0, 1) := by decide +kernel
theorem dX1_copyFrom_41 : decode cX1_copyFrom 41 = .ok (.aload_n 1, 1) := by decide +kernel
theorem dX1_copyFrom_42 : decode cX1_copyFrom 42 = .ok (.getfield 27, 3) := by decide +kernel
theorem dX1_copyFrom_45 : decode cX1_copyFrom 45 = .ok (.putfield 27, 3) := by decide +kernel
theorem dX1_copyFrom_48 : decode cX1_copyFrom 48 = .ok (.return_, 1) := by decide +kernel
theorem dX1_isBeingGround_0 : decode cX1_isBeingGround 0 = .ok (.aload_n 0, 1) := by decide +kernel
theorem dX1_isBeingGround_1 : decode cX1_isBeingGround 1 = .ok (.getfield 21, 3) := by decide +kernel
theorem dX1_isBeingGround_4 : decode cX1_isBeingGround 4 = .ok (.ifCond .le 7, 3) := by decide +kernel
theorem dX1_isBeingGround_7 : decode cX1_isBeingGround 7 = .ok (.iconst 1, 1) := by decide +kernel
theorem dX1_isBeingGround_8 : decode cX1_isBeingGround 8 = .ok (.goto 4, 3) := by decide +kernel
theorem dX1_isBeingGround_11 : decode cX1_isBeingGround 11 = .ok (.iconst 0, 1) := by decide +kernel
theorem dX1_isBeingGround_12 : decode cX1_isBeingGround 12 = .ok (.ireturn, 1) := by decide +kernel
theorem dX1_isWornOut_0 : decode cX1_isWornOut 0 = .ok (.aload_n 0, 1) := by decide +kernel
theorem dX1_isWornOut_1 : decode cX1_isWornOut 1 = .ok (.getfield 18, 3) := by decide +kernel
theorem dX1_isWornOut_4 : decode cX1_isWornOut 4 = .ok (.aload_n 0, 1) := by decide +kernel
theorem dX1_isWornOut_5 : decode cX1_isWornOut 5 = .ok (.getfield 15, 3) := by decide +kernel
theorem dX1_isWornOut_8 : decode cX1_isWornOut 8 = .ok (.if_icmp .lt 7, 3) := by decide +kernel
theorem dX1_isWornOut_11 : decode cX1_isWornOut 11 = .ok (.iconst 1, 1) := by decide +kernel
theorem dX1_isWornOut_12 : decode cX1_isWornOut 12 = .ok (.goto 4, 3) := by decide +kernel
theorem dX1_isWornOut_15 : decode cX1_isWornOut 15 = .ok (.iconst 0, 1) := by decide +kernel
theorem dX1_isWornOut_16 : decode cX1_isWornOut 16 = .ok (.ireturn, 1) := by decide +kernel
theorem dX1_canForge_0 : decode cX1_canForge 0 = .ok (.aload_n 0, 1) := by decide +kernel
theorem dX1_canForge_1 : decode cX1_canForge 1 = .ok (.getfield 21, 3) := by decide +kernel
theorem dX1_canForge_4 : decode cX1_canForge 4 = .ok (.ifCond .gt 18, 3) := by decide +kernel
theorem dX1_canForge_7 : decode cX1_canForge 7 = .ok (.aload_n 0, 1) := by decide +kernel
theorem dX1_canForge_8 : decode cX1_canForge 8 = .ok (.getfield 18, 3) := by decide +kernel
theorem dX1_canForge_11 : decode cX1_canForge 11 = .ok (.aload_n 0, 1) := by decide +kernel
theorem dX1_canForge_12 : decode cX1_canForge 12 = .ok (.getfield 15, 3) := by decide +kernel
theorem dX1_canForge_15 : decode cX1_canForge 15 = .ok (.if_icmp .ge 7, 3) := by decide +kernel
theorem dX1_canForge_18 : decode cX1_canForge 18 = .ok (.iconst 1, 1) := by decide +kernel
theorem dX1_canForge_19 : decode cX1_canForge 19 = .ok (.goto 4, 3) := by decide +kernel
theorem dX1_canForge_22 : decode cX1_canForge 22 = .ok (.iconst 0, 1) := by decide +kernel
theorem dX1_canForge_23 : decode cX1_canForge 23 = .ok (.ireturn, 1) := by decide +kernel
theorem dX1_grindMinute_0 : decode cX1_grindMinute 0 = .ok (.aload_n 0, 1) := by decide +kernel
theorem dX1_grindMinute_1 : decode cX1_grindMinute 1 = .ok (.dup, 1) := by decide +kernel
theorem dX1_grindMinute_2 : decode cX1_grindMinute 2 = .ok (.getfield 21, 3) := by decide +kernel
theorem dX1_grindMinute_5 : decode cX1_grindMinute 5 = .ok (.iconst 1, 1) := by decide +kernel
theorem dX1_grindMinute_6 : decode cX1_grindMinute 6 = .ok (.isub, 1) := by decide +kernel
theorem dX1_grindMinute_7 : decode cX1_grindMinute 7 = .ok (.putfield 21, 3) := by decide +kernel
theorem dX1_grindMinute_10 : decode cX1_grindMinute 10 = .ok (.aload_n 0, 1) := by decide +kernel
theorem dX1_grindMinute_11 : decode cX1_grindMinute 11 = .ok (.getfield 21, 3) := by decide +kernel
theorem dX1_grindMinute_14 : decode cX1_grindMinute 14 = .ok (.ifCond .gt 33, 3) := by decide +kernel
theorem dX1_grindMinute_17 : decode cX1_grindMinute 17 = .ok (.aload_n 0, 1) := by decide +kernel
theorem dX1_grindMinute_18 : decode cX1_grindMinute 18 = .ok (.iconst 0, 1) := by decide +kernel
theorem dX1_grindMinute_19 : decode cX1_grindMinute 19 = .ok (.putfield 18, 3) := by decide +kernel
theorem dX1_grindMinute_22 : decode cX1_grindMinute 22 = .ok (.aload_n 0, 1) := by decide +kernel
theorem dX1_grindMinute_23 : decode cX1_grindMinute 23 = .ok (.bipush 10, 2) := by decide +kernel
theorem dX1_grindMinute_25 : decode cX1_grindMinute 25 = .ok (.aload_n 0, 1) := by decide +kernel
theorem dX1_grindMinute_26 : decode cX1_grindMinute 26 = .ok (.getfield 15, 3) := by decide +kernel
theorem dX1_grindMinute_29 : decode cX1_grindMinute 29 = .ok (.iconst 5, 1) := by decide +kernel
theorem dX1_grindMinute_30 : decode cX1_grindMinute 30 = .ok (.isub, 1) := by decide +kernel
theorem dX1_grindMinute_31 : decode cX1_grindMinute 31 = .ok (.invokestatic 30, 3) := by decide +kernel
theorem dX1_grindMinute_34 : decode cX1_grindMinute 34 = .ok (.putfield 15, 3) := by decide +kernel
theorem dX1_grindMinute_37 : decode cX1_grindMinute 37 = .ok (.aload_n 0, 1) := by decide +kernel
theorem dX1_grindMinute_38 : decode cX1_grindMinute 38 = .ok (.dup, 1) := by decide +kernel
theorem dX1_grindMinute_39 : decode cX1_grindMinute 39 = .ok (.getfield 27, 3) := by decide +kernel
theorem dX1_grindMinute_42 : decode cX1_grindMinute 42 = .ok (.iconst 1, 1) := by decide +kernel
theorem dX1_grindMinute_43 : decode cX1_grindMinute 43 = .ok (.iadd, 1) := by decide +kernel
theorem dX1_grindMinute_44 : decode cX1_grindMinute 44 = .ok (.putfield 27, 3) := by decide +kernel
theorem dX1_grindMinute_47 : decode cX1_grindMinute 47 = .ok (.return_, 1) := by decide +kernel
theorem dX1_property_0 : decode cX1_property 0 = .ok (.iload_n 1, 1) := by decide +kernel
theorem dX1_property_1 : decode cX1_property 1 = .ok (.tableswitch 60 0 4 #[35, 40, 45, 50, 55], 35) := by decide +kernel
theorem dX1_property_36 : decode cX1_property 36 = .ok (.aload_n 0, 1) := by decide +kernel
theorem dX1_property_37 : decode cX1_property 37 = .ok (.getfield 9, 3) := by decide +kernel
theorem dX1_property_40 : decode cX1_property 40 = .ok (.ireturn, 1) := by decide +kernel
theorem dX1_property_41 : decode cX1_property 41 = .ok (.aload_n 0, 1) := by decide +kernel
theorem dX1_property_42 : decode cX1_property 42 = .ok (.getfield 15, 3) := by decide +kernel
theorem dX1_property_45 : decode cX1_property 45 = .ok (.ireturn, 1) := by decide +kernel
theorem dX1_property_46 : decode cX1_property 46 = .ok (.aload_n 0, 1) := by decide +kernel
theorem dX1_property_47 : decode cX1_property 47 = .ok (.getfield 18, 3) := by decide +kernel
theorem dX1_property_50 : decode cX1_property 50 = .ok (.ireturn, 1) := by decide +kernel
theorem dX1_property_51 : decode cX1_property 51 = .ok (.aload_n 0, 1) := by decide +kernel
theorem dX1_property_52 : decode cX1_property 52 = .ok (.getfield 21, 3) := by decide +kernel
theorem dX1_property_55 : decode cX1_property 55 = .ok (.ireturn, 1) := by decide +kernel
theorem dX1_property_56 : decode cX1_property 56 = .ok (.aload_n 0, 1) := by decide +kernel
theorem dX1_property_57 : decode cX1_property 57 = .ok (.getfield 24, 3) := by decide +kernel
theorem dX1_property_60 : decode cX1_property 60 = .ok (.ireturn, 1) := by decide +kernel
theorem dX1_property_61 : decode cX1_property 61 = .ok (.aload_n 0, 1) := by decide +kernel
theorem dX1_property_62 : decode cX1_property 62 = .ok (.getfield 27, 3) := by decide +kernel
theorem dX1_property_65 : decode cX1_property 65 = .ok (.ireturn, 1) := by decide +kernel
theorem dX2_init_0 : decode cX2_init 0 = .ok (.aload_n 0, 1) := by decide +kernel
theorem dX2_init_1 : decode cX2_init 1 = .ok (.invokespecial 1, 3) := by decide +kernel
theorem dX2_init_4 : decode cX2_init 4 = .ok (.aload_n 0, 1) := by decide +kernel
theorem dX2_init_5 : decode cX2_init 5 = .ok (.sipush 900, 3) := by decide +kernel
theorem dX2_init_8 : decode cX2_init 8 = .ok (.putfield 7, 3) := by decide +kernel
theorem dX2_init_11 : decode cX2_init 11 = .ok (.aload_n 0, 1) := by decide +kernel
theorem dX2_init_12 : decode cX2_init 12 = .ok (.sipush 1100, 3) := by decide +kernel
theorem dX2_init_15 : decode cX2_init 15 = .ok (.putfield 13, 3) := by decide +kernel
theorem dX2_init_18 : decode cX2_init 18 = .ok (.return_, 1) := by decide +kernel
theorem dX2_copyFrom_0 : decode cX2_copyFrom 0 = .ok (.aload_n 0, 1) := by decide +kernel
theorem dX2_copyFrom_1 : decode cX2_copyFrom 1 = .ok (.aload_n 1, 1) := by decide +kernel
theorem dX2_copyFrom_2 : decode cX2_copyFrom 2 = .ok (.getfield 16, 3) := by decide +kernel
theorem dX2_copyFrom_5 : decode cX2_copyFrom 5 = .ok (.putfield 16, 3) := by decide +kernel
theorem dX2_copyFrom_8 : decode cX2_copyFrom 8 = .ok (.aload_n 0, 1) := by decide +kernel
theorem dX2_copyFrom_9 : decode cX2_copyFrom 9 = .ok (.aload_n 1, 1) := by decide +kernel
theorem dX2_copyFrom_10 : decode cX2_copyFrom 10 = .ok (.getfield 7, 3) := by decide +kernel
theorem dX2_copyFrom_13 : decode cX2_copyFrom 13 = .ok (.putfield 7, 3) := by decide +kernel
theorem dX2_copyFrom_16 : decode cX2_copyFrom 16 = .ok (.aload_n 0, 1) := by decide +kernel
theorem dX2_copyFrom_17 : decode cX2_copyFrom 17 = .ok (.aload_n 1, 1) := by decide +kernel
theorem dX2_copyFrom_18 : decode cX2_copyFrom 18 = .ok (.getfield 13, 3) := by decide +kernel
theorem dX2_copyFrom_21 : decode cX2_copyFrom 21 = .ok (.putfield 13, 3) := by decide +kernel
theorem dX2_copyFrom_24 : decode cX2_copyFrom 24 = .ok (.aload_n 0, 1) := by decide +kernel
theorem dX2_copyFrom_25 : decode cX2_copyFrom 25 = .ok (.aload_n 1, 1) := by decide +kernel
theorem dX2_copyFrom_26 : decode cX2_copyFrom 26 = .ok (.getfield 19, 3) := by decide +kernel
theorem dX2_copyFrom_29 : decode cX2_copyFrom 29 = .ok (.putfield 19, 3) := by decide +kernel
theorem dX2_copyFrom_32 : decode cX2_copyFrom 32 = .ok (.aload_n 0, 1) := by decide +kernel
theorem dX2_copyFrom_33 : decode cX2_copyFrom 33 = .ok (.aload_n 1, 1) := by decide +kernel
theorem dX2_copyFrom_34 : decode cX2_copyFrom 34 = .ok (.getfield 22, 3) := by decide +kernel
theorem dX2_copyFrom_37 : decode cX2_copyFrom 37 = .ok (.putfield 22, 3) := by decide +kernel
theorem dX2_copyFrom_40 : decode cX2_copyFrom 40 = .ok (.return_, 1) := by decide +kernel
theorem dX3_init_0 : decode cX3_init 0 = .ok (.aload_n 0, 1) := by decide +kernel
theorem dX3_init_1 : decode cX3_init 1 = .ok (.invokespecial 1, 3) := by decide +kernel
theorem dX3_init_4 : decode cX3_init 4 = .ok (.return_, 1) := by decide +kernel
theorem dX3_copyFrom_0 : decode cX3_copyFrom 0 = .ok (.aload_n 0, 1) := by decide +kernel
theorem dX3_copyFrom_1 : decode cX3_copyFrom 1 = .ok (.aload_n 1, 1) := by decide +kernel
theorem dX3_copyFrom_2 : decode cX3_copyFrom 2 = .ok (.getfield 7, 3) := by decide +kernel
theorem dX3_copyFrom_5 : decode cX3_copyFrom 5 = .ok (.putfield 7, 3) := by decide +kernel
theorem dX3_copyFrom_8 : decode cX3_copyFrom 8 = .ok (.aload_n 0, 1) := by decide +kernel
theorem dX3_copyFrom_9 : decode cX3_copyFrom 9 = .ok (.aload_n 1, 1) := by decide +kernel
theorem dX3_copyFrom_10 : decode cX3_copyFrom 10 = .ok (.getfield 13, 3) := by decide +kernel
theorem dX3_copyFrom_13 : decode cX3_copyFrom 13 = .ok (.putfield 13, 3) := by decide +kernel
theorem dX3_copyFrom_16 : decode cX3_copyFrom 16 = .ok (.aload_n 0, 1) := by decide +kernel
theorem dX3_copyFrom_17 : decode cX3_copyFrom 17 = .ok (.aload_n 1, 1) := by decide +kernel
theorem dX3_copyFrom_18 : decode cX3_copyFrom 18 = .ok (.getfield 16, 3) := by decide +kernel
theorem dX3_copyFrom_21 : decode cX3_copyFrom 21 = .ok (.putfield 16, 3) := by decide +kernel
theorem dX3_copyFrom_24 : decode cX3_copyFrom 24 = .ok (.aload_n 0, 1) := by decide +kernel
theorem dX3_copyFrom_25 : decode cX3_copyFrom 25 = .ok (.aload_n 1, 1) := by decide +kernel
theorem dX3_copyFrom_26 : decode cX3_copyFrom 26 = .ok (.getfield 19, 3) := by decide +kernel
theorem dX3_copyFrom_29 : decode cX3_copyFrom 29 = .ok (.putfield 19, 3) := by decide +kernel
theorem dX3_copyFrom_32 : decode cX3_copyFrom 32 = .ok (.aload_n 0, 1) := by decide +kernel
theorem dX3_copyFrom_33 : decode cX3_copyFrom 33 = .ok (.aload_n 1, 1) := by decide +kernel
theorem dX3_copyFrom_34 : decode cX3_copyFrom 34 = .ok (.getfield 22, 3) := by decide +kernel
theorem dX3_copyFrom_37 : decode cX3_copyFrom 37 = .ok (.putfield 22, 3) := by decide +kernel
theorem dX3_copyFrom_40 : decode cX3_copyFrom 40 = .ok (.aload_n 0, 1) := by decide +kernel
theorem dX3_copyFrom_41 : decode cX3_copyFrom 41 = .ok (.aload_n 1, 1) := by decide +kernel
theorem dX3_copyFrom_42 : decode cX3_copyFrom 42 = .ok (.getfield 25, 3) := by decide +kernel
theorem dX3_copyFrom_45 : decode cX3_copyFrom 45 = .ok (.putfield 25, 3) := by decide +kernel
theorem dX3_copyFrom_48 : decode cX3_copyFrom 48 = .ok (.aload_n 0, 1) := by decide +kernel
theorem dX3_copyFrom_49 : decode cX3_copyFrom 49 = .ok (.aload_n 1, 1) := by decide +kernel
theorem dX3_copyFrom_50 : decode cX3_copyFrom 50 = .ok (.getfield 28, 3) := by decide +kernel
theorem dX3_copyFrom_53 : decode cX3_copyFrom 53 = .ok (.putfield 28, 3) := by decide +kernel
theorem dX3_copyFrom_56 : decode cX3_copyFrom 56 = .ok (.aload_n 0, 1) := by decide +kernel
theorem dX3_copyFrom_57 : decode cX3_copyFrom 57 = .ok (.aload_n 1, 1) := by decide +kernel
theorem dX3_copyFrom_58 : decode cX3_copyFrom 58 = .ok (.getfield 32, 3) := by decide +kernel
theorem dX3_copyFrom_61 : decode cX3_copyFrom 61 = .ok (.putfield 32, 3) := by decide +kernel
theorem dX3_copyFrom_64 : decode cX3_copyFrom 64 = .ok (.return_, 1) := by decide +kernel
theorem dX3_comesBefore_0 : decode cX3_comesBefore 0 = .ok (.aload_n 0, 1) := by decide +kernel
theorem dX3_comesBefore_1 : decode cX3_comesBefore 1 = .ok (.getfield 28, 3) := by decide +kernel
theorem dX3_comesBefore_4 : decode cX3_comesBefore 4 = .ok (.aload_n 1, 1) := by decide +kernel
theorem dX3_comesBefore_5 : decode cX3_comesBefore 5 = .ok (.getfield 28, 3) := by decide +kernel
theorem dX3_comesBefore_8 : decode cX3_comesBefore 8 = .ok (.if_icmp .eq 8, 3) := by decide +kernel
theorem dX3_comesBefore_11 : decode cX3_comesBefore 11 = .ok (.aload_n 0, 1) := by decide +kernel
theorem dX3_comesBefore_12 : decode cX3_comesBefore 12 = .ok (.getfield 28, 3) := by decide +kernel
theorem dX3_comesBefore_15 : decode cX3_comesBefore 15 = .ok (.ireturn, 1) := by decide +kernel
theorem dX3_comesBefore_16 : decode cX3_comesBefore 16 = .ok (.aload_n 0, 1) := by decide +kernel
theorem dX3_comesBefore_17 : decode cX3_comesBefore 17 = .ok (.getfield 25, 3) := by decide +kernel
theorem dX3_comesBefore_20 : decode cX3_comesBefore 20 = .ok (.aload_n 1, 1) := by decide +kernel
theorem dX3_comesBefore_21 : decode cX3_comesBefore 21 = .ok (.getfield 25, 3) := by decide +kernel
theorem dX3_comesBefore_24 : decode cX3_comesBefore 24 = .ok (.if_icmp .eq 22, 3) := by decide +kernel
theorem dX3_comesBefore_27 : decode cX3_comesBefore 27 = .ok (.aload_n 0, 1) := by decide +kernel
theorem dX3_comesBefore_28 : decode cX3_comesBefore 28 = .ok (.getfield 25, 3) := by decide +kernel
theorem dX3_comesBefore_31 : decode cX3_comesBefore 31 = .ok (.aload_n 1, 1) := by decide +kernel
theorem dX3_comesBefore_32 : decode cX3_comesBefore 32 = .ok (.getfield 25, 3) := by decide +kernel
theorem dX3_comesBefore_35 : decode cX3_comesBefore 35 = .ok (.if_icmp .ge 7, 3) := by decide +kernel
theorem dX3_comesBefore_38 : decode cX3_comesBefore 38 = .ok (.iconst 1, 1) := by decide +kernel
theorem dX3_comesBefore_39 : decode cX3_comesBefore 39 = .ok (.goto 23, 3) := by decide +kernel
theorem dX3_comesBefore_42 : decode cX3_comesBefore 42 = .ok (.iconst 0, 1) := by decide +kernel
theorem dX3_comesBefore_43 : decode cX3_comesBefore 43 = .ok (.goto 19, 3) := by decide +kernel
theorem dX3_comesBefore_46 : decode cX3_comesBefore 46 = .ok (.aload_n 0, 1) := by decide +kernel
theorem dX3_comesBefore_47 : decode cX3_comesBefore 47 = .ok (.getfield 7, 3) := by decide +kernel
theorem dX3_comesBefore_50 : decode cX3_comesBefore 50 = .ok (.aload_n 1, 1) := by decide +kernel
theorem dX3_comesBefore_51 : decode cX3_comesBefore 51 = .ok (.getfield 7, 3) := by decide +kernel
theorem dX3_comesBefore_54 : decode cX3_comesBefore 54 = .ok (.if_icmp .ge 7, 3) := by decide +kernel
theorem dX3_comesBefore_57 : decode cX3_comesBefore 57 = .ok (.iconst 1, 1) := by decide +kernel
theorem dX3_comesBefore_58 : decode cX3_comesBefore 58 = .ok (.goto 4, 3) := by decide +kernel
theorem dX3_comesBefore_61 : decode cX3_comesBefore 61 = .ok (.iconst 0, 1) := by decide +kernel
theorem dX3_comesBefore_62 : decode cX3_comesBefore 62 = .ok (.ireturn, 1) := by decide +kernel
theorem dX3_lack_0 : decode cX3_lack 0 = .ok (.aload_n 0, 1) := by decide +kernel
theorem dX3_lack_1 : decode cX3_lack 1 = .ok (.getfield 19, 3) := by decide +kernel
theorem dX3_lack_4 : decode cX3_lack 4 = .ok (.aload_n 0, 1) := by decide +kernel
theorem dX3_lack_5 : decode cX3_lack 5 = .ok (.getfield 22, 3) := by decide +kernel
theorem dX3_lack_8 : decode cX3_lack 8 = .ok (.isub, 1) := by decide +kernel
theorem dX3_lack_9 : decode cX3_lack 9 = .ok (.aload_n 0, 1) := by decide +kernel
theorem dX3_lack_10 : decode cX3_lack 10 = .ok (.getfield 32, 3) := by decide +kernel
theorem dX3_lack_13 : decode cX3_lack 13 = .ok (.isub, 1) := by decide +kernel
theorem dX3_lack_14 : decode cX3_lack 14 = .ok (.ireturn, 1) := by decide +kernel
theorem dX4_init_0 : decode cX4_init 0 = .ok (.aload_n 0, 1) := by decide +kernel
theorem dX4_init_1 : decode cX4_init 1 = .ok (.invokespecial 3, 3) := by decide +kernel
theorem dX4_init_4 : decode cX4_init 4 = .ok (.aload_n 0, 1) := by decide +kernel
theorem dX4_init_5 : decode cX4_init 5 = .ok (.bipush 60, 2) := by decide +kernel
theorem dX4_init_7 : decode cX4_init 7 = .ok (.newarray .char, 2) := by decide +kernel
theorem dX4_init_9 : decode cX4_init 9 = .ok (.putfield 11, 3) := by decide +kernel
theorem dX4_init_12 : decode cX4_init 12 = .ok (.return_, 1) := by decide +kernel
theorem dX5_init_0 : decode cX5_init 0 = .ok (.aload_n 0, 1) := by decide +kernel
theorem dX5_init_1 : decode cX5_init 1 = .ok (.invokespecial 3, 3) := by decide +kernel
theorem dX5_init_4 : decode cX5_init 4 = .ok (.aload_n 0, 1) := by decide +kernel
theorem dX5_init_5 : decode cX5_init 5 = .ok (.sipush 150, 3) := by decide +kernel
theorem dX5_init_8 : decode cX5_init 8 = .ok (.putfield 9, 3) := by decide +kernel
theorem dX5_init_11 : decode cX5_init 11 = .ok (.aload_n 0, 1) := by decide +kernel
theorem dX5_init_12 : decode cX5_init 12 = .ok (.bipush 40, 2) := by decide +kernel
theorem dX5_init_14 : decode cX5_init 14 = .ok (.putfield 15, 3) := by decide +kernel
theorem dX5_init_17 : decode cX5_init 17 = .ok (.aload_n 0, 1) := by decide +kernel
theorem dX5_init_18 : decode cX5_init 18 = .ok (.iconst 1, 1) := by decide +kernel
theorem dX5_init_19 : decode cX5_init 19 = .ok (.putfield 18, 3) := by decide +kernel
theorem dX5_init_22 : decode cX5_init 22 = .ok (.aload_n 0, 1) := by decide +kernel
theorem dX5_init_23 : decode cX5_init 23 = .ok (.iconst 5, 1) := by decide +kernel
theorem dX5_init_24 : decode cX5_init 24 = .ok (.putfield 21, 3) := by decide +kernel
theorem dX5_init_27 : decode cX5_init 27 = .ok (.aload_n 0, 1) := by decide +kernel
theorem dX5_init_28 : decode cX5_init 28 = .ok (.iconst 4, 1) := by decide +kernel
theorem dX5_init_29 : decode cX5_init 29 = .ok (.anewarray 24, 3) := by decide +kernel
theorem dX5_init_32 : decode cX5_init 32 = .ok (.putfield 26, 3) := by decide +kernel
theorem dX5_init_35 : decode cX5_init 35 = .ok (.iconst 0, 1) := by decide +kernel
theorem dX5_init_36 : decode cX5_init 36 = .ok (.istore_n 1, 1) := by decide +kernel
theorem dX5_init_37 : decode cX5_init 37 = .ok (.iload_n 1, 1) := by decide +kernel
theorem dX5_init_38 : decode cX5_init 38 = .ok (.aload_n 0, 1) := by decide +kernel
theorem dX5_init_39 : decode cX5_init 39 = .ok (.getfield 26, 3) := by decide +kernel
theorem dX5_init_42 : decode cX5_init 42 = .ok (.arraylength, 1) := by decide +kernel
theorem dX5_init_43 : decode cX5_init 43 = .ok (.if_icmp .ge 22, 3) := by decide +kernel
theorem dX5_init_46 : decode cX5_init 46 = .ok (.aload_n 0, 1) := by decide +kernel
theorem dX5_init_47 : decode cX5_init 47 = .ok (.getfield 26, 3) := by decide +kernel
theorem dX5_init_50 : decode cX5_init 50 = .ok (.iload_n 1, 1) := by decide +kernel
theorem dX5_init_51 : decode cX5_init 51 = .ok (.new 24, 3) := by decide +kernel
theorem dX5_init_54 : decode cX5_init 54 = .ok (.dup, 1) := by decide +kernel
theorem dX5_init_55 : decode cX5_init 55 = .ok (.invokespecial 30, 3) := by decide +kernel
theorem dX5_init_58 : decode cX5_init 58 = .ok (.aastore, 1) := by decide +kernel
theorem dX5_init_59 : decode cX5_init 59 = .ok (.iinc 1 1, 3) := by decide +kernel
theorem dX5_init_62 : decode cX5_init 62 = .ok (.goto (-25), 3) := by decide +kernel
theorem dX5_init_65 : decode cX5_init 65 = .ok (.aload_n 0, 1) := by decide +kernel
theorem dX5_init_66 : decode cX5_init 66 = .ok (.iconst 5, 1) := by decide +kernel
theorem dX5_init_67 : decode cX5_init 67 = .ok (.anewarray 31, 3) := by decide +kernel
theorem dX5_init_70 : decode cX5_init 70 = .ok (.putfield 33, 3) := by decide +kernel
theorem dX5_init_73 : decode cX5_init 73 = .ok (.iconst 0, 1) := by decide +kernel
theorem dX5_init_74 : decode cX5_init 74 = .ok (.istore_n 1, 1) := by decide +kernel
theorem dX5_init_75 : decode cX5_init 75 = .ok (.iload_n 1, 1) := by decide +kernel
theorem dX5_init_76 : decode cX5_init 76 = .ok (.aload_n 0, 1) := by decide +kernel
theorem dX5_init_77 : decode cX5_init 77 = .ok (.getfield 33, 3) := by decide +kernel
theorem dX5_init_80 : decode cX5_init 80 = .ok (.arraylength, 1) := by decide +kernel
theorem dX5_init_81 : decode cX5_init 81 = .ok (.if_icmp .ge 22, 3) := by decide +kernel
theorem dX5_init_84 : decode cX5_init 84 = .ok (.aload_n 0, 1) := by decide +kernel
theorem dX5_init_85 : decode cX5_init 85 = .ok (.getfield 33, 3) := by decide +kernel
theorem dX5_init_88 : decode cX5_init 88 = .ok (.iload_n 1, 1) := by decide +kernel
theorem dX5_init_89 : decode cX5_init 89 = .ok (.new 31, 3) := by decide +kernel
theorem dX5_init_92 : decode cX5_init 92 = .ok (.dup, 1) := by decide +kernel
theorem dX5_init_93 : decode cX5_init 93 = .ok (.invokespecial 37, 3) := by decide +kernel
theorem dX5_init_96 : decode cX5_init 96 = .ok (.aastore, 1) := by decide +kernel
theorem dX5_init_97 : decode cX5_init 97 = .ok (.iinc 1 1, 3) := by decide +kernel
theorem dX5_init_100 : decode cX5_init 100 = .ok (.goto (-25), 3) := by decide +kernel
theorem dX5_init_103 : decode cX5_init 103 = .ok (.aload_n 0, 1) := by decide +kernel
theorem dX5_init_104 : decode cX5_init 104 = .ok (.bipush 10, 2) := by decide +kernel
theorem dX5_init_106 : decode cX5_init 106 = .ok (.anewarray 38, 3) := by decide +kernel
theorem dX5_init_109 : decode cX5_init 109 = .ok (.putfield 40, 3) := by decide +kernel
theorem dX5_init_112 : decode cX5_init 112 = .ok (.iconst 0, 1) := by decide +kernel
theorem dX5_init_113 : decode cX5_init 113 = .ok (.istore_n 1, 1) := by decide +kernel
theorem dX5_init_114 : decode cX5_init 114 = .ok (.iload_n 1, 1) := by decide +kernel
theorem dX5_init_115 : decode cX5_init 115 = .ok (.aload_n 0, 1) := by decide +kernel
theorem dX5_init_116 : decode cX5_init 116 = .ok (.getfield 40, 3) := by decide +kernel
theorem dX5_init_119 : decode cX5_init 119 = .ok (.arraylength, 1) := by decide +kernel
theorem dX5_init_120 : decode cX5_init 120 = .ok (.if_icmp .ge 22, 3) := by decide +kernel
theorem dX5_init_123 : decode cX5_init 123 = .ok (.aload_n 0, 1) := by decide +kernel
theorem dX5_init_124 : decode cX5_init 124 = .ok (.getfield 40, 3) := by decide +kernel
theorem dX5_init_127 : decode cX5_init 127 = .ok (.iload_n 1, 1) := by decide +kernel
theorem dX5_init_128 : decode cX5_init 128 = .ok (.new 38, 3) := by decide +kernel
theorem dX5_init_131 : decode cX5_init 131 = .ok (.dup, 1) := by decide +kernel
theorem dX5_init_132 : decode cX5_init 132 = .ok (.invokespecial 44, 3) := by decide +kernel
theorem dX5_init_135 : decode cX5_init 135 = .ok (.aastore, 1) := by decide +kernel
theorem dX5_init_136 : decode cX5_init 136 = .ok (.iinc 1 1, 3) := by decide +kernel
theorem dX5_init_139 : decode cX5_init 139 = .ok (.goto (-25), 3) := by decide +kernel
theorem dX5_init_142 : decode cX5_init 142 = .ok (.aload_n 0, 1) := by decide +kernel
theorem dX5_init_143 : decode cX5_init 143 = .ok (.bipush 6, 2) := by decide +kernel
theorem dX5_init_145 : decode cX5_init 145 = .ok (.anewarray 45, 3) := by decide +kernel
theorem dX5_init_148 : decode cX5_init 148 = .ok (.putfield 47, 3) := by decide +kernel
theorem dX5_init_151 : decode cX5_init 151 = .ok (.iconst 0, 1) := by decide +kernel
theorem dX5_init_152 : decode cX5_init 152 = .ok (.istore_n 1, 1) := by decide +kernel
theorem dX5_init_153 : decode cX5_init 153 = .ok (.iload_n 1, 1) := by decide +kernel
theorem dX5_init_154 : decode cX5_init 154 = .ok (.aload_n 0, 1) := by decide +kernel
theorem dX5_init_155 : decode cX5_init 155 = .ok (.getfield 47, 3) := by decide +kernel
theorem dX5_init_158 : decode cX5_init 158 = .ok (.arraylength, 1) := by decide +kernel
theorem dX5_init_159 : decode cX5_init 159 = .ok (.if_icmp .ge 22, 3) := by decide +kernel
theorem dX5_init_162 : decode cX5_init 162 = .ok (.aload_n 0, 1) := by decide +kernel
theorem dX5_init_163 : decode cX5_init 163 = .ok (.getfield 47, 3) := by decide +kernel
theorem dX5_init_166 : decode cX5_init 166 = .ok (.iload_n 1, 1) := by decide +kernel
theorem dX5_init_167 : decode cX5_init 167 = .ok (.new 45, 3) := by decide +kernel
theorem dX5_init_170 : decode cX5_init 170 = .ok (.dup, 1) := by decide +kernel
theorem dX5_init_171 : decode cX5_init 171 = .ok (.invokespecial 51, 3) := by decide +kernel
theorem dX5_init_174 : decode cX5_init 174 = .ok (.aastore, 1) := by decide +kernel
theorem dX5_init_175 : decode cX5_init 175 = .ok (.iinc 1 1, 3) := by decide +kernel
theorem dX5_init_178 : decode cX5_init 178 = .ok (.goto (-25), 3) := by decide +kernel
theorem dX5_init_181 : decode cX5_init 181 = .ok (.aload_n 0, 1) := by decide +kernel
theorem dX5_init_182 : decode cX5_init 182 = .ok (.new 45, 3) := by decide +kernel
theorem dX5_init_185 : decode cX5_init 185 = .ok (.dup, 1) := by decide +kernel
theorem dX5_init_186 : decode cX5_init 186 = .ok (.invokespecial 51, 3) := by decide +kernel
theorem dX5_init_189 : decode cX5_init 189 = .ok (.putfield 52, 3) := by decide +kernel
theorem dX5_init_192 : decode cX5_init 192 = .ok (.aload_n 0, 1) := by decide +kernel
theorem dX5_init_193 : decode cX5_init 193 = .ok (.new 24, 3) := by decide +kernel
theorem dX5_init_196 : decode cX5_init 196 = .ok (.dup, 1) := by decide +kernel
theorem dX5_init_197 : decode cX5_init 197 = .ok (.invokespecial 30, 3) := by decide +kernel
theorem dX5_init_200 : decode cX5_init 200 = .ok (.putfield 56, 3) := by decide +kernel
theorem dX5_init_203 : decode cX5_init 203 = .ok (.aload_n 0, 1) := by decide +kernel
theorem dX5_init_204 : decode cX5_init 204 = .ok (.new 31, 3) := by decide +kernel
theorem dX5_init_207 : decode cX5_init 207 = .ok (.dup, 1) := by decide +kernel
theorem dX5_init_208 : decode cX5_init 208 = .ok (.invokespecial 37, 3) := by decide +kernel
theorem dX5_init_211 : decode cX5_init 211 = .ok (.putfield 60, 3) := by decide +kernel
theorem dX5_init_214 : decode cX5_init 214 = .ok (.aload_n 0, 1) := by decide +kernel
theorem dX5_init_215 : decode cX5_init 215 = .ok (.new 38, 3) := by decide +kernel
theorem dX5_init_218 : decode cX5_init 218 = .ok (.dup, 1) := by decide +kernel
theorem dX5_init_219 : decode cX5_init 219 = .ok (.invokespecial 44, 3) := by decide +kernel
theorem dX5_init_222 : decode cX5_init 222 = .ok (.putfield 64, 3) := by decide +kernel
theorem dX5_init_225 : decode cX5_init 225 = .ok (.return_, 1) := by decide +kernel
theorem dX5_copyFrom_0 : decode cX5_copyFrom 0 = .ok (.iconst 0, 1) := by decide +kernel
theorem dX5_copyFrom_1 : decode cX5_copyFrom 1 = .ok (.istore_n 2, 1) := by decide +kernel
theorem dX5_copyFrom_2 : decode cX5_copyFrom 2 = .ok (.iload_n 2, 1) := by decide +kernel
theorem dX5_copyFrom_3 : decode cX5_copyFrom 3 = .ok (.iconst 4, 1) := by decide +kernel
theorem dX5_copyFrom_4 : decode cX5_copyFrom 4 = .ok (.if_icmp .ge 22, 3) := by decide +kernel
theorem dX5_copyFrom_7 : decode cX5_copyFrom 7 = .ok (.aload_n 0, 1) := by decide +kernel
theorem dX5_copyFrom_8 : decode cX5_copyFrom 8 = .ok (.iload_n 2, 1) := by decide +kernel
theorem dX5_copyFrom_9 : decode cX5_copyFrom 9 = .ok (.invokevirtual 68, 3) := by decide +kernel
theorem dX5_copyFrom_12 : decode cX5_copyFrom 12 = .ok (.aload_n 1, 1) := by decide +kernel
theorem dX5_copyFrom_13 : decode cX5_copyFrom 13 = .ok (.iload_n 2, 1) := by decide +kernel
theorem dX5_copyFrom_14 : decode cX5_copyFrom 14 = .ok (.invokevirtual 68, 3) := by decide +kernel
theorem dX5_copyFrom_17 : decode cX5_copyFrom 17 = .ok (.invokevirtual 72, 3) := by decide +kernel
theorem dX5_copyFrom_20 : decode cX5_copyFrom 20 = .ok (.iinc 2 1, 3) := by decide +kernel
theorem dX5_copyFrom_23 : decode cX5_copyFrom 23 = .ok (.goto (-21), 3) := by decide +kernel
theorem dX5_copyFrom_26 : decode cX5_copyFrom 26 = .ok (.iconst 0, 1) := by decide +kernel
theorem dX5_copyFrom_27 : decode cX5_copyFrom 27 = .ok (.istore_n 2, 1) := by decide +kernel
theorem dX5_copyFrom_28 : decode cX5_copyFrom 28 = .ok (.iload_n 2, 1) := by decide +kernel
theorem dX5_copyFrom_29 : decode cX5_copyFrom 29 = .ok (.iconst 5, 1) := by decide +kernel
theorem dX5_copyFrom_30 : decode cX5_copyFrom 30 = .ok (.if_icmp .ge 22, 3) := by decide +kernel
theorem dX5_copyFrom_33 : decode cX5_copyFrom 33 = .ok (.aload_n 0, 1) := by decide +kernel
theorem dX5_copyFrom_34 : decode cX5_copyFrom 34 = .ok (.iload_n 2, 1) := by decide +kernel
theorem dX5_copyFrom_35 : decode cX5_copyFrom 35 = .ok (.invokevirtual 76, 3) := by decide +kernel
theorem dX5_copyFrom_38 : decode cX5_copyFrom 38 = .ok (.aload_n 1, 1) := by decide +kernel
theorem dX5_copyFrom_39 : decode cX5_copyFrom 39 = .ok (.iload_n 2, 1) := by decide +kernel
theorem dX5_copyFrom_40 : decode cX5_copyFrom 40 = .ok (.invokevirtual 76, 3) := by decide +kernel
theorem dX5_copyFrom_43 : decode cX5_copyFrom 43 = .ok (.invokevirtual 80, 3) := by decide +kernel
theorem dX5_copyFrom_46 : decode cX5_copyFrom 46 = .ok (.iinc 2 1, 3) := by decide +kernel
theorem dX5_copyFrom_49 : decode cX5_copyFrom 49 = .ok (.goto (-21), 3) := by decide +kernel
theorem dX5_copyFrom_52 : decode cX5_copyFrom 52 = .ok (.iconst 0, 1) := by decide +kernel
theorem dX5_copyFrom_53 : decode cX5_copyFrom 53 = .ok (.istore_n 2, 1) := by decide +kernel
theorem dX5_copyFrom_54 : decode cX5_copyFrom 54 = .ok (.iload_n 2, 1) := by decide +kernel
theorem dX5_copyFrom_55 : decode cX5_copyFrom 55 = .ok (.aload_n 1, 1) := by decide +kernel
theorem dX5_copyFrom_56 : decode cX5_copyFrom 56 = .ok (.getfield 83, 3) := by decide +kernel
theorem dX5_copyFrom_59 : decode cX5_copyFrom 59 = .ok (.if_icmp .ge 22, 3) := by decide +kernel
theorem dX5_copyFrom_62 : decode cX5_copyFrom 62 = .ok (.aload_n 0, 1) := by decide +kernel
theorem dX5_copyFrom_63 : decode cX5_copyFrom 63 = .ok (.iload_n 2, 1) := by decide +kernel
theorem dX5_copyFrom_64 : decode cX5_copyFrom 64 = .ok (.invokevirtual 86, 3) := by decide +kernel
theorem dX5_copyFrom_67 : decode cX5_copyFrom 67 = .ok (.aload_n 1, 1) := by decide +kernel
theorem dX5_copyFrom_68 : decode cX5_copyFrom 68 = .ok (.iload_n 2, 1) := by decide +kernel
theorem dX5_copyFrom_69 : decode cX5_copyFrom 69 = .ok (.invokevirtual 86, 3) := by decide +kernel
theorem dX5_copyFrom_72 : decode cX5_copyFrom 72 = .ok (.invokevirtual 90, 3) := by decide +kernel
theorem dX5_copyFrom_75 : decode cX5_copyFrom 75 = .ok (.iinc 2 1, 3) := by decide +kernel
theorem dX5_copyFrom_78 : decode cX5_copyFrom 78 = .ok (.goto (-24), 3) := by decide +kernel
theorem dX5_copyFrom_81 : decode cX5_copyFrom 81 = .ok (.iconst 0, 1) := by decide +kernel
theorem dX5_copyFrom_82 : decode cX5_copyFrom 82 = .ok (.istore_n 2, 1) := by decide +kernel
theorem dX5_copyFrom_83 : decode cX5_copyFrom 83 = .ok (.iload_n 2, 1) := by decide +kernel
theorem dX5_copyFrom_84 : decode cX5_copyFrom 84 = .ok (.bipush 6, 2) := by decide +kernel
theorem dX5_copyFrom_86 : decode cX5_copyFrom 86 = .ok (.if_icmp .gt 22, 3) := by decide +kernel
theorem dX5_copyFrom_89 : decode cX5_copyFrom 89 = .ok (.aload_n 0, 1) := by decide +kernel
theorem dX5_copyFrom_90 : decode cX5_copyFrom 90 = .ok (.iload_n 2, 1) := by decide +kernel
theorem dX5_copyFrom_91 : decode cX5_copyFrom 91 = .ok (.invokevirtual 93, 3) := by decide +kernel
theorem dX5_copyFrom_94 : decode cX5_copyFrom 94 = .ok (.aload_n 1, 1) := by decide +kernel
theorem dX5_copyFrom_95 : decode cX5_copyFrom 95 = .ok (.iload_n 2, 1) := by decide +kernel
theorem dX5_copyFrom_96 : decode cX5_copyFrom 96 = .ok (.invokevirtual 93, 3) := by decide +kernel
theorem dX5_copyFrom_99 : decode cX5_copyFrom 99 = .ok (.invokevirtual 97, 3) := by decide +kernel
theorem dX5_copyFrom_102 : decode cX5_copyFrom 102 = .ok (.iinc 2 1, 3) := by decide +kernel
theorem dX5_copyFrom_105 : decode cX5_copyFrom 105 = .ok (.goto (-22), 3) := by decide +kernel
theorem dX5_copyFrom_108 : decode cX5_copyFrom 108 = .ok (.aload_n 0, 1) := by decide +kernel
theorem dX5_copyFrom_109 : decode cX5_copyFrom 109 = .ok (.aload_n 1, 1) := by decide +kernel
theorem dX5_copyFrom_110 : decode cX5_copyFrom 110 = .ok (.invokevirtual 100, 3) := by decide +kernel
theorem dX5_copyFrom_113 : decode cX5_copyFrom 113 = .ok (.return_, 1) := by decide +kernel
theorem dX5_copyNumbersFrom_0 : decode cX5_copyNumbersFrom 0 = .ok (.aload_n 0, 1) := by decide +kernel
theorem dX5_copyNumbersFrom_1 : decode cX5_copyNumbersFrom 1 = .ok (.aload_n 1, 1) := by decide +kernel
theorem dX5_copyNumbersFrom_2 : decode cX5_copyNumbersFrom 2 = .ok (.getfield 83, 3) := by decide +kernel
theorem dX5_copyNumbersFrom_5 : decode cX5_copyNumbersFrom 5 = .ok (.putfield 83, 3) := by decide +kernel
theorem dX5_copyNumbersFrom_8 : decode cX5_copyNumbersFrom 8 = .ok (.aload_n 0, 1) := by decide +kernel
theorem dX5_copyNumbersFrom_9 : decode cX5_copyNumbersFrom 9 = .ok (.aload_n 1, 1) := by decide +kernel
theorem dX5_copyNumbersFrom_10 : decode cX5_copyNumbersFrom 10 = .ok (.getfield 104, 3) := by decide +kernel
theorem dX5_copyNumbersFrom_13 : decode cX5_copyNumbersFrom 13 = .ok (.putfield 104, 3) := by decide +kernel
theorem dX5_copyNumbersFrom_16 : decode cX5_copyNumbersFrom 16 = .ok (.aload_n 0, 1) := by decide +kernel
theorem dX5_copyNumbersFrom_17 : decode cX5_copyNumbersFrom 17 = .ok (.aload_n 1, 1) := by decide +kernel
theorem dX5_copyNumbersFrom_18 : decode cX5_copyNumbersFrom 18 = .ok (.getfield 9, 3) := by decide +kernel
theorem dX5_copyNumbersFrom_21 : decode cX5_copyNumbersFrom 21 = .ok (.putfield 9, 3) := by decide +kernel
theorem dX5_copyNumbersFrom_24 : decode cX5_copyNumbersFrom 24 = .ok (.aload_n 0, 1) := by decide +kernel
theorem dX5_copyNumbersFrom_25 : decode cX5_copyNumbersFrom 25 = .ok (.aload_n 1, 1) := by decide +kernel
theorem dX5_copyNumbersFrom_26 : decode cX5_copyNumbersFrom 26 = .ok (.getfield 15, 3) := by decide +kernel
theorem dX5_copyNumbersFrom_29 : decode cX5_copyNumbersFrom 29 = .ok (.putfield 15, 3) := by decide +kernel
theorem dX5_copyNumbersFrom_32 : decode cX5_copyNumbersFrom 32 = .ok (.aload_n 0, 1) := by decide +kernel
theorem dX5_copyNumbersFrom_33 : decode cX5_copyNumbersFrom 33 = .ok (.aload_n 1, 1) := by decide +kernel
theorem dX5_copyNumbersFrom_34 : decode cX5_copyNumbersFrom 34 = .ok (.getfield 18, 3) := by decide +kernel
theorem dX5_copyNumbersFrom_37 : decode cX5_copyNumbersFrom 37 = .ok (.putfield 18, 3) := by decide +kernel
theorem dX5_copyNumbersFrom_40 : decode cX5_copyNumbersFrom 40 = .ok (.aload_n 0, 1) := by decide +kernel
theorem dX5_copyNumbersFrom_41 : decode cX5_copyNumbersFrom 41 = .ok (.aload_n 1, 1) := by decide +kernel
theorem dX5_copyNumbersFrom_42 : decode cX5_copyNumbersFrom 42 = .ok (.getfield 21, 3) := by decide +kernel
theorem dX5_copyNumbersFrom_45 : decode cX5_copyNumbersFrom 45 = .ok (.putfield 21, 3) := by decide +kernel
theorem dX5_copyNumbersFrom_48 : decode cX5_copyNumbersFrom 48 = .ok (.aload_n 0, 1) := by decide +kernel
theorem dX5_copyNumbersFrom_49 : decode cX5_copyNumbersFrom 49 = .ok (.aload_n 1, 1) := by decide +kernel
theorem dX5_copyNumbersFrom_50 : decode cX5_copyNumbersFrom 50 = .ok (.getfield 107, 3) := by decide +kernel
theorem dX5_copyNumbersFrom_53 : decode cX5_copyNumbersFrom 53 = .ok (.putfield 107, 3) := by decide +kernel
theorem dX5_copyNumbersFrom_56 : decode cX5_copyNumbersFrom 56 = .ok (.aload_n 0, 1) := by decide +kernel
theorem dX5_copyNumbersFrom_57 : decode cX5_copyNumbersFrom 57 = .ok (.aload_n 1, 1) := by decide +kernel
theorem dX5_copyNumbersFrom_58 : decode cX5_copyNumbersFrom 58 = .ok (.getfield 110, 3) := by decide +kernel
theorem dX5_copyNumbersFrom_61 : decode cX5_copyNumbersFrom 61 = .ok (.putfield 110, 3) := by decide +kernel
theorem dX5_copyNumbersFrom_64 : decode cX5_copyNumbersFrom 64 = .ok (.aload_n 0, 1) := by decide +kernel
theorem dX5_copyNumbersFrom_65 : decode cX5_copyNumbersFrom 65 = .ok (.aload_n 1, 1) := by decide +kernel
theorem dX5_copyNumbersFrom_66 : decode cX5_copyNumbersFrom 66 = .ok (.getfield 113, 3) := by decide +kernel
theorem dX5_copyNumbersFrom_69 : decode cX5_copyNumbersFrom 69 = .ok (.putfield 113, 3) := by decide +kernel
theorem dX5_copyNumbersFrom_72 : decode cX5_copyNumbersFrom 72 = .ok (.aload_n 0, 1) := by decide +kernel
theorem dX5_copyNumbersFrom_73 : decode cX5_copyNumbersFrom 73 = .ok (.aload_n 1, 1) := by decide +kernel
theorem dX5_copyNumbersFrom_74 : decode cX5_copyNumbersFrom 74 = .ok (.getfield 116, 3) := by decide +kernel
theorem dX5_copyNumbersFrom_77 : decode cX5_copyNumbersFrom 77 = .ok (.putfield 116, 3) := by decide +kernel
theorem dX5_copyNumbersFrom_80 : decode cX5_copyNumbersFrom 80 = .ok (.aload_n 0, 1) := by decide +kernel
theorem dX5_copyNumbersFrom_81 : decode cX5_copyNumbersFrom 81 = .ok (.aload_n 1, 1) := by decide +kernel
theorem dX5_copyNumbersFrom_82 : decode cX5_copyNumbersFrom 82 = .ok (.getfield 119, 3) := by decide +kernel
theorem dX5_copyNumbersFrom_85 : decode cX5_copyNumbersFrom 85 = .ok (.putfield 119, 3) := by decide +kernel
theorem dX5_copyNumbersFrom_88 : decode cX5_copyNumbersFrom 88 = .ok (.return_, 1) := by decide +kernel
theorem dX5_heatAt_0 : decode cX5_heatAt 0 = .ok (.iload_n 1, 1) := by decide +kernel
theorem dX5_heatAt_1 : decode cX5_heatAt 1 = .ok (.ifCond .lt 21, 3) := by decide +kernel
theorem dX5_heatAt_4 : decode cX5_heatAt 4 = .ok (.iload_n 1, 1) := by decide +kernel
theorem dX5_heatAt_5 : decode cX5_heatAt 5 = .ok (.aload_n 0, 1) := by decide +kernel
theorem dX5_heatAt_6 : decode cX5_heatAt 6 = .ok (.getfield 26, 3) := by decide +kernel
theorem dX5_heatAt_9 : decode cX5_heatAt 9 = .ok (.arraylength, 1) := by decide +kernel
theorem dX5_heatAt_10 : decode cX5_heatAt 10 = .ok (.if_icmp .ge 12, 3) := by decide +kernel
theorem dX5_heatAt_13 : decode cX5_heatAt 13 = .ok (.aload_n 0, 1) := by decide +kernel
theorem dX5_heatAt_14 : decode cX5_heatAt 14 = .ok (.getfield 26, 3) := by decide +kernel
theorem dX5_heatAt_17 : decode cX5_heatAt 17 = .ok (.iload_n 1, 1) := by decide +kernel
theorem dX5_heatAt_18 : decode cX5_heatAt 18 = .ok (.aaload, 1) := by decide +kernel
theorem dX5_heatAt_19 : decode cX5_heatAt 19 = .ok (.goto 4, 3) := by decide +kernel
theorem dX5_heatAt_22 : decode cX5_heatAt 22 = .ok (.aconst_null, 1) := by decide +kernel
theorem dX5_heatAt_23 : decode cX5_heatAt 23 = .ok (.astore_n 2, 1) := by decide +kernel
theorem dX5_heatAt_24 : decode cX5_heatAt 24 = .ok (.aload_n 2, 1) := by decide +kernel
theorem dX5_heatAt_25 : decode cX5_heatAt 25 = .ok (.ifnull 7, 3) := by decide +kernel
theorem dX5_heatAt_28 : decode cX5_heatAt 28 = .ok (.aload_n 2, 1) := by decide +kernel
theorem dX5_heatAt_29 : decode cX5_heatAt 29 = .ok (.goto 7, 3) := by decide +kernel
theorem dX5_heatAt_32 : decode cX5_heatAt 32 = .ok (.aload_n 0, 1) := by decide +kernel
theorem dX5_heatAt_33 : decode cX5_heatAt 33 = .ok (.getfield 56, 3) := by decide +kernel
theorem dX5_heatAt_36 : decode cX5_heatAt 36 = .ok (.areturn, 1) := by decide +kernel
theorem dX5_dieAt_0 : decode cX5_dieAt 0 = .ok (.iload_n 1, 1) := by decide +kernel
theorem dX5_dieAt_1 : decode cX5_dieAt 1 = .ok (.ifCond .lt 21, 3) := by decide +kernel
theorem dX5_dieAt_4 : decode cX5_dieAt 4 = .ok (.iload_n 1, 1) := by decide +kernel
theorem dX5_dieAt_5 : decode cX5_dieAt 5 = .ok (.aload_n 0, 1) := by decide +kernel
theorem dX5_dieAt_6 : decode cX5_dieAt 6 = .ok (.getfield 33, 3) := by decide +kernel
theorem dX5_dieAt_9 : decode cX5_dieAt 9 = .ok (.arraylength, 1) := by decide +kernel
theorem dX5_dieAt_10 : decode cX5_dieAt 10 = .ok (.if_icmp .ge 12, 3) := by decide +kernel
theorem dX5_dieAt_13 : decode cX5_dieAt 13 = .ok (.aload_n 0, 1) := by decide +kernel
theorem dX5_dieAt_14 : decode cX5_dieAt 14 = .ok (.getfield 33, 3) := by decide +kernel
theorem dX5_dieAt_17 : decode cX5_dieAt 17 = .ok (.iload_n 1, 1) := by decide +kernel
theorem dX5_dieAt_18 : decode cX5_dieAt 18 = .ok (.aaload, 1) := by decide +kernel
theorem dX5_dieAt_19 : decode cX5_dieAt 19 = .ok (.goto 4, 3) := by decide +kernel
theorem dX5_dieAt_22 : decode cX5_dieAt 22 = .ok (.aconst_null, 1) := by decide +kernel
theorem dX5_dieAt_23 : decode cX5_dieAt 23 = .ok (.astore_n 2, 1) := by decide +kernel
theorem dX5_dieAt_24 : decode cX5_dieAt 24 = .ok (.aload_n 2, 1) := by decide +kernel
theorem dX5_dieAt_25 : decode cX5_dieAt 25 = .ok (.ifnull 7, 3) := by decide +kernel
theorem dX5_dieAt_28 : decode cX5_dieAt 28 = .ok (.aload_n 2, 1) := by decide +kernel
theorem dX5_dieAt_29 : decode cX5_dieAt 29 = .ok (.goto 7, 3) := by decide +kernel
theorem dX5_dieAt_32 : decode cX5_dieAt 32 = .ok (.aload_n 0, 1) := by decide +kernel
theorem dX5_dieAt_33 : decode cX5_dieAt 33 = .ok (.getfield 60, 3) := by decide +kernel
theorem dX5_dieAt_36 : decode cX5_dieAt 36 = .ok (.areturn, 1) := by decide +kernel
theorem dX5_jobAt_0 : decode cX5_jobAt 0 = .ok (.iload_n 1, 1) := by decide +kernel
theorem dX5_jobAt_1 : decode cX5_jobAt 1 = .ok (.ifCond .lt 21, 3) := by decide +kernel
theorem dX5_jobAt_4 : decode cX5_jobAt 4 = .ok (.iload_n 1, 1) := by decide +kernel
theorem dX5_jobAt_5 : decode cX5_jobAt 5 = .ok (.aload_n 0, 1) := by decide +kernel
theorem dX5_jobAt_6 : decode cX5_jobAt 6 = .ok (.getfield 40, 3) := by decide +kernel
theorem dX5_jobAt_9 : decode cX5_jobAt 9 = .ok (.arraylength, 1) := by decide +kernel
theorem dX5_jobAt_10 : decode cX5_jobAt 10 = .ok (.if_icmp .ge 12, 3) := by decide +kernel
theorem dX5_jobAt_13 : decode cX5_jobAt 13 = .ok (.aload_n 0, 1) := by decide +kernel
theorem dX5_jobAt_14 : decode cX5_jobAt 14 = .ok (.getfield 40, 3) := by decide +kernel
theorem dX5_jobAt_17 : decode cX5_jobAt 17 = .ok (.iload_n 1, 1) := by decide +kernel
theorem dX5_jobAt_18 : decode cX5_jobAt 18 = .ok (.aaload, 1) := by decide +kernel
theorem dX5_jobAt_19 : decode cX5_jobAt 19 = .ok (.goto 4, 3) := by decide +kernel
theorem dX5_jobAt_22 : decode cX5_jobAt 22 = .ok (.aconst_null, 1) := by decide +kernel
theorem dX5_jobAt_23 : decode cX5_jobAt 23 = .ok (.astore_n 2, 1) := by decide +kernel
theorem dX5_jobAt_24 : decode cX5_jobAt 24 = .ok (.aload_n 2, 1) := by decide +kernel
theorem dX5_jobAt_25 : decode cX5_jobAt 25 = .ok (.ifnull 7, 3) := by decide +kernel
theorem dX5_jobAt_28 : decode cX5_jobAt 28 = .ok (.aload_n 2, 1) := by decide +kernel
theorem dX5_jobAt_29 : decode cX5_jobAt 29 = .ok (.goto 7, 3) := by decide +kernel
theorem dX5_jobAt_32 : decode cX5_jobAt 32 = .ok (.aload_n 0, 1) := by decide +kernel
theorem dX5_jobAt_33 : decode cX5_jobAt 33 = .ok (.getfield 64, 3) := by decide +kernel
theorem dX5_jobAt_36 : decode cX5_jobAt 36 = .ok (.areturn, 1) := by decide +kernel
theorem dX5_billetAt_0 : decode cX5_billetAt 0 = .ok (.iload_n 1, 1) := by decide +kernel
theorem dX5_billetAt_1 : decode cX5_billetAt 1 = .ok (.ifCond .lt 21, 3) := by decide +kernel
theorem dX5_billetAt_4 : decode cX5_billetAt 4 = .ok (.iload_n 1, 1) := by decide +kernel
theorem dX5_billetAt_5 : decode cX5_billetAt 5 = .ok (.aload_n 0, 1) := by decide +kernel
theorem dX5_billetAt_6 : decode cX5_billetAt 6 = .ok (.getfield 47, 3) := by decide +kernel
theorem dX5_billetAt_9 : decode cX5_billetAt 9 = .ok (.arraylength, 1) := by decide +kernel
theorem dX5_billetAt_10 : decode cX5_billetAt 10 = .ok (.if_icmp .ge 12, 3) := by decide +kernel
theorem dX5_billetAt_13 : decode cX5_billetAt 13 = .ok (.aload_n 0, 1) := by decide +kernel
theorem dX5_billetAt_14 : decode cX5_billetAt 14 = .ok (.getfield 47, 3) := by decide +kernel
theorem dX5_billetAt_17 : decode cX5_billetAt 17 = .ok (.iload_n 1, 1) := by decide +kernel
theorem dX5_billetAt_18 : decode cX5_billetAt 18 = .ok (.aaload, 1) := by decide +kernel
theorem dX5_billetAt_19 : decode cX5_billetAt 19 = .ok (.goto 4, 3) := by decide +kernel
theorem dX5_billetAt_22 : decode cX5_billetAt 22 = .ok (.aconst_null, 1) := by decide +kernel
theorem dX5_billetAt_23 : decode cX5_billetAt 23 = .ok (.astore_n 2, 1) := by decide +kernel
theorem dX5_billetAt_24 : decode cX5_billetAt 24 = .ok (.aload_n 2, 1) := by decide +kernel
theorem dX5_billetAt_25 : decode cX5_billetAt 25 = .ok (.ifnull 7, 3) := by decide +kernel
theorem dX5_billetAt_28 : decode cX5_billetAt 28 = .ok (.aload_n 2, 1) := by decide +kernel
theorem dX5_billetAt_29 : decode cX5_billetAt 29 = .ok (.goto 7, 3) := by decide +kernel
theorem dX5_billetAt_32 : decode cX5_billetAt 32 = .ok (.aload_n 0, 1) := by decide +kernel
theorem dX5_billetAt_33 : decode cX5_billetAt 33 = .ok (.getfield 52, 3) := by decide +kernel
theorem dX5_billetAt_36 : decode cX5_billetAt 36 = .ok (.areturn, 1) := by decide +kernel
theorem dX5_addJob_0 : decode cX5_addJob 0 = .ok (.aload_n 0, 1) := by decide +kernel
theorem dX5_addJob_1 : decode cX5_addJob 1 = .ok (.aload_n 0, 1) := by decide +kernel
theorem dX5_addJob_2 : decode cX5_addJob 2 = .ok (.getfield 83, 3) := by decide +kernel
theorem dX5_addJob_5 : decode cX5_addJob 5 = .ok (.invokevirtual 86, 3) := by decide +kernel
theorem dX5_addJob_8 : decode cX5_addJob 8 = .ok (.astore 6, 2) := by decide +kernel
theorem dX5_addJob_10 : decode cX5_addJob 10 = .ok (.aload 6, 2) := by decide +kernel
theorem dX5_addJob_12 : decode cX5_addJob 12 = .ok (.aload_n 0, 1) := by decide +kernel
theorem dX5_addJob_13 : decode cX5_addJob 13 = .ok (.getfield 104, 3) := by decide +kernel
theorem dX5_addJob_16 : decode cX5_addJob 16 = .ok (.putfield 122, 3) := by decide +kernel
theorem dX5_addJob_19 : decode cX5_addJob 19 = .ok (.aload 6, 2) := by decide +kernel
theorem dX5_addJob_21 : decode cX5_addJob 21 = .ok (.iload_n 1, 1) := by decide +kernel
theorem dX5_addJob_22 : decode cX5_addJob 22 = .ok (.putfield 125, 3) := by decide +kernel
theorem dX5_addJob_25 : decode cX5_addJob 25 = .ok (.aload 6, 2) := by decide +kernel
theorem dX5_addJob_27 : decode cX5_addJob 27 = .ok (.iload_n 2, 1) := by decide +kernel
theorem dX5_addJob_28 : decode cX5_addJob 28 = .ok (.putfield 128, 3) := by decide +kernel
theorem dX5_addJob_31 : decode cX5_addJob 31 = .ok (.aload 6, 2) := by decide +kernel
theorem dX5_addJob_33 : decode cX5_addJob 33 = .ok (.iload_n 3, 1) := by decide +kernel
theorem dX5_addJob_34 : decode cX5_addJob 34 = .ok (.putfield 131, 3) := by decide +kernel
theorem dX5_addJob_37 : decode cX5_addJob 37 = .ok (.aload 6, 2) := by decide +kernel
theorem dX5_addJob_39 : decode cX5_addJob 39 = .ok (.iconst 0, 1) := by decide +kernel
theorem dX5_addJob_40 : decode cX5_addJob 40 = .ok (.putfield 134, 3) := by decide +kernel
theorem dX5_addJob_43 : decode cX5_addJob 43 = .ok (.aload 6, 2) := by decide +kernel
theorem dX5_addJob_45 : decode cX5_addJob 45 = .ok (.iload 4, 2) := by decide +kernel
theorem dX5_addJob_47 : decode cX5_addJob 47 = .ok (.putfield 137, 3) := by decide +kernel
theorem dX5_addJob_50 : decode cX5_addJob 50 = .ok (.aload 6, 2) := by decide +kernel
theorem dX5_addJob_52 : decode cX5_addJob 52 = .ok (.iload 5, 2) := by decide +kernel
theorem dX5_addJob_54 : decode cX5_addJob 54 = .ok (.putfield 140, 3) := by decide +kernel
theorem dX5_addJob_57 : decode cX5_addJob 57 = .ok (.aload 6, 2) := by decide +kernel
theorem dX5_addJob_59 : decode cX5_addJob 59 = .ok (.iconst 0, 1) := by decide +kernel
theorem dX5_addJob_60 : decode cX5_addJob 60 = .ok (.putfield 144, 3) := by decide +kernel
theorem dX5_addJob_63 : decode cX5_addJob 63 = .ok (.aload_n 0, 1) := by decide +kernel
theorem dX5_addJob_64 : decode cX5_addJob 64 = .ok (.dup, 1) := by decide +kernel
theorem dX5_addJob_65 : decode cX5_addJob 65 = .ok (.getfield 104, 3) := by decide +kernel
theorem dX5_addJob_68 : decode cX5_addJob 68 = .ok (.iconst 1, 1) := by decide +kernel
theorem dX5_addJob_69 : decode cX5_addJob 69 = .ok (.iadd, 1) := by decide +kernel
theorem dX5_addJob_70 : decode cX5_addJob 70 = .ok (.putfield 104, 3) := by decide +kernel
theorem dX5_addJob_73 : decode cX5_addJob 73 = .ok (.aload_n 0, 1) := by decide +kernel
theorem dX5_addJob_74 : decode cX5_addJob 74 = .ok (.dup, 1) := by decide +kernel
theorem dX5_addJob_75 : decode cX5_addJob 75 = .ok (.getfield 83, 3) := by decide +kernel
theorem dX5_addJob_78 : decode cX5_addJob 78 = .ok (.iconst 1, 1) := by decide +kernel
theorem dX5_addJob_79 : decode cX5_addJob 79 = .ok (.iadd, 1) := by decide +kernel
theorem dX5_addJob_80 : decode cX5_addJob 80 = .ok (.putfield 83, 3) := by decide +kernel
theorem dX5_addJob_83 : decode cX5_addJob 83 = .ok (.aload_n 0, 1) := by decide +kernel
theorem dX5_addJob_84 : decode cX5_addJob 84 = .ok (.aload_n 0, 1) := by decide +kernel
theorem dX5_addJob_85 : decode cX5_addJob 85 = .ok (.getfield 83, 3) := by decide +kernel
theorem dX5_addJob_88 : decode cX5_addJob 88 = .ok (.iconst 1, 1) := by decide +kernel
theorem dX5_addJob_89 : decode cX5_addJob 89 = .ok (.isub, 1) := by decide +kernel
theorem dX5_addJob_90 : decode cX5_addJob 90 = .ok (.invokevirtual 147, 3) := by decide +kernel
theorem dX5_addJob_93 : decode cX5_addJob 93 = .ok (.pop, 1) := by decide +kernel
theorem dX5_addJob_94 : decode cX5_addJob 94 = .ok (.aload 6, 2) := by decide +kernel
theorem dX5_addJob_96 : decode cX5_addJob 96 = .ok (.getfield 122, 3) := by decide +kernel
theorem dX5_addJob_99 : decode cX5_addJob 99 = .ok (.ireturn, 1) := by decide +kernel
theorem dX5_hasten_0 : decode cX5_hasten 0 = .ok (.aload_n 0, 1) := by decide +kernel
theorem dX5_hasten_1 : decode cX5_hasten 1 = .ok (.iload_n 1, 1) := by decide +kernel
theorem dX5_hasten_2 : decode cX5_hasten 2 = .ok (.invokevirtual 86, 3) := by decide +kernel
theorem dX5_hasten_5 : decode cX5_hasten 5 = .ok (.iload_n 2, 1) := by decide +kernel
theorem dX5_hasten_6 : decode cX5_hasten 6 = .ok (.putfield 140, 3) := by decide +kernel
theorem dX5_hasten_9 : decode cX5_hasten 9 = .ok (.aload_n 0, 1) := by decide +kernel
theorem dX5_hasten_10 : decode cX5_hasten 10 = .ok (.iload_n 1, 1) := by decide +kernel
theorem dX5_hasten_11 : decode cX5_hasten 11 = .ok (.invokevirtual 147, 3) := by decide +kernel
theorem dX5_hasten_14 : decode cX5_hasten 14 = .ok (.ireturn, 1) := by decide +kernel
theorem dX5_settle_0 : decode cX5_settle 0 = .ok (.iload_n 1, 1) := by decide +kernel
theorem dX5_settle_1 : decode cX5_settle 1 = .ok (.istore_n 2, 1) := by decide +kernel
theorem dX5_settle_2 : decode cX5_settle 2 = .ok (.iload_n 2, 1) := by decide +kernel
theorem dX5_settle_3 : decode cX5_settle 3 = .ok (.ifCond .le 35, 3) := by decide +kernel
theorem dX5_settle_6 : decode cX5_settle 6 = .ok (.aload_n 0, 1) := by decide +kernel
theorem dX5_settle_7 : decode cX5_settle 7 = .ok (.iload_n 2, 1) := by decide +kernel
theorem dX5_settle_8 : decode cX5_settle 8 = .ok (.invokevirtual 86, 3) := by decide +kernel
theorem dX5_settle_11 : decode cX5_settle 11 = .ok (.aload_n 0, 1) := by decide +kernel
theorem dX5_settle_12 : decode cX5_settle 12 = .ok (.iload_n 2, 1) := by decide +kernel
theorem dX5_settle_13 : decode cX5_settle 13 = .ok (.iconst 1, 1) := by decide +kernel
theorem dX5_settle_14 : decode cX5_settle 14 = .ok (.isub, 1) := by decide +kernel
theorem dX5_settle_15 : decode cX5_settle 15 = .ok (.invokevirtual 86, 3) := by decide +kernel
theorem dX5_settle_18 : decode cX5_settle 18 = .ok (.invokevirtual 151, 3) := by decide +kernel
theorem dX5_settle_21 : decode cX5_settle 21 = .ok (.ifCond .eq 17, 3) := by decide +kernel
theorem dX5_settle_24 : decode cX5_settle 24 = .ok (.aload_n 0, 1) := by decide +kernel
theorem dX5_settle_25 : decode cX5_settle 25 = .ok (.iload_n 2, 1) := by decide +kernel
theorem dX5_settle_26 : decode cX5_settle 26 = .ok (.iload_n 2, 1) := by decide +kernel
theorem dX5_settle_27 : decode cX5_settle 27 = .ok (.iconst 1, 1) := by decide +kernel
theorem dX5_settle_28 : decode cX5_settle 28 = .ok (.isub, 1) := by decide +kernel
theorem dX5_settle_29 : decode cX5_settle 29 = .ok (.invokevirtual 155, 3) := by decide +kernel
theorem dX5_settle_32 : decode cX5_settle 32 = .ok (.iinc 2 (-1), 3) := by decide +kernel
theorem dX5_settle_35 : decode cX5_settle 35 = .ok (.goto (-33), 3) := by decide +kernel
theorem dX5_settle_38 : decode cX5_settle 38 = .ok (.iload_n 2, 1) := by decide +kernel
theorem dX5_settle_39 : decode cX5_settle 39 = .ok (.aload_n 0, 1) := by decide +kernel
theorem dX5_settle_40 : decode cX5_settle 40 = .ok (.getfield 83, 3) := by decide +kernel
theorem dX5_settle_43 : decode cX5_settle 43 = .ok (.iconst 1, 1) := by decide +kernel
theorem dX5_settle_44 : decode cX5_settle 44 = .ok (.isub, 1) := by decide +kernel
theorem dX5_settle_45 : decode cX5_settle 45 = .ok (.if_icmp .ge 35, 3) := by decide +kernel
theorem dX5_settle_48 : decode cX5_settle 48 = .ok (.aload_n 0, 1) := by decide +kernel
theorem dX5_settle_49 : decode cX5_settle 49 = .ok (.iload_n 2, 1) := by decide +kernel
theorem dX5_settle_50 : decode cX5_settle 50 = .ok (.iconst 1, 1) := by decide +kernel
theorem dX5_settle_51 : decode cX5_settle 51 = .ok (.iadd, 1) := by decide +kernel
theorem dX5_settle_52 : decode cX5_settle 52 = .ok (.invokevirtual 86, 3) := by decide +kernel
theorem dX5_settle_55 : decode cX5_settle 55 = .ok (.aload_n 0, 1) := by decide +kernel
theorem dX5_settle_56 : decode cX5_settle 56 = .ok (.iload_n 2, 1) := by decide +kernel
theorem dX5_settle_57 : decode cX5_settle 57 = .ok (.invokevirtual 86, 3) := by decide +kernel
theorem dX5_settle_60 : decode cX5_settle 60 = .ok (.invokevirtual 151, 3) := by decide +kernel
theorem dX5_settle_63 : decode cX5_settle 63 = .ok (.ifCond .eq 17, 3) := by decide +kernel
theorem dX5_settle_66 : decode cX5_settle 66 = .ok (.aload_n 0, 1) := by decide +kernel
theorem dX5_settle_67 : decode cX5_settle 67 = .ok (.iload_n 2, 1) := by decide +kernel
theorem dX5_settle_68 : decode cX5_settle 68 = .ok (.iload_n 2, 1) := by decide +kernel
theorem dX5_settle_69 : decode cX5_settle 69 = .ok (.iconst 1, 1) := by decide +kernel
theorem dX5_settle_70 : decode cX5_settle 70 = .ok (.iadd, 1) := by decide +kernel
theorem dX5_settle_71 : decode cX5_settle 71 = .ok (.invokevirtual 155, 3) := by decide +kernel
theorem dX5_settle_74 : decode cX5_settle 74 = .ok (.iinc 2 1, 3) := by decide +kernel
theorem dX5_settle_77 : decode cX5_settle 77 = .ok (.goto (-39), 3) := by decide +kernel
theorem dX5_settle_80 : decode cX5_settle 80 = .ok (.iload_n 2, 1) := by decide +kernel
theorem dX5_settle_81 : decode cX5_settle 81 = .ok (.ireturn, 1) := by decide +kernel
theorem dX5_swapJobs_0 : decode cX5_swapJobs 0 = .ok (.iload_n 1, 1) := by decide +kernel
theorem dX5_swapJobs_1 : decode cX5_swapJobs 1 = .ok (.ifCond .lt 51, 3) := by decide +kernel
theorem dX5_swapJobs_4 : decode cX5_swapJobs 4 = .ok (.iload_n 1, 1) := by decide +kernel
theorem dX5_swapJobs_5 : decode cX5_swapJobs 5 = .ok (.aload_n 0, 1) := by decide +kernel
theorem dX5_swapJobs_6 : decode cX5_swapJobs 6 = .ok (.getfield 40, 3) := by decide +kernel
theorem dX5_swapJobs_9 : decode cX5_swapJobs 9 = .ok (.arraylength, 1) := by decide +kernel
theorem dX5_swapJobs_10 : decode cX5_swapJobs 10 = .ok (.if_icmp .ge 42, 3) := by decide +kernel
theorem dX5_swapJobs_13 : decode cX5_swapJobs 13 = .ok (.iload_n 2, 1) := by decide +kernel
theorem dX5_swapJobs_14 : decode cX5_swapJobs 14 = .ok (.ifCond .lt 38, 3) := by decide +kernel
theorem dX5_swapJobs_17 : decode cX5_swapJobs 17 = .ok (.iload_n 2, 1) := by decide +kernel
theorem dX5_swapJobs_18 : decode cX5_swapJobs 18 = .ok (.aload_n 0, 1) := by decide +kernel
theorem dX5_swapJobs_19 : decode cX5_swapJobs 19 = .ok (.getfield 40, 3) := by decide +kernel
theorem dX5_swapJobs_22 : decode cX5_swapJobs 22 = .ok (.arraylength, 1) := by decide +kernel
theorem dX5_swapJobs_23 : decode cX5_swapJobs 23 = .ok (.if_icmp .ge 29, 3) := by decide +kernel
theorem dX5_swapJobs_26 : decode cX5_swapJobs 26 = .ok (.aload_n 0, 1) := by decide +kernel
theorem dX5_swapJobs_27 : decode cX5_swapJobs 27 = .ok (.getfield 40, 3) := by decide +kernel
theorem dX5_swapJobs_30 : decode cX5_swapJobs 30 = .ok (.iload_n 1, 1) := by decide +kernel
theorem dX5_swapJobs_31 : decode cX5_swapJobs 31 = .ok (.aaload, 1) := by decide +kernel
theorem dX5_swapJobs_32 : decode cX5_swapJobs 32 = .ok (.astore_n 3, 1) := by decide +kernel
theorem dX5_swapJobs_33 : decode cX5_swapJobs 33 = .ok (.aload_n 0, 1) := by decide +kernel
theorem dX5_swapJobs_34 : decode cX5_swapJobs 34 = .ok (.getfield 40, 3) := by decide +kernel
theorem dX5_swapJobs_37 : decode cX5_swapJobs 37 = .ok (.iload_n 1, 1) := by decide +kernel
theorem dX5_swapJobs_38 : decode cX5_swapJobs 38 = .ok (.aload_n 0, 1) := by decide +kernel
theorem dX5_swapJobs_39 : decode cX5_swapJobs 39 = .ok (.getfield 40, 3) := by decide +kernel
theorem dX5_swapJobs_42 : decode cX5_swapJobs 42 = .ok (.iload_n 2, 1) := by decide +kernel
theorem dX5_swapJobs_43 : decode cX5_swapJobs 43 = .ok (.aaload, 1) := by decide +kernel
theorem dX5_swapJobs_44 : decode cX5_swapJobs 44 = .ok (.aastore, 1) := by decide +kernel
theorem dX5_swapJobs_45 : decode cX5_swapJobs 45 = .ok (.aload_n 0, 1) := by decide +kernel
theorem dX5_swapJobs_46 : decode cX5_swapJobs 46 = .ok (.getfield 40, 3) := by decide +kernel
theorem dX5_swapJobs_49 : decode cX5_swapJobs 49 = .ok (.iload_n 2, 1) := by decide +kernel
theorem dX5_swapJobs_50 : decode cX5_swapJobs 50 = .ok (.aload_n 3, 1) := by decide +kernel
theorem dX5_swapJobs_51 : decode cX5_swapJobs 51 = .ok (.aastore, 1) := by decide +kernel
theorem dX5_swapJobs_52 : decode cX5_swapJobs 52 = .ok (.return_, 1) := by decide +kernel
theorem dX5_placeOf_0 : decode cX5_placeOf 0 = .ok (.iconst 0, 1) := by decide +kernel
theorem dX5_placeOf_1 : decode cX5_placeOf 1 = .ok (.istore_n 2, 1) := by decide +kernel
theorem dX5_placeOf_2 : decode cX5_placeOf 2 = .ok (.iload_n 2, 1) := by decide +kernel
theorem dX5_placeOf_3 : decode cX5_placeOf 3 = .ok (.aload_n 0, 1) := by decide +kernel
theorem dX5_placeOf_4 : decode cX5_placeOf 4 = .ok (.getfield 83, 3) := by decide +kernel
theorem dX5_placeOf_7 : decode cX5_placeOf 7 = .ok (.if_icmp .ge 23, 3) := by decide +kernel
theorem dX5_placeOf_10 : decode cX5_placeOf 10 = .ok (.aload_n 0, 1) := by decide +kernel
theorem dX5_placeOf_11 : decode cX5_placeOf 11 = .ok (.iload_n 2, 1) := by decide +kernel
theorem dX5_placeOf_12 : decode cX5_placeOf 12 = .ok (.invokevirtual 86, 3) := by decide +kernel
theorem dX5_placeOf_15 : decode cX5_placeOf 15 = .ok (.getfield 122, 3) := by decide +kernel
theorem dX5_placeOf_18 : decode cX5_placeOf 18 = .ok (.iload_n 1, 1) := by decide +kernel
theorem dX5_placeOf_19 : decode cX5_placeOf 19 = .ok (.if_icmp .ne 5, 3) := by decide +kernel
theorem dX5_placeOf_22 : decode cX5_placeOf 22 = .ok (.iload_n 2, 1) := by decide +kernel
theorem dX5_placeOf_23 : decode cX5_placeOf 23 = .ok (.ireturn, 1) := by decide +kernel
theorem dX5_placeOf_24 : decode cX5_placeOf 24 = .ok (.iinc 2 1, 3) := by decide +kernel
theorem dX5_placeOf_27 : decode cX5_placeOf 27 = .ok (.goto (-25), 3) := by decide +kernel
theorem dX5_placeOf_30 : decode cX5_placeOf 30 = .ok (.iconst (-1), 1) := by decide +kernel
theorem dX5_placeOf_31 : decode cX5_placeOf 31 = .ok (.ireturn, 1) := by decide +kernel
theorem dX5_removeJob_0 : decode cX5_removeJob 0 = .ok (.aload_n 0, 1) := by decide +kernel
theorem dX5_removeJob_1 : decode cX5_removeJob 1 = .ok (.dup, 1) := by decide +kernel
theorem dX5_removeJob_2 : decode cX5_removeJob 2 = .ok (.getfield 83, 3) := by decide +kernel
theorem dX5_removeJob_5 : decode cX5_removeJob 5 = .ok (.iconst 1, 1) := by decide +kernel
theorem dX5_removeJob_6 : decode cX5_removeJob 6 = .ok (.isub, 1) := by decide +kernel
theorem dX5_removeJob_7 : decode cX5_removeJob 7 = .ok (.putfield 83, 3) := by decide +kernel
theorem dX5_removeJob_10 : decode cX5_removeJob 10 = .ok (.iload_n 1, 1) := by decide +kernel
theorem dX5_removeJob_11 : decode cX5_removeJob 11 = .ok (.istore_n 2, 1) := by decide +kernel
theorem dX5_removeJob_12 : decode cX5_removeJob 12 = .ok (.iload_n 2, 1) := by decide +kernel
theorem dX5_removeJob_13 : decode cX5_removeJob 13 = .ok (.aload_n 0, 1) := by decide +kernel
theorem dX5_removeJob_14 : decode cX5_removeJob 14 = .ok (.getfield 83, 3) := by decide +kernel
theorem dX5_removeJob_17 : decode cX5_removeJob 17 = .ok (.if_icmp .ge 17, 3) := by decide +kernel
theorem dX5_removeJob_20 : decode cX5_removeJob 20 = .ok (.aload_n 0, 1) := by decide +kernel
theorem dX5_removeJob_21 : decode cX5_removeJob 21 = .ok (.iload_n 2, 1) := by decide +kernel
theorem dX5_removeJob_22 : decode cX5_removeJob 22 = .ok (.iload_n 2, 1) := by decide +kernel
theorem dX5_removeJob_23 : decode cX5_removeJob 23 = .ok (.iconst 1, 1) := by decide +kernel
theorem dX5_removeJob_24 : decode cX5_removeJob 24 = .ok (.iadd, 1) := by decide +kernel
theorem dX5_removeJob_25 : decode cX5_removeJob 25 = .ok (.invokevirtual 155, 3) := by decide +kernel
theorem dX5_removeJob_28 : decode cX5_removeJob 28 = .ok (.iinc 2 1, 3) := by decide +kernel
theorem dX5_removeJob_31 : decode cX5_removeJob 31 = .ok (.goto (-19), 3) := by decide +kernel
theorem dX5_removeJob_34 : decode cX5_removeJob 34 = .ok (.return_, 1) := by decide +kernel
theorem dX5_dropJob_0 : decode cX5_dropJob 0 = .ok (.aload_n 0, 1) := by decide +kernel
theorem dX5_dropJob_1 : decode cX5_dropJob 1 = .ok (.iload_n 1, 1) := by decide +kernel
theorem dX5_dropJob_2 : decode cX5_dropJob 2 = .ok (.invokevirtual 86, 3) := by decide +kernel
theorem dX5_dropJob_5 : decode cX5_dropJob 5 = .ok (.astore_n 2, 1) := by decide +kernel
theorem dX5_dropJob_6 : decode cX5_dropJob 6 = .ok (.iconst 0, 1) := by decide +kernel
theorem dX5_dropJob_7 : decode cX5_dropJob 7 = .ok (.istore_n 3, 1) := by decide +kernel
theorem dX5_dropJob_8 : decode cX5_dropJob 8 = .ok (.iload_n 3, 1) := by decide +kernel
theorem dX5_dropJob_9 : decode cX5_dropJob 9 = .ok (.bipush 6, 2) := by decide +kernel
theorem dX5_dropJob_11 : decode cX5_dropJob 11 = .ok (.if_icmp .gt 34, 3) := by decide +kernel
theorem dX5_dropJob_14 : decode cX5_dropJob 14 = .ok (.aload_n 0, 1) := by decide +kernel
theorem dX5_dropJob_15 : decode cX5_dropJob 15 = .ok (.iload_n 3, 1) := by decide +kernel
theorem dX5_dropJob_16 : decode cX5_dropJob 16 = .ok (.invokevirtual 93, 3) := by decide +kernel
theorem dX5_dropJob_19 : decode cX5_dropJob 19 = .ok (.astore 4, 2) := by decide +kernel
theorem dX5_dropJob_21 : decode cX5_dropJob 21 = .ok (.aload 4, 2) := by decide +kernel
theorem dX5_dropJob_23 : decode cX5_dropJob 23 = .ok (.getfield 159, 3) := by decide +kernel
theorem dX5_dropJob_26 : decode cX5_dropJob 26 = .ok (.aload_n 2, 1) := by decide +kernel
theorem dX5_dropJob_27 : decode cX5_dropJob 27 = .ok (.getfield 122, 3) := by decide +kernel
theorem dX5_dropJob_30 : decode cX5_dropJob 30 = .ok (.if_icmp .ne 9, 3) := by decide +kernel
theorem dX5_dropJob_33 : decode cX5_dropJob 33 = .ok (.aload 4, 2) := by decide +kernel
theorem dX5_dropJob_35 : decode cX5_dropJob 35 = .ok (.iconst (-1), 1) := by decide +kernel
theorem dX5_dropJob_36 : decode cX5_dropJob 36 = .ok (.putfield 159, 3) := by decide +kernel
theorem dX5_dropJob_39 : decode cX5_dropJob 39 = .ok (.iinc 3 1, 3) := by decide +kernel
theorem dX5_dropJob_42 : decode cX5_dropJob 42 = .ok (.goto (-34), 3) := by decide +kernel
theorem dX5_dropJob_45 : decode cX5_dropJob 45 = .ok (.aload_n 0, 1) := by decide +kernel
theorem dX5_dropJob_46 : decode cX5_dropJob 46 = .ok (.aload_n 2, 1) := by decide +kernel
theorem dX5_dropJob_47 : decode cX5_dropJob 47 = .ok (.getfield 128, 3) := by decide +kernel
theorem dX5_dropJob_50 : decode cX5_dropJob 50 = .ok (.invokevirtual 68, 3) := by decide +kernel
theorem dX5_dropJob_53 : decode cX5_dropJob 53 = .ok (.dup, 1) := by decide +kernel
theorem dX5_dropJob_54 : decode cX5_dropJob 54 = .ok (.getfield 162, 3) := by decide +kernel
theorem dX5_dropJob_57 : decode cX5_dropJob 57 = .ok (.aload_n 2, 1) := by decide +kernel
theorem dX5_dropJob_58 : decode cX5_dropJob 58 = .ok (.getfield 144, 3) := by decide +kernel
theorem dX5_dropJob_61 : decode cX5_dropJob 61 = .ok (.iadd, 1) := by decide +kernel
theorem dX5_dropJob_62 : decode cX5_dropJob 62 = .ok (.putfield 162, 3) := by decide +kernel
theorem dX5_dropJob_65 : decode cX5_dropJob 65 = .ok (.aload_n 0, 1) := by decide +kernel
theorem dX5_dropJob_66 : decode cX5_dropJob 66 = .ok (.iload_n 1, 1) := by decide +kernel
theorem dX5_dropJob_67 : decode cX5_dropJob 67 = .ok (.invokevirtual 165, 3) := by decide +kernel
theorem dX5_dropJob_70 : decode cX5_dropJob 70 = .ok (.aload_n 2, 1) := by decide +kernel
theorem dX5_dropJob_71 : decode cX5_dropJob 71 = .ok (.getfield 144, 3) := by decide +kernel
theorem dX5_dropJob_74 : decode cX5_dropJob 74 = .ok (.ireturn, 1) := by decide +kernel
theorem dX5_valueOf_0 : decode cX5_valueOf 0 = .ok (.iload_n 1, 1) := by decide +kernel
theorem dX5_valueOf_1 : decode cX5_valueOf 1 = .ok (.tableswitch 42 0 2 #[27, 32, 37], 27) := by decide +kernel
theorem dX5_valueOf_28 : decode cX5_valueOf 28 = .ok (.aload_n 0, 1) := by decide +kernel
theorem dX5_valueOf_29 : decode cX5_valueOf 29 = .ok (.getfield 9, 3) := by decide +kernel
theorem dX5_valueOf_32 : decode cX5_valueOf 32 = .ok (.ireturn, 1) := by decide +kernel
theorem dX5_valueOf_33 : decode cX5_valueOf 33 = .ok (.aload_n 0, 1) := by decide +kernel
theorem dX5_valueOf_34 : decode cX5_valueOf 34 = .ok (.getfield 15, 3) := by decide +kernel
theorem dX5_valueOf_37 : decode cX5_valueOf 37 = .ok (.ireturn, 1) := by decide +kernel
theorem dX5_valueOf_38 : decode cX5_valueOf 38 = .ok (.aload_n 0, 1) := by decide +kernel
theorem dX5_valueOf_39 : decode cX5_valueOf 39 = .ok (.getfield 18, 3) := by decide +kernel
theorem dX5_valueOf_42 : decode cX5_valueOf 42 = .ok (.ireturn, 1) := by decide +kernel
theorem dX5_valueOf_43 : decode cX5_valueOf 43 = .ok (.aload_n 0, 1) := by decide +kernel
theorem dX5_valueOf_44 : decode cX5_valueOf 44 = .ok (.getfield 21, 3) := by decide +kernel
theorem dX5_valueOf_47 : decode cX5_valueOf 47 = .ok (.ireturn, 1) := by decide +kernel
theorem dX5_putValue_0 : decode cX5_putValue 0 = .ok (.iload_n 1, 1) := by decide +kernel
theorem dX5_putValue_1 : decode cX5_putValue 1 = .ok (.tableswitch 51 0 2 #[27, 35, 43], 27) := by decide +kernel
theorem dX5_putValue_28 : decode cX5_putValue 28 = .ok (.aload_n 0, 1) := by decide +kernel
theorem dX5_putValue_29 : decode cX5_putValue 29 = .ok (.iload_n 2, 1) := by decide +kernel
theorem dX5_putValue_30 : decode cX5_putValue 30 = .ok (.putfield 9, 3) := by decide +kernel
theorem dX5_putValue_33 : decode cX5_putValue 33 = .ok (.goto 24, 3) := by decide +kernel
theorem dX5_putValue_36 : decode cX5_putValue 36 = .ok (.aload_n 0, 1) := by decide +kernel
theorem dX5_putValue_37 : decode cX5_putValue 37 = .ok (.iload_n 2, 1) := by decide +kernel
theorem dX5_putValue_38 : decode cX5_putValue 38 = .ok (.putfield 15, 3) := by decide +kernel
theorem dX5_putValue_41 : decode cX5_putValue 41 = .ok (.goto 16, 3) := by decide +kernel
theorem dX5_putValue_44 : decode cX5_putValue 44 = .ok (.aload_n 0, 1) := by decide +kernel
theorem dX5_putValue_45 : decode cX5_putValue 45 = .ok (.iload_n 2, 1) := by decide +kernel
theorem dX5_putValue_46 : decode cX5_putValue 46 = .ok (.putfield 18, 3) := by decide +kernel
theorem dX5_putValue_49 : decode cX5_putValue 49 = .ok (.goto 8, 3) := by decide +kernel
theorem dX5_putValue_52 : decode cX5_putValue 52 = .ok (.aload_n 0, 1) := by decide +kernel
theorem dX5_putValue_53 : decode cX5_putValue 53 = .ok (.iload_n 2, 1) := by decide +kernel
theorem dX5_putValue_54 : decode cX5_putValue 54 = .ok (.putfield 21, 3) := by decide +kernel
theorem dX5_putValue_57 : decode cX5_putValue 57 = .ok (.return_, 1) := by decide +kernel
theorem dX5_countMade_0 : decode cX5_countMade 0 = .ok (.iconst 0, 1) := by decide +kernel
theorem dX5_countMade_1 : decode cX5_countMade 1 = .ok (.istore_n 1, 1) := by decide +kernel
theorem dX5_countMade_2 : decode cX5_countMade 2 = .ok (.iconst 0, 1) := by decide +kernel
theorem dX5_countMade_3 : decode cX5_countMade 3 = .ok (.istore_n 2, 1) := by decide +kernel
theorem dX5_countMade_4 : decode cX5_countMade 4 = .ok (.iload_n 2, 1) := by decide +kernel
theorem dX5_countMade_5 : decode cX5_countMade 5 = .ok (.iconst 4, 1) := by decide +kernel
theorem dX5_countMade_6 : decode cX5_countMade 6 = .ok (.if_icmp .ge 20, 3) := by decide +kernel
theorem dX5_countMade_9 : decode cX5_countMade 9 = .ok (.iload_n 1, 1) := by decide +kernel
theorem dX5_countMade_10 : decode cX5_countMade 10 = .ok (.aload_n 0, 1) := by decide +kernel
theorem dX5_countMade_11 : decode cX5_countMade 11 = .ok (.iload_n 2, 1) := by decide +kernel
theorem dX5_countMade_12 : decode cX5_countMade 12 = .ok (.invokevirtual 68, 3) := by decide +kernel
theorem dX5_countMade_15 : decode cX5_countMade 15 = .ok (.getfield 169, 3) := by decide +kernel
theorem dX5_countMade_18 : decode cX5_countMade 18 = .ok (.iadd, 1) := by decide +kernel
theorem dX5_countMade_19 : decode cX5_countMade 19 = .ok (.istore_n 1, 1) := by decide +kernel
theorem dX5_countMade_20 : decode cX5_countMade 20 = .ok (.iinc 2 1, 3) := by decide +kernel
theorem dX5_countMade_23 : decode cX5_countMade 23 = .ok (.goto (-19), 3) := by decide +kernel
theorem dX5_countMade_26 : decode cX5_countMade 26 = .ok (.iload_n 1, 1) := by decide +kernel
theorem dX5_countMade_27 : decode cX5_countMade 27 = .ok (.ireturn, 1) := by decide +kernel
theorem dX5_countScrap_0 : decode cX5_countScrap 0 = .ok (.iconst 0, 1) := by decide +kernel
theorem dX5_countScrap_1 : decode cX5_countScrap 1 = .ok (.istore_n 1, 1) := by decide +kernel
theorem dX5_countScrap_2 : decode cX5_countScrap 2 = .ok (.iconst 0, 1) := by decide +kernel
theorem dX5_countScrap_3 : decode cX5_countScrap 3 = .ok (.istore_n 2, 1) := by decide +kernel
theorem dX5_countScrap_4 : decode cX5_countScrap 4 = .ok (.iload_n 2, 1) := by decide +kernel
theorem dX5_countScrap_5 : decode cX5_countScrap 5 = .ok (.iconst 4, 1) := by decide +kernel
theorem dX5_countScrap_6 : decode cX5_countScrap 6 = .ok (.if_icmp .ge 20, 3) := by decide +kernel
theorem dX5_countScrap_9 : decode cX5_countScrap 9 = .ok (.iload_n 1, 1) := by decide +kernel
theorem dX5_countScrap_10 : decode cX5_countScrap 10 = .ok (.aload_n 0, 1) := by decide +kernel
theorem dX5_countScrap_11 : decode cX5_countScrap 11 = .ok (.iload_n 2, 1) := by decide +kernel
theorem dX5_countScrap_12 : decode cX5_countScrap 12 = .ok (.invokevirtual 68, 3) := by decide +kernel
theorem dX5_countScrap_15 : decode cX5_countScrap 15 = .ok (.getfield 162, 3) := by decide +kernel
theorem dX5_countScrap_18 : decode cX5_countScrap 18 = .ok (.iadd, 1) := by decide +kernel
theorem dX5_countScrap_19 : decode cX5_countScrap 19 = .ok (.istore_n 1, 1) := by decide +kernel
theorem dX5_countScrap_20 : decode cX5_countScrap 20 = .ok (.iinc 2 1, 3) := by decide +kernel
theorem dX5_countScrap_23 : decode cX5_countScrap 23 = .ok (.goto (-19), 3) := by decide +kernel
theorem dX5_countScrap_26 : decode cX5_countScrap 26 = .ok (.iload_n 1, 1) := by decide +kernel
theorem dX5_countScrap_27 : decode cX5_countScrap 27 = .ok (.ireturn, 1) := by decide +kernel
theorem dX5_countRushJobs_0 : decode cX5_countRushJobs 0 = .ok (.iconst 0, 1) := by decide +kernel
theorem dX5_countRushJobs_1 : decode cX5_countRushJobs 1 = .ok (.istore_n 1, 1) := by decide +kernel
theorem dX5_countRushJobs_2 : decode cX5_countRushJobs 2 = .ok (.iconst 0, 1) := by decide +kernel
theorem dX5_countRushJobs_3 : decode cX5_countRushJobs 3 = .ok (.istore_n 2, 1) := by decide +kernel
theorem dX5_countRushJobs_4 : decode cX5_countRushJobs 4 = .ok (.iload_n 2, 1) := by decide +kernel
theorem dX5_countRushJobs_5 : decode cX5_countRushJobs 5 = .ok (.aload_n 0, 1) := by decide +kernel
theorem dX5_countRushJobs_6 : decode cX5_countRushJobs 6 = .ok (.getfield 83, 3) := by decide +kernel
theorem dX5_countRushJobs_9 : decode cX5_countRushJobs 9 = .ok (.if_icmp .ge 23, 3) := by decide +kernel
theorem dX5_countRushJobs_12 : decode cX5_countRushJobs 12 = .ok (.aload_n 0, 1) := by decide +kernel
theorem dX5_countRushJobs_13 : decode cX5_countRushJobs 13 = .ok (.iload_n 2, 1) := by decide +kernel
theorem dX5_countRushJobs_14 : decode cX5_countRushJobs 14 = .ok (.invokevirtual 86, 3) := by decide +kernel
theorem dX5_countRushJobs_17 : decode cX5_countRushJobs 17 = .ok (.getfield 140, 3) := by decide +kernel
theorem dX5_countRushJobs_20 : decode cX5_countRushJobs 20 = .ok (.ifCond .eq 6, 3) := by decide +kernel
theorem dX5_countRushJobs_23 : decode cX5_countRushJobs 23 = .ok (.iinc 1 1, 3) := by decide +kernel
theorem dX5_countRushJobs_26 : decode cX5_countRushJobs 26 = .ok (.iinc 2 1, 3) := by decide +kernel
theorem dX5_countRushJobs_29 : decode cX5_countRushJobs 29 = .ok (.goto (-25), 3) := by decide +kernel
theorem dX5_countRushJobs_32 : decode cX5_countRushJobs 32 = .ok (.iload_n 1, 1) := by decide +kernel
theorem dX5_countRushJobs_33 : decode cX5_countRushJobs 33 = .ok (.ireturn, 1) := by decide +kernel
theorem dX5_countInFurnace_0 : decode cX5_countInFurnace 0 = .ok (.iconst 0, 1) := by decide +kernel
theorem dX5_countInFurnace_1 : decode cX5_countInFurnace 1 = .ok (.istore_n 1, 1) := by decide +kernel
theorem dX5_countInFurnace_2 : decode cX5_countInFurnace 2 = .ok (.aload_n 0, 1) := by decide +kernel
theorem dX5_countInFurnace_3 : decode cX5_countInFurnace 3 = .ok (.getfield 47, 3) := by decide +kernel
theorem dX5_countInFurnace_6 : decode cX5_countInFurnace 6 = .ok (.astore_n 2, 1) := by decide +kernel
theorem dX5_countInFurnace_7 : decode cX5_countInFurnace 7 = .ok (.aload_n 2, 1) := by decide +kernel
theorem dX5_countInFurnace_8 : decode cX5_countInFurnace 8 = .ok (.arraylength, 1) := by decide +kernel
theorem dX5_countInFurnace_9 : decode cX5_countInFurnace 9 = .ok (.istore_n 3, 1) := by decide +kernel
theorem dX5_countInFurnace_10 : decode cX5_countInFurnace 10 = .ok (.iconst 0, 1) := by decide +kernel
theorem dX5_countInFurnace_11 : decode cX5_countInFurnace 11 = .ok (.istore 4, 2) := by decide +kernel
theorem dX5_countInFurnace_13 : decode cX5_countInFurnace 13 = .ok (.iload 4, 2) := by decide +kernel
theorem dX5_countInFurnace_15 : decode cX5_countInFurnace 15 = .ok (.iload_n 3, 1) := by decide +kernel
theorem dX5_countInFurnace_16 : decode cX5_countInFurnace 16 = .ok (.if_icmp .ge 32, 3) := by decide +kernel
theorem dX5_countInFurnace_19 : decode cX5_countInFurnace 19 = .ok (.aload_n 2, 1) := by decide +kernel
theorem dX5_countInFurnace_20 : decode cX5_countInFurnace 20 = .ok (.iload 4, 2) := by decide +kernel
theorem dX5_countInFurnace_22 : decode cX5_countInFurnace 22 = .ok (.aaload, 1) := by decide +kernel
theorem dX5_countInFurnace_23 : decode cX5_countInFurnace 23 = .ok (.astore 5, 2) := by decide +kernel
theorem dX5_countInFurnace_25 : decode cX5_countInFurnace 25 = .ok (.aload 5, 2) := by decide +kernel
theorem dX5_countInFurnace_27 : decode cX5_countInFurnace 27 = .ok (.ifnull 15, 3) := by decide +kernel
theorem dX5_countInFurnace_30 : decode cX5_countInFurnace 30 = .ok (.aload 5, 2) := by decide +kernel
theorem dX5_countInFurnace_32 : decode cX5_countInFurnace 32 = .ok (.getfield 159, 3) := by decide +kernel
theorem dX5_countInFurnace_35 : decode cX5_countInFurnace 35 = .ok (.iconst (-1), 1) := by decide +kernel
theorem dX5_countInFurnace_36 : decode cX5_countInFurnace 36 = .ok (.if_icmp .eq 6, 3) := by decide +kernel
theorem dX5_countInFurnace_39 : decode cX5_countInFurnace 39 = .ok (.iinc 1 1, 3) := by decide +kernel
theorem dX5_countInFurnace_42 : decode cX5_countInFurnace 42 = .ok (.iinc 4 1, 3) := by decide +kernel
theorem dX5_countInFurnace_45 : decode cX5_countInFurnace 45 = .ok (.goto (-32), 3) := by decide +kernel
theorem dX5_countInFurnace_48 : decode cX5_countInFurnace 48 = .ok (.iload_n 1, 1) := by decide +kernel
theorem dX5_countInFurnace_49 : decode cX5_countInFurnace 49 = .ok (.ireturn, 1) := by decide +kernel
theorem dX5_heatProperty_0 : decode cX5_heatProperty 0 = .ok (.aload_n 0, 1) := by decide +kernel
theorem dX5_heatProperty_1 : decode cX5_heatProperty 1 = .ok (.iload_n 1, 1) := by decide +kernel
theorem dX5_heatProperty_2 : decode cX5_heatProperty 2 = .ok (.invokevirtual 68, 3) := by decide +kernel
theorem dX5_heatProperty_5 : decode cX5_heatProperty 5 = .ok (.astore_n 3, 1) := by decide +kernel
theorem dX5_heatProperty_6 : decode cX5_heatProperty 6 = .ok (.iload_n 2, 1) := by decide +kernel
theorem dX5_heatProperty_7 : decode cX5_heatProperty 7 = .ok (.tableswitch 68 0 5 #[37, 42, 47, 52, 58, 63], 37) := by decide +kernel
theorem dX5_heatProperty_44 : decode cX5_heatProperty 44 = .ok (.aload_n 3, 1) := by decide +kernel
theorem dX5_heatProperty_45 : decode cX5_heatProperty 45 = .ok (.getfield 170, 3) := by decide +kernel
theorem dX5_heatProperty_48 : decode cX5_heatProperty 48 = .ok (.ireturn, 1) := by decide +kernel
theorem dX5_heatProperty_49 : decode cX5_heatProperty 49 = .ok (.aload_n 3, 1) := by decide +kernel
theorem dX5_heatProperty_50 : decode cX5_heatProperty 50 = .ok (.getfield 173, 3) := by decide +kernel
theorem dX5_heatProperty_53 : decode cX5_heatProperty 53 = .ok (.ireturn, 1) := by decide +kernel
theorem dX5_heatProperty_54 : decode cX5_heatProperty 54 = .ok (.aload_n 3, 1) := by decide +kernel
theorem dX5_heatProperty_55 : decode cX5_heatProperty 55 = .ok (.getfield 176, 3) := by decide +kernel
theorem dX5_heatProperty_58 : decode cX5_heatProperty 58 = .ok (.ireturn, 1) := by decide +kernel
theorem dX5_heatProperty_59 : decode cX5_heatProperty 59 = .ok (.aload_n 0, 1) := by decide +kernel
theorem dX5_heatProperty_60 : decode cX5_heatProperty 60 = .ok (.iload_n 1, 1) := by decide +kernel
theorem dX5_heatProperty_61 : decode cX5_heatProperty 61 = .ok (.invokevirtual 179, 3) := by decide +kernel
theorem dX5_heatProperty_64 : decode cX5_heatProperty 64 = .ok (.ireturn, 1) := by decide +kernel
theorem dX5_heatProperty_65 : decode cX5_heatProperty 65 = .ok (.aload_n 3, 1) := by decide +kernel
theorem dX5_heatProperty_66 : decode cX5_heatProperty 66 = .ok (.getfield 169, 3) := by decide +kernel
theorem dX5_heatProperty_69 : decode cX5_heatProperty 69 = .ok (.ireturn, 1) := by decide +kernel
theorem dX5_heatProperty_70 : decode cX5_heatProperty 70 = .ok (.aload_n 3, 1) := by decide +kernel
theorem dX5_heatProperty_71 : decode cX5_heatProperty 71 = .ok (.getfield 162, 3) := by decide +kernel
theorem dX5_heatProperty_74 : decode cX5_heatProperty 74 = .ok (.ireturn, 1) := by decide +kernel
theorem dX5_heatProperty_75 : decode cX5_heatProperty 75 = .ok (.aload_n 0, 1) := by decide +kernel
theorem dX5_heatProperty_76 : decode cX5_heatProperty 76 = .ok (.iload_n 1, 1) := by decide +kernel
theorem dX5_heatProperty_77 : decode cX5_heatProperty 77 = .ok (.invokevirtual 182, 3) := by decide +kernel
theorem dX5_heatProperty_80 : decode cX5_heatProperty 80 = .ok (.ireturn, 1) := by decide +kernel
theorem dX5_countBilletsOf_0 : decode cX5_countBilletsOf 0 = .ok (.iconst 0, 1) := by decide +kernel
theorem dX5_countBilletsOf_1 : decode cX5_countBilletsOf 1 = .ok (.istore_n 2, 1) := by decide +kernel
theorem dX5_countBilletsOf_2 : decode cX5_countBilletsOf 2 = .ok (.iconst 0, 1) := by decide +kernel
theorem dX5_countBilletsOf_3 : decode cX5_countBilletsOf 3 = .ok (.istore_n 3, 1) := by decide +kernel
theorem dX5_countBilletsOf_4 : decode cX5_countBilletsOf 4 = .ok (.iload_n 3, 1) := by decide +kernel
theorem dX5_countBilletsOf_5 : decode cX5_countBilletsOf 5 = .ok (.aload_n 0, 1) := by decide +kernel
theorem dX5_countBilletsOf_6 : decode cX5_countBilletsOf 6 = .ok (.getfield 83, 3) := by decide +kernel
theorem dX5_countBilletsOf_9 : decode cX5_countBilletsOf 9 = .ok (.if_icmp .ge 33, 3) := by decide +kernel
theorem dX5_countBilletsOf_12 : decode cX5_countBilletsOf 12 = .ok (.aload_n 0, 1) := by decide +kernel
theorem dX5_countBilletsOf_13 : decode cX5_countBilletsOf 13 = .ok (.iload_n 3, 1) := by decide +kernel
theorem dX5_countBilletsOf_14 : decode cX5_countBilletsOf 14 = .ok (.invokevirtual 86, 3) := by decide +kernel
theorem dX5_countBilletsOf_17 : decode cX5_countBilletsOf 17 = .ok (.astore 4, 2) := by decide +kernel
theorem dX5_countBilletsOf_19 : decode cX5_countBilletsOf 19 = .ok (.aload 4, 2) := by decide +kernel
theorem dX5_countBilletsOf_21 : decode cX5_countBilletsOf 21 = .ok (.getfield 128, 3) := by decide +kernel
theorem dX5_countBilletsOf_24 : decode cX5_countBilletsOf 24 = .ok (.iload_n 1, 1) := by decide +kernel
theorem dX5_countBilletsOf_25 : decode cX5_countBilletsOf 25 = .ok (.if_icmp .ne 11, 3) := by decide +kernel
theorem dX5_countBilletsOf_28 : decode cX5_countBilletsOf 28 = .ok (.iload_n 2, 1) := by decide +kernel
theorem dX5_countBilletsOf_29 : decode cX5_countBilletsOf 29 = .ok (.aload 4, 2) := by decide +kernel
theorem dX5_countBilletsOf_31 : decode cX5_countBilletsOf 31 = .ok (.getfield 144, 3) := by decide +kernel
theorem dX5_countBilletsOf_34 : decode cX5_countBilletsOf 34 = .ok (.iadd, 1) := by decide +kernel
theorem dX5_countBilletsOf_35 : decode cX5_countBilletsOf 35 = .ok (.istore_n 2, 1) := by decide +kernel
theorem dX5_countBilletsOf_36 : decode cX5_countBilletsOf 36 = .ok (.iinc 3 1, 3) := by decide +kernel
theorem dX5_countBilletsOf_39 : decode cX5_countBilletsOf 39 = .ok (.goto (-35), 3) := by decide +kernel
theorem dX5_countBilletsOf_42 : decode cX5_countBilletsOf 42 = .ok (.iload_n 2, 1) := by decide +kernel
theorem dX5_countBilletsOf_43 : decode cX5_countBilletsOf 43 = .ok (.ireturn, 1) := by decide +kernel
theorem dX5_countLackOf_0 : decode cX5_countLackOf 0 = .ok (.iconst 0, 1) := by decide +kernel
theorem dX5_countLackOf_1 : decode cX5_countLackOf 1 = .ok (.istore_n 2, 1) := by decide +kernel
theorem dX5_countLackOf_2 : decode cX5_countLackOf 2 = .ok (.iconst 0, 1) := by decide +kernel
theorem dX5_countLackOf_3 : decode cX5_countLackOf 3 = .ok (.istore_n 3, 1) := by decide +kernel
theorem dX5_countLackOf_4 : decode cX5_countLackOf 4 = .ok (.iload_n 3, 1) := by decide +kernel
theorem dX5_countLackOf_5 : decode cX5_countLackOf 5 = .ok (.aload_n 0, 1) := by decide +kernel
theorem dX5_countLackOf_6 : decode cX5_countLackOf 6 = .ok (.getfield 83, 3) := by decide +kernel
theorem dX5_countLackOf_9 : decode cX5_countLackOf 9 = .ok (.if_icmp .ge 33, 3) := by decide +kernel
theorem dX5_countLackOf_12 : decode cX5_countLackOf 12 = .ok (.aload_n 0, 1) := by decide +kernel
theorem dX5_countLackOf_13 : decode cX5_countLackOf 13 = .ok (.iload_n 3, 1) := by decide +kernel
theorem dX5_countLackOf_14 : decode cX5_countLackOf 14 = .ok (.invokevirtual 86, 3) := by decide +kernel
theorem dX5_countLackOf_17 : decode cX5_countLackOf 17 = .ok (.astore 4, 2) := by decide +kernel
theorem dX5_countLackOf_19 : decode cX5_countLackOf 19 = .ok (.aload 4, 2) := by decide +kernel
theorem dX5_countLackOf_21 : decode cX5_countLackOf 21 = .ok (.getfield 128, 3) := by decide +kernel
theorem dX5_countLackOf_24 : decode cX5_countLackOf 24 = .ok (.iload_n 1, 1) := by decide +kernel
theorem dX5_countLackOf_25 : decode cX5_countLackOf 25 = .ok (.if_icmp .ne 11, 3) := by decide +kernel
theorem dX5_countLackOf_28 : decode cX5_countLackOf 28 = .ok (.iload_n 2, 1) := by decide +kernel
theorem dX5_countLackOf_29 : decode cX5_countLackOf 29 = .ok (.aload 4, 2) := by decide +kernel
theorem dX5_countLackOf_31 : decode cX5_countLackOf 31 = .ok (.invokevirtual 185, 3) := by decide +kernel
theorem dX5_countLackOf_34 : decode cX5_countLackOf 34 = .ok (.iadd, 1) := by decide +kernel
theorem dX5_countLackOf_35 : decode cX5_countLackOf 35 = .ok (.istore_n 2, 1) := by decide +kernel
theorem dX5_countLackOf_36 : decode cX5_countLackOf 36 = .ok (.iinc 3 1, 3) := by decide +kernel
theorem dX5_countLackOf_39 : decode cX5_countLackOf 39 = .ok (.goto (-35), 3) := by decide +kernel
theorem dX5_countLackOf_42 : decode cX5_countLackOf 42 = .ok (.iload_n 2, 1) := by decide +kernel
theorem dX5_countLackOf_43 : decode cX5_countLackOf 43 = .ok (.ireturn, 1) := by decide +kernel
theorem dX5_jobProperty_0 : decode cX5_jobProperty 0 = .ok (.aload_n 0, 1) := by decide +kernel
theorem dX5_jobProperty_1 : decode cX5_jobProperty 1 = .ok (.iload_n 1, 1) := by decide +kernel
theorem dX5_jobProperty_2 : decode cX5_jobProperty 2 = .ok (.invokevirtual 86, 3) := by decide +kernel
theorem dX5_jobProperty_5 : decode cX5_jobProperty 5 = .ok (.astore_n 3, 1) := by decide +kernel
theorem dX5_jobProperty_6 : decode cX5_jobProperty 6 = .ok (.iload_n 2, 1) := by decide +kernel
theorem dX5_jobProperty_7 : decode cX5_jobProperty 7 = .ok (.tableswitch 84 0 6 #[41, 46, 51, 56, 61, 66, 71], 41) := by decide +kernel
theorem dX5_jobProperty_48 : decode cX5_jobProperty 48 = .ok (.aload_n 3, 1) := by decide +kernel
theorem dX5_jobProperty_49 : decode cX5_jobProperty 49 = .ok (.getfield 122, 3) := by decide +kernel
theorem dX5_jobProperty_52 : decode cX5_jobProperty 52 = .ok (.ireturn, 1) := by decide +kernel
theorem dX5_jobProperty_53 : decode cX5_jobProperty 53 = .ok (.aload_n 3, 1) := by decide +kernel
theorem dX5_jobProperty_54 : decode cX5_jobProperty 54 = .ok (.getfield 125, 3) := by decide +kernel
theorem dX5_jobProperty_57 : decode cX5_jobProperty 57 = .ok (.ireturn, 1) := by decide +kernel
theorem dX5_jobProperty_58 : decode cX5_jobProperty 58 = .ok (.aload_n 3, 1) := by decide +kernel
theorem dX5_jobProperty_59 : decode cX5_jobProperty 59 = .ok (.getfield 128, 3) := by decide +kernel
theorem dX5_jobProperty_62 : decode cX5_jobProperty 62 = .ok (.ireturn, 1) := by decide +kernel
theorem dX5_jobProperty_63 : decode cX5_jobProperty 63 = .ok (.aload_n 3, 1) := by decide +kernel
theorem dX5_jobProperty_64 : decode cX5_jobProperty 64 = .ok (.getfield 131, 3) := by decide +kernel
theorem dX5_jobProperty_67 : decode cX5_jobProperty 67 = .ok (.ireturn, 1) := by decide +kernel
theorem dX5_jobProperty_68 : decode cX5_jobProperty 68 = .ok (.aload_n 3, 1) := by decide +kernel
theorem dX5_jobProperty_69 : decode cX5_jobProperty 69 = .ok (.getfield 134, 3) := by decide +kernel
theorem dX5_jobProperty_72 : decode cX5_jobProperty 72 = .ok (.ireturn, 1) := by decide +kernel
theorem dX5_jobProperty_73 : decode cX5_jobProperty 73 = .ok (.aload_n 3, 1) := by decide +kernel
theorem dX5_jobProperty_74 : decode cX5_jobProperty 74 = .ok (.getfield 137, 3) := by decide +kernel
theorem dX5_jobProperty_77 : decode cX5_jobProperty 77 = .ok (.ireturn, 1) := by decide +kernel
theorem dX5_jobProperty_78 : decode cX5_jobProperty 78 = .ok (.aload_n 3, 1) := by decide +kernel
theorem dX5_jobProperty_79 : decode cX5_jobProperty 79 = .ok (.getfield 140, 3) := by decide +kernel
theorem dX5_jobProperty_82 : decode cX5_jobProperty 82 = .ok (.ifCond .eq 7, 3) := by decide +kernel
theorem dX5_jobProperty_85 : decode cX5_jobProperty 85 = .ok (.iconst 1, 1) := by decide +kernel
theorem dX5_jobProperty_86 : decode cX5_jobProperty 86 = .ok (.goto 4, 3) := by decide +kernel
theorem dX5_jobProperty_89 : decode cX5_jobProperty 89 = .ok (.iconst 0, 1) := by decide +kernel
theorem dX5_jobProperty_90 : decode cX5_jobProperty 90 = .ok (.ireturn, 1) := by decide +kernel
theorem dX5_jobProperty_91 : decode cX5_jobProperty 91 = .ok (.aload_n 0, 1) := by decide +kernel
theorem dX5_jobProperty_92 : decode cX5_jobProperty 92 = .ok (.aload_n 3, 1) := by decide +kernel
theorem dX5_jobProperty_93 : decode cX5_jobProperty 93 = .ok (.invokevirtual 189, 3) := by decide +kernel
theorem dX5_jobProperty_96 : decode cX5_jobProperty 96 = .ok (.ireturn, 1) := by decide +kernel
theorem dX5_reasonToWait_0 : decode cX5_reasonToWait 0 = .ok (.aload_n 0, 1) := by decide +kernel
theorem dX5_reasonToWait_1 : decode cX5_reasonToWait 1 = .ok (.aload_n 1, 1) := by decide +kernel
theorem dX5_reasonToWait_2 : decode cX5_reasonToWait 2 = .ok (.getfield 125, 3) := by decide +kernel
theorem dX5_reasonToWait_5 : decode cX5_reasonToWait 5 = .ok (.invokevirtual 76, 3) := by decide +kernel
theorem dX5_reasonToWait_8 : decode cX5_reasonToWait 8 = .ok (.astore_n 2, 1) := by decide +kernel
theorem dX5_reasonToWait_9 : decode cX5_reasonToWait 9 = .ok (.aload_n 0, 1) := by decide +kernel
theorem dX5_reasonToWait_10 : decode cX5_reasonToWait 10 = .ok (.getfield 52, 3) := by decide +kernel
theorem dX5_reasonToWait_13 : decode cX5_reasonToWait 13 = .ok (.getfield 159, 3) := by decide +kernel
theorem dX5_reasonToWait_16 : decode cX5_reasonToWait 16 = .ok (.aload_n 1, 1) := by decide +kernel
theorem dX5_reasonToWait_17 : decode cX5_reasonToWait 17 = .ok (.getfield 122, 3) := by decide +kernel
theorem dX5_reasonToWait_20 : decode cX5_reasonToWait 20 = .ok (.if_icmp .ne 5, 3) := by decide +kernel
theorem dX5_reasonToWait_23 : decode cX5_reasonToWait 23 = .ok (.iconst 0, 1) := by decide +kernel
theorem dX5_reasonToWait_24 : decode cX5_reasonToWait 24 = .ok (.ireturn, 1) := by decide +kernel
theorem dX5_reasonToWait_25 : decode cX5_reasonToWait 25 = .ok (.aload_n 2, 1) := by decide +kernel
theorem dX5_reasonToWait_26 : decode cX5_reasonToWait 26 = .ok (.invokevirtual 193, 3) := by decide +kernel
theorem dX5_reasonToWait_29 : decode cX5_reasonToWait 29 = .ok (.ifCond .eq 5, 3) := by decide +kernel
theorem dX5_reasonToWait_32 : decode cX5_reasonToWait 32 = .ok (.iconst 1, 1) := by decide +kernel
theorem dX5_reasonToWait_33 : decode cX5_reasonToWait 33 = .ok (.ireturn, 1) := by decide +kernel
theorem dX5_reasonToWait_34 : decode cX5_reasonToWait 34 = .ok (.aload_n 2, 1) := by decide +kernel
theorem dX5_reasonToWait_35 : decode cX5_reasonToWait 35 = .ok (.invokevirtual 197, 3) := by decide +kernel
theorem dX5_reasonToWait_38 : decode cX5_reasonToWait 38 = .ok (.ifCond .eq 5, 3) := by decide +kernel
theorem dX5_reasonToWait_41 : decode cX5_reasonToWait 41 = .ok (.iconst 2, 1) := by decide +kernel
theorem dX5_reasonToWait_42 : decode cX5_reasonToWait 42 = .ok (.ireturn, 1) := by decide +kernel
theorem dX5_reasonToWait_43 : decode cX5_reasonToWait 43 = .ok (.aload_n 1, 1) := by decide +kernel
theorem dX5_reasonToWait_44 : decode cX5_reasonToWait 44 = .ok (.getfield 144, 3) := by decide +kernel
theorem dX5_reasonToWait_47 : decode cX5_reasonToWait 47 = .ok (.ifCond .ne 19, 3) := by decide +kernel
theorem dX5_reasonToWait_50 : decode cX5_reasonToWait 50 = .ok (.aload_n 0, 1) := by decide +kernel
theorem dX5_reasonToWait_51 : decode cX5_reasonToWait 51 = .ok (.aload_n 1, 1) := by decide +kernel
theorem dX5_reasonToWait_52 : decode cX5_reasonToWait 52 = .ok (.getfield 128, 3) := by decide +kernel
theorem dX5_reasonToWait_55 : decode cX5_reasonToWait 55 = .ok (.invokevirtual 68, 3) := by decide +kernel
theorem dX5_reasonToWait_58 : decode cX5_reasonToWait 58 = .ok (.getfield 170, 3) := by decide +kernel
theorem dX5_reasonToWait_61 : decode cX5_reasonToWait 61 = .ok (.ifCond .ne 5, 3) := by decide +kernel
theorem dX5_reasonToWait_64 : decode cX5_reasonToWait 64 = .ok (.iconst 3, 1) := by decide +kernel
theorem dX5_reasonToWait_65 : decode cX5_reasonToWait 65 = .ok (.ireturn, 1) := by decide +kernel
theorem dX5_reasonToWait_66 : decode cX5_reasonToWait 66 = .ok (.aload_n 0, 1) := by decide +kernel
theorem dX5_reasonToWait_67 : decode cX5_reasonToWait 67 = .ok (.aload_n 1, 1) := by decide +kernel
theorem dX5_reasonToWait_68 : decode cX5_reasonToWait 68 = .ok (.invokevirtual 200, 3) := by decide +kernel
theorem dX5_reasonToWait_71 : decode cX5_reasonToWait 71 = .ok (.ifnonnull 5, 3) := by decide +kernel
theorem dX5_reasonToWait_74 : decode cX5_reasonToWait 74 = .ok (.iconst 4, 1) := by decide +kernel
theorem dX5_reasonToWait_75 : decode cX5_reasonToWait 75 = .ok (.ireturn, 1) := by decide +kernel
theorem dX5_reasonToWait_76 : decode cX5_reasonToWait 76 = .ok (.aload_n 0, 1) := by decide +kernel
theorem dX5_reasonToWait_77 : decode cX5_reasonToWait 77 = .ok (.getfield 52, 3) := by decide +kernel
theorem dX5_reasonToWait_80 : decode cX5_reasonToWait 80 = .ok (.getfield 159, 3) := by decide +kernel
theorem dX5_reasonToWait_83 : decode cX5_reasonToWait 83 = .ok (.iconst (-1), 1) := by decide +kernel
theorem dX5_reasonToWait_84 : decode cX5_reasonToWait 84 = .ok (.if_icmp .eq 7, 3) := by decide +kernel
theorem dX5_reasonToWait_87 : decode cX5_reasonToWait 87 = .ok (.iconst 5, 1) := by decide +kernel
theorem dX5_reasonToWait_88 : decode cX5_reasonToWait 88 = .ok (.goto 5, 3) := by decide +kernel
theorem dX5_reasonToWait_91 : decode cX5_reasonToWait 91 = .ok (.bipush 6, 2) := by decide +kernel
theorem dX5_reasonToWait_93 : decode cX5_reasonToWait 93 = .ok (.ireturn, 1) := by decide +kernel
theorem dX5_dieBeingGround_0 : decode cX5_dieBeingGround 0 = .ok (.iconst 0, 1) := by decide +kernel
theorem dX5_dieBeingGround_1 : decode cX5_dieBeingGround 1 = .ok (.istore_n 1, 1) := by decide +kernel
theorem dX5_dieBeingGround_2 : decode cX5_dieBeingGround 2 = .ok (.iload_n 1, 1) := by decide +kernel
theorem dX5_dieBeingGround_3 : decode cX5_dieBeingGround 3 = .ok (.iconst 5, 1) := by decide +kernel
theorem dX5_dieBeingGround_4 : decode cX5_dieBeingGround 4 = .ok (.if_icmp .ge 22, 3) := by decide +kernel
theorem dX5_dieBeingGround_7 : decode cX5_dieBeingGround 7 = .ok (.aload_n 0, 1) := by decide +kernel
theorem dX5_dieBeingGround_8 : decode cX5_dieBeingGround 8 = .ok (.iload_n 1, 1) := by decide +kernel
theorem dX5_dieBeingGround_9 : decode cX5_dieBeingGround 9 = .ok (.invokevirtual 76, 3) := by decide +kernel
theorem dX5_dieBeingGround_12 : decode cX5_dieBeingGround 12 = .ok (.invokevirtual 193, 3) := by decide +kernel
theorem dX5_dieBeingGround_15 : decode cX5_dieBeingGround 15 = .ok (.ifCond .eq 5, 3) := by decide +kernel
theorem dX5_dieBeingGround_18 : decode cX5_dieBeingGround 18 = .ok (.iload_n 1, 1) := by decide +kernel
theorem dX5_dieBeingGround_19 : decode cX5_dieBeingGround 19 = .ok (.ireturn, 1) := by decide +kernel
theorem dX5_dieBeingGround_20 : decode cX5_dieBeingGround 20 = .ok (.iinc 1 1, 3) := by decide +kernel
theorem dX5_dieBeingGround_23 : decode cX5_dieBeingGround 23 = .ok (.goto (-21), 3) := by decide +kernel
theorem dX5_dieBeingGround_26 : decode cX5_dieBeingGround 26 = .ok (.iconst (-1), 1) := by decide +kernel
theorem dX5_dieBeingGround_27 : decode cX5_dieBeingGround 27 = .ok (.ireturn, 1) := by decide +kernel
theorem dX5_freePlace_0 : decode cX5_freePlace 0 = .ok (.aload_n 0, 1) := by decide +kernel
theorem dX5_freePlace_1 : decode cX5_freePlace 1 = .ok (.getfield 47, 3) := by decide +kernel
theorem dX5_freePlace_4 : decode cX5_freePlace 4 = .ok (.astore_n 1, 1) := by decide +kernel
theorem dX5_freePlace_5 : decode cX5_freePlace 5 = .ok (.aload_n 1, 1) := by decide +kernel
theorem dX5_freePlace_6 : decode cX5_freePlace 6 = .ok (.arraylength, 1) := by decide +kernel
theorem dX5_freePlace_7 : decode cX5_freePlace 7 = .ok (.istore_n 2, 1) := by decide +kernel
theorem dX5_freePlace_8 : decode cX5_freePlace 8 = .ok (.iconst 0, 1) := by decide +kernel
theorem dX5_freePlace_9 : decode cX5_freePlace 9 = .ok (.istore_n 3, 1) := by decide +kernel
theorem dX5_freePlace_10 : decode cX5_freePlace 10 = .ok (.iload_n 3, 1) := by decide +kernel
theorem dX5_freePlace_11 : decode cX5_freePlace 11 = .ok (.iload_n 2, 1) := by decide +kernel
theorem dX5_freePlace_12 : decode cX5_freePlace 12 = .ok (.if_icmp .ge 31, 3) := by decide +kernel
theorem dX5_freePlace_15 : decode cX5_freePlace 15 = .ok (.aload_n 1, 1) := by decide +kernel
theorem dX5_freePlace_16 : decode cX5_freePlace 16 = .ok (.iload_n 3, 1) := by decide +kernel
theorem dX5_freePlace_17 : decode cX5_freePlace 17 = .ok (.aaload, 1) := by decide +kernel
theorem dX5_freePlace_18 : decode cX5_freePlace 18 = .ok (.astore 4, 2) := by decide +kernel
theorem dX5_freePlace_20 : decode cX5_freePlace 20 = .ok (.aload 4, 2) := by decide +kernel
theorem dX5_freePlace_22 : decode cX5_freePlace 22 = .ok (.ifnull 15, 3) := by decide +kernel
theorem dX5_freePlace_25 : decode cX5_freePlace 25 = .ok (.aload 4, 2) := by decide +kernel
theorem dX5_freePlace_27 : decode cX5_freePlace 27 = .ok (.getfield 159, 3) := by decide +kernel
theorem dX5_freePlace_30 : decode cX5_freePlace 30 = .ok (.iconst (-1), 1) := by decide +kernel
theorem dX5_freePlace_31 : decode cX5_freePlace 31 = .ok (.if_icmp .ne 6, 3) := by decide +kernel
theorem dX5_freePlace_34 : decode cX5_freePlace 34 = .ok (.aload 4, 2) := by decide +kernel
theorem dX5_freePlace_36 : decode cX5_freePlace 36 = .ok (.areturn, 1) := by decide +kernel
theorem dX5_freePlace_37 : decode cX5_freePlace 37 = .ok (.iinc 3 1, 3) := by decide +kernel
theorem dX5_freePlace_40 : decode cX5_freePlace 40 = .ok (.goto (-30), 3) := by decide +kernel
theorem dX5_freePlace_43 : decode cX5_freePlace 43 = .ok (.aconst_null, 1) := by decide +kernel
theorem dX5_freePlace_44 : decode cX5_freePlace 44 = .ok (.areturn, 1) := by decide +kernel
theorem dX5_hottestReady_0 : decode cX5_hottestReady 0 = .ok (.aload_n 0, 1) := by decide +kernel
theorem dX5_hottestReady_1 : decode cX5_hottestReady 1 = .ok (.aload_n 1, 1) := by decide +kernel
theorem dX5_hottestReady_2 : decode cX5_hottestReady 2 = .ok (.getfield 128, 3) := by decide +kernel
theorem dX5_hottestReady_5 : decode cX5_hottestReady 5 = .ok (.invokevirtual 68, 3) := by decide +kernel
theorem dX5_hottestReady_8 : decode cX5_hottestReady 8 = .ok (.getfield 176, 3) := by decide +kernel
theorem dX5_hottestReady_11 : decode cX5_hottestReady 11 = .ok (.istore_n 2, 1) := by decide +kernel
theorem dX5_hottestReady_12 : decode cX5_hottestReady 12 = .ok (.aconst_null, 1) := by decide +kernel
theorem dX5_hottestReady_13 : decode cX5_hottestReady 13 = .ok (.astore_n 3, 1) := by decide +kernel
theorem dX5_hottestReady_14 : decode cX5_hottestReady 14 = .ok (.aload_n 0, 1) := by decide +kernel
theorem dX5_hottestReady_15 : decode cX5_hottestReady 15 = .ok (.getfield 47, 3) := by decide +kernel
theorem dX5_hottestReady_18 : decode cX5_hottestReady 18 = .ok (.astore 4, 2) := by decide +kernel
theorem dX5_hottestReady_20 : decode cX5_hottestReady 20 = .ok (.aload 4, 2) := by decide +kernel
theorem dX5_hottestReady_22 : decode cX5_hottestReady 22 = .ok (.arraylength, 1) := by decide +kernel
theorem dX5_hottestReady_23 : decode cX5_hottestReady 23 = .ok (.istore 5, 2) := by decide +kernel
theorem dX5_hottestReady_25 : decode cX5_hottestReady 25 = .ok (.iconst 0, 1) := by decide +kernel
theorem dX5_hottestReady_26 : decode cX5_hottestReady 26 = .ok (.istore 6, 2) := by decide +kernel
theorem dX5_hottestReady_28 : decode cX5_hottestReady 28 = .ok (.iload 6, 2) := by decide +kernel
theorem dX5_hottestReady_30 : decode cX5_hottestReady 30 = .ok (.iload 5, 2) := by decide +kernel
theorem dX5_hottestReady_32 : decode cX5_hottestReady 32 = .ok (.if_icmp .ge 53, 3) := by decide +kernel
theorem dX5_hottestReady_35 : decode cX5_hottestReady 35 = .ok (.aload 4, 2) := by decide +kernel
theorem dX5_hottestReady_37 : decode cX5_hottestReady 37 = .ok (.iload 6, 2) := by decide +kernel
theorem dX5_hottestReady_39 : decode cX5_hottestReady 39 = .ok (.aaload, 1) := by decide +kernel
theorem dX5_hottestReady_40 : decode cX5_hottestReady 40 = .ok (.astore 7, 2) := by decide +kernel
theorem dX5_hottestReady_42 : decode cX5_hottestReady 42 = .ok (.aload 7, 2) := by decide +kernel
theorem dX5_hottestReady_44 : decode cX5_hottestReady 44 = .ok (.ifnull 35, 3) := by decide +kernel
theorem dX5_hottestReady_47 : decode cX5_hottestReady 47 = .ok (.aload 7, 2) := by decide +kernel
theorem dX5_hottestReady_49 : decode cX5_hottestReady 49 = .ok (.getfield 159, 3) := by decide +kernel
theorem dX5_hottestReady_52 : decode cX5_hottestReady 52 = .ok (.aload_n 1, 1) := by decide +kernel
theorem dX5_hottestReady_53 : decode cX5_hottestReady 53 = .ok (.getfield 122, 3) := by decide +kernel
theorem dX5_hottestReady_56 : decode cX5_hottestReady 56 = .ok (.if_icmp .ne 23, 3) := by decide +kernel
theorem dX5_hottestReady_59 : decode cX5_hottestReady 59 = .ok (.aload 7, 2) := by decide +kernel
theorem dX5_hottestReady_61 : decode cX5_hottestReady 61 = .ok (.getfield 204, 3) := by decide +kernel
theorem dX5_hottestReady_64 : decode cX5_hottestReady 64 = .ok (.iload_n 2, 1) := by decide +kernel
theorem dX5_hottestReady_65 : decode cX5_hottestReady 65 = .ok (.if_icmp .lt 14, 3) := by decide +kernel
theorem dX5_hottestReady_68 : decode cX5_hottestReady 68 = .ok (.aload 7, 2) := by decide +kernel
theorem dX5_hottestReady_70 : decode cX5_hottestReady 70 = .ok (.astore_n 3, 1) := by decide +kernel
theorem dX5_hottestReady_71 : decode cX5_hottestReady 71 = .ok (.aload 7, 2) := by decide +kernel
theorem dX5_hottestReady_73 : decode cX5_hottestReady 73 = .ok (.getfield 204, 3) := by decide +kernel
theorem dX5_hottestReady_76 : decode cX5_hottestReady 76 = .ok (.iconst 1, 1) := by decide +kernel
theorem dX5_hottestReady_77 : decode cX5_hottestReady 77 = .ok (.iadd, 1) := by decide +kernel
theorem dX5_hottestReady_78 : decode cX5_hottestReady 78 = .ok (.istore_n 2, 1) := by decide +kernel
theorem dX5_hottestReady_79 : decode cX5_hottestReady 79 = .ok (.iinc 6 1, 3) := by decide +kernel
theorem dX5_hottestReady_82 : decode cX5_hottestReady 82 = .ok (.goto (-54), 3) := by decide +kernel
theorem dX5_hottestReady_85 : decode cX5_hottestReady 85 = .ok (.aload_n 3, 1) := by decide +kernel
theorem dX5_hottestReady_86 : decode cX5_hottestReady 86 = .ok (.areturn, 1) := by decide +kernel
theorem dX5_passMinutes_0 : decode cX5_passMinutes 0 = .ok (.iconst 0, 1) := by decide +kernel
theorem dX5_passMinutes_1 : decode cX5_passMinutes 1 = .ok (.istore_n 2, 1) := by decide +kernel
theorem dX5_passMinutes_2 : decode cX5_passMinutes 2 = .ok (.iload_n 2, 1) := by decide +kernel
theorem dX5_passMinutes_3 : decode cX5_passMinutes 3 = .ok (.iload_n 1, 1) := by decide +kernel
theorem dX5_passMinutes_4 : decode cX5_passMinutes 4 = .ok (.if_icmp .ge 13, 3) := by decide +kernel
theorem dX5_passMinutes_7 : decode cX5_passMinutes 7 = .ok (.aload_n 0, 1) := by decide +kernel
theorem dX5_passMinutes_8 : decode cX5_passMinutes 8 = .ok (.invokevirtual 207, 3) := by decide +kernel
theorem dX5_passMinutes_11 : decode cX5_passMinutes 11 = .ok (.iinc 2 1, 3) := by decide +kernel
theorem dX5_passMinutes_14 : decode cX5_passMinutes 14 = .ok (.goto (-12), 3) := by decide +kernel
theorem dX5_passMinutes_17 : decode cX5_passMinutes 17 = .ok (.return_, 1) := by decide +kernel
theorem dX5_passMinute_0 : decode cX5_passMinute 0 = .ok (.aload_n 0, 1) := by decide +kernel
theorem dX5_passMinute_1 : decode cX5_passMinute 1 = .ok (.dup, 1) := by decide +kernel
theorem dX5_passMinute_2 : decode cX5_passMinute 2 = .ok (.getfield 107, 3) := by decide +kernel
theorem dX5_passMinute_5 : decode cX5_passMinute 5 = .ok (.iconst 1, 1) := by decide +kernel
theorem dX5_passMinute_6 : decode cX5_passMinute 6 = .ok (.iadd, 1) := by decide +kernel
theorem dX5_passMinute_7 : decode cX5_passMinute 7 = .ok (.putfield 107, 3) := by decide +kernel
theorem dX5_passMinute_10 : decode cX5_passMinute 10 = .ok (.aload_n 0, 1) := by decide +kernel
theorem dX5_passMinute_11 : decode cX5_passMinute 11 = .ok (.invokevirtual 210, 3) := by decide +kernel
theorem dX5_passMinute_14 : decode cX5_passMinute 14 = .ok (.aload_n 0, 1) := by decide +kernel
theorem dX5_passMinute_15 : decode cX5_passMinute 15 = .ok (.invokevirtual 213, 3) := by decide +kernel
theorem dX5_passMinute_18 : decode cX5_passMinute 18 = .ok (.aload_n 0, 1) := by decide +kernel
theorem dX5_passMinute_19 : decode cX5_passMinute 19 = .ok (.getfield 52, 3) := by decide +kernel
theorem dX5_passMinute_22 : decode cX5_passMinute 22 = .ok (.getfield 159, 3) := by decide +kernel
theorem dX5_passMinute_25 : decode cX5_passMinute 25 = .ok (.iconst (-1), 1) := by decide +kernel
theorem dX5_passMinute_26 : decode cX5_passMinute 26 = .ok (.if_icmp .ne 10, 3) := by decide +kernel
theorem dX5_passMinute_29 : decode cX5_passMinute 29 = .ok (.aload_n 0, 1) := by decide +kernel
theorem dX5_passMinute_30 : decode cX5_passMinute 30 = .ok (.invokevirtual 216, 3) := by decide +kernel
theorem dX5_passMinute_33 : decode cX5_passMinute 33 = .ok (.goto 18, 3) := by decide +kernel
theorem dX5_passMinute_36 : decode cX5_passMinute 36 = .ok (.aload_n 0, 1) := by decide +kernel
theorem dX5_passMinute_37 : decode cX5_passMinute 37 = .ok (.aload_n 0, 1) := by decide +kernel
theorem dX5_passMinute_38 : decode cX5_passMinute 38 = .ok (.aload_n 0, 1) := by decide +kernel
theorem dX5_passMinute_39 : decode cX5_passMinute 39 = .ok (.getfield 52, 3) := by decide +kernel
theorem dX5_passMinute_42 : decode cX5_passMinute 42 = .ok (.getfield 159, 3) := by decide +kernel
theorem dX5_passMinute_45 : decode cX5_passMinute 45 = .ok (.invokevirtual 219, 3) := by decide +kernel
theorem dX5_passMinute_48 : decode cX5_passMinute 48 = .ok (.invokevirtual 222, 3) := by decide +kernel
theorem dX5_passMinute_51 : decode cX5_passMinute 51 = .ok (.aload_n 0, 1) := by decide +kernel
theorem dX5_passMinute_52 : decode cX5_passMinute 52 = .ok (.invokevirtual 225, 3) := by decide +kernel
theorem dX5_passMinute_55 : decode cX5_passMinute 55 = .ok (.return_, 1) := by decide +kernel
theorem dX5_warmFurnace_0 : decode cX5_warmFurnace 0 = .ok (.aload_n 0, 1) := by decide +kernel
theorem dX5_warmFurnace_1 : decode cX5_warmFurnace 1 = .ok (.getfield 47, 3) := by decide +kernel
theorem dX5_warmFurnace_4 : decode cX5_warmFurnace 4 = .ok (.astore_n 1, 1) := by decide +kernel
theorem dX5_warmFurnace_5 : decode cX5_warmFurnace 5 = .ok (.aload_n 1, 1) := by decide +kernel
theorem dX5_warmFurnace_6 : decode cX5_warmFurnace 6 = .ok (.arraylength, 1) := by decide +kernel
theorem dX5_warmFurnace_7 : decode cX5_warmFurnace 7 = .ok (.istore_n 2, 1) := by decide +kernel
theorem dX5_warmFurnace_8 : decode cX5_warmFurnace 8 = .ok (.iconst 0, 1) := by decide +kernel
theorem dX5_warmFurnace_9 : decode cX5_warmFurnace 9 = .ok (.istore_n 3, 1) := by decide +kernel
theorem dX5_warmFurnace_10 : decode cX5_warmFurnace 10 = .ok (.iload_n 3, 1) := by decide +kernel
theorem dX5_warmFurnace_11 : decode cX5_warmFurnace 11 = .ok (.iload_n 2, 1) := by decide +kernel
theorem dX5_warmFurnace_12 : decode cX5_warmFurnace 12 = .ok (.if_icmp .ge 49, 3) := by decide +kernel
theorem dX5_warmFurnace_15 : decode cX5_warmFurnace 15 = .ok (.aload_n 1, 1) := by decide +kernel
theorem dX5_warmFurnace_16 : decode cX5_warmFurnace 16 = .ok (.iload_n 3, 1) := by decide +kernel
theorem dX5_warmFurnace_17 : decode cX5_warmFurnace 17 = .ok (.aaload, 1) := by decide +kernel
theorem dX5_warmFurnace_18 : decode cX5_warmFurnace 18 = .ok (.astore 4, 2) := by decide +kernel
theorem dX5_warmFurnace_20 : decode cX5_warmFurnace 20 = .ok (.aload 4, 2) := by decide +kernel
theorem dX5_warmFurnace_22 : decode cX5_warmFurnace 22 = .ok (.ifnull 33, 3) := by decide +kernel
theorem dX5_warmFurnace_25 : decode cX5_warmFurnace 25 = .ok (.aload 4, 2) := by decide +kernel
theorem dX5_warmFurnace_27 : decode cX5_warmFurnace 27 = .ok (.getfield 159, 3) := by decide +kernel
theorem dX5_warmFurnace_30 : decode cX5_warmFurnace 30 = .ok (.iconst (-1), 1) := by decide +kernel
theorem dX5_warmFurnace_31 : decode cX5_warmFurnace 31 = .ok (.if_icmp .eq 24, 3) := by decide +kernel
theorem dX5_warmFurnace_34 : decode cX5_warmFurnace 34 = .ok (.aload 4, 2) := by decide +kernel
theorem dX5_warmFurnace_36 : decode cX5_warmFurnace 36 = .ok (.sipush 1250, 3) := by decide +kernel
theorem dX5_warmFurnace_39 : decode cX5_warmFurnace 39 = .ok (.aload 4, 2) := by decide +kernel
theorem dX5_warmFurnace_41 : decode cX5_warmFurnace 41 = .ok (.getfield 204, 3) := by decide +kernel
theorem dX5_warmFurnace_44 : decode cX5_warmFurnace 44 = .ok (.aload_n 0, 1) := by decide +kernel
theorem dX5_warmFurnace_45 : decode cX5_warmFurnace 45 = .ok (.getfield 9, 3) := by decide +kernel
theorem dX5_warmFurnace_48 : decode cX5_warmFurnace 48 = .ok (.iadd, 1) := by decide +kernel
theorem dX5_warmFurnace_49 : decode cX5_warmFurnace 49 = .ok (.invokestatic 228, 3) := by decide +kernel
theorem dX5_warmFurnace_52 : decode cX5_warmFurnace 52 = .ok (.putfield 204, 3) := by decide +kernel
theorem dX5_warmFurnace_55 : decode cX5_warmFurnace 55 = .ok (.iinc 3 1, 3) := by decide +kernel
theorem dX5_warmFurnace_58 : decode cX5_warmFurnace 58 = .ok (.goto (-48), 3) := by decide +kernel
theorem dX5_warmFurnace_61 : decode cX5_warmFurnace 61 = .ok (.return_, 1) := by decide +kernel
theorem dX5_chargeFurnace_0 : decode cX5_chargeFurnace 0 = .ok (.aload_n 0, 1) := by decide +kernel
theorem dX5_chargeFurnace_1 : decode cX5_chargeFurnace 1 = .ok (.invokevirtual 234, 3) := by decide +kernel
theorem dX5_chargeFurnace_4 : decode cX5_chargeFurnace 4 = .ok (.astore_n 1, 1) := by decide +kernel
theorem dX5_chargeFurnace_5 : decode cX5_chargeFurnace 5 = .ok (.aload_n 1, 1) := by decide +kernel
theorem dX5_chargeFurnace_6 : decode cX5_chargeFurnace 6 = .ok (.ifnonnull 4, 3) := by decide +kernel
theorem dX5_chargeFurnace_9 : decode cX5_chargeFurnace 9 = .ok (.return_, 1) := by decide +kernel
theorem dX5_chargeFurnace_10 : decode cX5_chargeFurnace 10 = .ok (.iconst 0, 1) := by decide +kernel
theorem dX5_chargeFurnace_11 : decode cX5_chargeFurnace 11 = .ok (.istore_n 2, 1) := by decide +kernel
theorem dX5_chargeFurnace_12 : decode cX5_chargeFurnace 12 = .ok (.iload_n 2, 1) := by decide +kernel
theorem dX5_chargeFurnace_13 : decode cX5_chargeFurnace 13 = .ok (.aload_n 0, 1) := by decide +kernel
theorem dX5_chargeFurnace_14 : decode cX5_chargeFurnace 14 = .ok (.getfield 83, 3) := by decide +kernel
theorem dX5_chargeFurnace_17 : decode cX5_chargeFurnace 17 = .ok (.if_icmp .ge 96, 3) := by decide +kernel
theorem dX5_chargeFurnace_20 : decode cX5_chargeFurnace 20 = .ok (.aload_n 0, 1) := by decide +kernel
theorem dX5_chargeFurnace_21 : decode cX5_chargeFurnace 21 = .ok (.iload_n 2, 1) := by decide +kernel
theorem dX5_chargeFurnace_22 : decode cX5_chargeFurnace 22 = .ok (.invokevirtual 86, 3) := by decide +kernel
theorem dX5_chargeFurnace_25 : decode cX5_chargeFurnace 25 = .ok (.astore_n 3, 1) := by decide +kernel
theorem dX5_chargeFurnace_26 : decode cX5_chargeFurnace 26 = .ok (.aload_n 0, 1) := by decide +kernel
theorem dX5_chargeFurnace_27 : decode cX5_chargeFurnace 27 = .ok (.aload_n 3, 1) := by decide +kernel
theorem dX5_chargeFurnace_28 : decode cX5_chargeFurnace 28 = .ok (.getfield 128, 3) := by decide +kernel
theorem dX5_chargeFurnace_31 : decode cX5_chargeFurnace 31 = .ok (.invokevirtual 68, 3) := by decide +kernel
theorem dX5_chargeFurnace_34 : decode cX5_chargeFurnace 34 = .ok (.astore 4, 2) := by decide +kernel
theorem dX5_chargeFurnace_36 : decode cX5_chargeFurnace 36 = .ok (.aload 4, 2) := by decide +kernel
theorem dX5_chargeFurnace_38 : decode cX5_chargeFurnace 38 = .ok (.getfield 170, 3) := by decide +kernel
theorem dX5_chargeFurnace_41 : decode cX5_chargeFurnace 41 = .ok (.ifCond .le 66, 3) := by decide +kernel
theorem dX5_chargeFurnace_44 : decode cX5_chargeFurnace 44 = .ok (.aload_n 3, 1) := by decide +kernel
theorem dX5_chargeFurnace_45 : decode cX5_chargeFurnace 45 = .ok (.invokevirtual 185, 3) := by decide +kernel
theorem dX5_chargeFurnace_48 : decode cX5_chargeFurnace 48 = .ok (.ifCond .le 59, 3) := by decide +kernel
theorem dX5_chargeFurnace_51 : decode cX5_chargeFurnace 51 = .ok (.aload 4, 2) := by decide +kernel
theorem dX5_chargeFurnace_53 : decode cX5_chargeFurnace 53 = .ok (.dup, 1) := by decide +kernel
theorem dX5_chargeFurnace_54 : decode cX5_chargeFurnace 54 = .ok (.getfield 170, 3) := by decide +kernel
theorem dX5_chargeFurnace_57 : decode cX5_chargeFurnace 57 = .ok (.iconst 1, 1) := by decide +kernel
theorem dX5_chargeFurnace_58 : decode cX5_chargeFurnace 58 = .ok (.isub, 1) := by decide +kernel
theorem dX5_chargeFurnace_59 : decode cX5_chargeFurnace 59 = .ok (.putfield 170, 3) := by decide +kernel
theorem dX5_chargeFurnace_62 : decode cX5_chargeFurnace 62 = .ok (.aload_n 3, 1) := by decide +kernel
theorem dX5_chargeFurnace_63 : decode cX5_chargeFurnace 63 = .ok (.dup, 1) := by decide +kernel
theorem dX5_chargeFurnace_64 : decode cX5_chargeFurnace 64 = .ok (.getfield 144, 3) := by decide +kernel
theorem dX5_chargeFurnace_67 : decode cX5_chargeFurnace 67 = .ok (.iconst 1, 1) := by decide +kernel
theorem dX5_chargeFurnace_68 : decode cX5_chargeFurnace 68 = .ok (.iadd, 1) := by decide +kernel
theorem dX5_chargeFurnace_69 : decode cX5_chargeFurnace 69 = .ok (.putfield 144, 3) := by decide +kernel
theorem dX5_chargeFurnace_72 : decode cX5_chargeFurnace 72 = .ok (.aload_n 1, 1) := by decide +kernel
theorem dX5_chargeFurnace_73 : decode cX5_chargeFurnace 73 = .ok (.aload_n 3, 1) := by decide +kernel
theorem dX5_chargeFurnace_74 : decode cX5_chargeFurnace 74 = .ok (.getfield 122, 3) := by decide +kernel
theorem dX5_chargeFurnace_77 : decode cX5_chargeFurnace 77 = .ok (.putfield 159, 3) := by decide +kernel
theorem dX5_chargeFurnace_80 : decode cX5_chargeFurnace 80 = .ok (.aload_n 1, 1) := by decide +kernel
theorem dX5_chargeFurnace_81 : decode cX5_chargeFurnace 81 = .ok (.bipush 20, 2) := by decide +kernel
theorem dX5_chargeFurnace_83 : decode cX5_chargeFurnace 83 = .ok (.putfield 204, 3) := by decide +kernel
theorem dX5_chargeFurnace_86 : decode cX5_chargeFurnace 86 = .ok (.aload_n 1, 1) := by decide +kernel
theorem dX5_chargeFurnace_87 : decode cX5_chargeFurnace 87 = .ok (.iconst 0, 1) := by decide +kernel
theorem dX5_chargeFurnace_88 : decode cX5_chargeFurnace 88 = .ok (.putfield 238, 3) := by decide +kernel
theorem dX5_chargeFurnace_91 : decode cX5_chargeFurnace 91 = .ok (.aload_n 1, 1) := by decide +kernel
theorem dX5_chargeFurnace_92 : decode cX5_chargeFurnace 92 = .ok (.aload_n 0, 1) := by decide +kernel
theorem dX5_chargeFurnace_93 : decode cX5_chargeFurnace 93 = .ok (.aload_n 3, 1) := by decide +kernel
theorem dX5_chargeFurnace_94 : decode cX5_chargeFurnace 94 = .ok (.getfield 125, 3) := by decide +kernel
theorem dX5_chargeFurnace_97 : decode cX5_chargeFurnace 97 = .ok (.invokevirtual 76, 3) := by decide +kernel
theorem dX5_chargeFurnace_100 : decode cX5_chargeFurnace 100 = .ok (.getfield 239, 3) := by decide +kernel
theorem dX5_chargeFurnace_103 : decode cX5_chargeFurnace 103 = .ok (.putfield 240, 3) := by decide +kernel
theorem dX5_chargeFurnace_106 : decode cX5_chargeFurnace 106 = .ok (.return_, 1) := by decide +kernel
theorem dX5_chargeFurnace_107 : decode cX5_chargeFurnace 107 = .ok (.iinc 2 1, 3) := by decide +kernel
theorem dX5_chargeFurnace_110 : decode cX5_chargeFurnace 110 = .ok (.goto (-98), 3) := by decide +kernel
theorem dX5_chargeFurnace_113 : decode cX5_chargeFurnace 113 = .ok (.return_, 1) := by decide +kernel
theorem dX5_loadPress_0 : decode cX5_loadPress 0 = .ok (.iconst 0, 1) := by decide +kernel
theorem dX5_loadPress_1 : decode cX5_loadPress 1 = .ok (.istore_n 1, 1) := by decide +kernel
theorem dX5_loadPress_2 : decode cX5_loadPress 2 = .ok (.iload_n 1, 1) := by decide +kernel
theorem dX5_loadPress_3 : decode cX5_loadPress 3 = .ok (.aload_n 0, 1) := by decide +kernel
theorem dX5_loadPress_4 : decode cX5_loadPress 4 = .ok (.getfield 83, 3) := by decide +kernel
theorem dX5_loadPress_7 : decode cX5_loadPress 7 = .ok (.if_icmp .ge 60, 3) := by decide +kernel
theorem dX5_loadPress_10 : decode cX5_loadPress 10 = .ok (.aload_n 0, 1) := by decide +kernel
theorem dX5_loadPress_11 : decode cX5_loadPress 11 = .ok (.iload_n 1, 1) := by decide +kernel
theorem dX5_loadPress_12 : decode cX5_loadPress 12 = .ok (.invokevirtual 86, 3) := by decide +kernel
theorem dX5_loadPress_15 : decode cX5_loadPress 15 = .ok (.astore_n 2, 1) := by decide +kernel
theorem dX5_loadPress_16 : decode cX5_loadPress 16 = .ok (.aload_n 2, 1) := by decide +kernel
theorem dX5_loadPress_17 : decode cX5_loadPress 17 = .ok (.getfield 144, 3) := by decide +kernel
theorem dX5_loadPress_20 : decode cX5_loadPress 20 = .ok (.ifCond .le 41, 3) := by decide +kernel
theorem dX5_loadPress_23 : decode cX5_loadPress 23 = .ok (.aload_n 0, 1) := by decide +kernel
theorem dX5_loadPress_24 : decode cX5_loadPress 24 = .ok (.aload_n 2, 1) := by decide +kernel
theorem dX5_loadPress_25 : decode cX5_loadPress 25 = .ok (.getfield 125, 3) := by decide +kernel
theorem dX5_loadPress_28 : decode cX5_loadPress 28 = .ok (.invokevirtual 76, 3) := by decide +kernel
theorem dX5_loadPress_31 : decode cX5_loadPress 31 = .ok (.invokevirtual 241, 3) := by decide +kernel
theorem dX5_loadPress_34 : decode cX5_loadPress 34 = .ok (.ifCond .eq 27, 3) := by decide +kernel
theorem dX5_loadPress_37 : decode cX5_loadPress 37 = .ok (.aload_n 0, 1) := by decide +kernel
theorem dX5_loadPress_38 : decode cX5_loadPress 38 = .ok (.aload_n 2, 1) := by decide +kernel
theorem dX5_loadPress_39 : decode cX5_loadPress 39 = .ok (.invokevirtual 200, 3) := by decide +kernel
theorem dX5_loadPress_42 : decode cX5_loadPress 42 = .ok (.astore_n 3, 1) := by decide +kernel
theorem dX5_loadPress_43 : decode cX5_loadPress 43 = .ok (.aload_n 3, 1) := by decide +kernel
theorem dX5_loadPress_44 : decode cX5_loadPress 44 = .ok (.ifnull 17, 3) := by decide +kernel
theorem dX5_loadPress_47 : decode cX5_loadPress 47 = .ok (.aload_n 0, 1) := by decide +kernel
theorem dX5_loadPress_48 : decode cX5_loadPress 48 = .ok (.getfield 52, 3) := by decide +kernel
theorem dX5_loadPress_51 : decode cX5_loadPress 51 = .ok (.aload_n 3, 1) := by decide +kernel
theorem dX5_loadPress_52 : decode cX5_loadPress 52 = .ok (.invokevirtual 97, 3) := by decide +kernel
theorem dX5_loadPress_55 : decode cX5_loadPress 55 = .ok (.aload_n 3, 1) := by decide +kernel
theorem dX5_loadPress_56 : decode cX5_loadPress 56 = .ok (.iconst (-1), 1) := by decide +kernel
theorem dX5_loadPress_57 : decode cX5_loadPress 57 = .ok (.putfield 159, 3) := by decide +kernel
theorem dX5_loadPress_60 : decode cX5_loadPress 60 = .ok (.return_, 1) := by decide +kernel
theorem dX5_loadPress_61 : decode cX5_loadPress 61 = .ok (.iinc 1 1, 3) := by decide +kernel
theorem dX5_loadPress_64 : decode cX5_loadPress 64 = .ok (.goto (-62), 3) := by decide +kernel
theorem dX5_loadPress_67 : decode cX5_loadPress 67 = .ok (.return_, 1) := by decide +kernel
theorem dX5_workPress_0 : decode cX5_workPress 0 = .ok (.aload_n 0, 1) := by decide +kernel
theorem dX5_workPress_1 : decode cX5_workPress 1 = .ok (.iload_n 1, 1) := by decide +kernel
theorem dX5_workPress_2 : decode cX5_workPress 2 = .ok (.invokevirtual 86, 3) := by decide +kernel
theorem dX5_workPress_5 : decode cX5_workPress 5 = .ok (.astore_n 2, 1) := by decide +kernel
theorem dX5_workPress_6 : decode cX5_workPress 6 = .ok (.aload_n 0, 1) := by decide +kernel
theorem dX5_workPress_7 : decode cX5_workPress 7 = .ok (.aload_n 2, 1) := by decide +kernel
theorem dX5_workPress_8 : decode cX5_workPress 8 = .ok (.getfield 128, 3) := by decide +kernel
theorem dX5_workPress_11 : decode cX5_workPress 11 = .ok (.invokevirtual 68, 3) := by decide +kernel
theorem dX5_workPress_14 : decode cX5_workPress 14 = .ok (.astore_n 3, 1) := by decide +kernel
theorem dX5_workPress_15 : decode cX5_workPress 15 = .ok (.aload_n 0, 1) := by decide +kernel
theorem dX5_workPress_16 : decode cX5_workPress 16 = .ok (.aload_n 2, 1) := by decide +kernel
theorem dX5_workPress_17 : decode cX5_workPress 17 = .ok (.getfield 125, 3) := by decide +kernel
theorem dX5_workPress_20 : decode cX5_workPress 20 = .ok (.invokevirtual 76, 3) := by decide +kernel
theorem dX5_workPress_23 : decode cX5_workPress 23 = .ok (.astore 4, 2) := by decide +kernel
theorem dX5_workPress_25 : decode cX5_workPress 25 = .ok (.aload 4, 2) := by decide +kernel
theorem dX5_workPress_27 : decode cX5_workPress 27 = .ok (.invokevirtual 241, 3) := by decide +kernel
theorem dX5_workPress_30 : decode cX5_workPress 30 = .ok (.ifCond .eq 17, 3) := by decide +kernel
theorem dX5_workPress_33 : decode cX5_workPress 33 = .ok (.aload_n 0, 1) := by decide +kernel
theorem dX5_workPress_34 : decode cX5_workPress 34 = .ok (.getfield 52, 3) := by decide +kernel
theorem dX5_workPress_37 : decode cX5_workPress 37 = .ok (.getfield 204, 3) := by decide +kernel
theorem dX5_workPress_40 : decode cX5_workPress 40 = .ok (.aload_n 3, 1) := by decide +kernel
theorem dX5_workPress_41 : decode cX5_workPress 41 = .ok (.getfield 173, 3) := by decide +kernel
theorem dX5_workPress_44 : decode cX5_workPress 44 = .ok (.if_icmp .ge 10, 3) := by decide +kernel
theorem dX5_workPress_47 : decode cX5_workPress 47 = .ok (.aload_n 0, 1) := by decide +kernel
theorem dX5_workPress_48 : decode cX5_workPress 48 = .ok (.aload_n 2, 1) := by decide +kernel
theorem dX5_workPress_49 : decode cX5_workPress 49 = .ok (.aload_n 3, 1) := by decide +kernel
theorem dX5_workPress_50 : decode cX5_workPress 50 = .ok (.invokevirtual 244, 3) := by decide +kernel
theorem dX5_workPress_53 : decode cX5_workPress 53 = .ok (.return_, 1) := by decide +kernel
theorem dX5_workPress_54 : decode cX5_workPress 54 = .ok (.aload 4, 2) := by decide +kernel
theorem dX5_workPress_56 : decode cX5_workPress 56 = .ok (.dup, 1) := by decide +kernel
theorem dX5_workPress_57 : decode cX5_workPress 57 = .ok (.getfield 248, 3) := by decide +kernel
theorem dX5_workPress_60 : decode cX5_workPress 60 = .ok (.iconst 1, 1) := by decide +kernel
theorem dX5_workPress_61 : decode cX5_workPress 61 = .ok (.iconst 0, 1) := by decide +kernel
theorem dX5_workPress_62 : decode cX5_workPress 62 = .ok (.aload_n 3, 1) := by decide +kernel
theorem dX5_workPress_63 : decode cX5_workPress 63 = .ok (.getfield 176, 3) := by decide +kernel
theorem dX5_workPress_66 : decode cX5_workPress 66 = .ok (.aload_n 0, 1) := by decide +kernel
theorem dX5_workPress_67 : decode cX5_workPress 67 = .ok (.getfield 52, 3) := by decide +kernel
theorem dX5_workPress_70 : decode cX5_workPress 70 = .ok (.getfield 204, 3) := by decide +kernel
theorem dX5_workPress_73 : decode cX5_workPress 73 = .ok (.isub, 1) := by decide +kernel
theorem dX5_workPress_74 : decode cX5_workPress 74 = .ok (.invokestatic 251, 3) := by decide +kernel
theorem dX5_workPress_77 : decode cX5_workPress 77 = .ok (.bipush 100, 2) := by decide +kernel
theorem dX5_workPress_79 : decode cX5_workPress 79 = .ok (.idiv, 1) := by decide +kernel
theorem dX5_workPress_80 : decode cX5_workPress 80 = .ok (.iadd, 1) := by decide +kernel
theorem dX5_workPress_81 : decode cX5_workPress 81 = .ok (.iadd, 1) := by decide +kernel
theorem dX5_workPress_82 : decode cX5_workPress 82 = .ok (.putfield 248, 3) := by decide +kernel
theorem dX5_workPress_85 : decode cX5_workPress 85 = .ok (.aload_n 0, 1) := by decide +kernel
theorem dX5_workPress_86 : decode cX5_workPress 86 = .ok (.getfield 52, 3) := by decide +kernel
theorem dX5_workPress_89 : decode cX5_workPress 89 = .ok (.bipush 20, 2) := by decide +kernel
theorem dX5_workPress_91 : decode cX5_workPress 91 = .ok (.aload_n 0, 1) := by decide +kernel
theorem dX5_workPress_92 : decode cX5_workPress 92 = .ok (.getfield 52, 3) := by decide +kernel
theorem dX5_workPress_95 : decode cX5_workPress 95 = .ok (.getfield 204, 3) := by decide +kernel
theorem dX5_workPress_98 : decode cX5_workPress 98 = .ok (.aload_n 0, 1) := by decide +kernel
theorem dX5_workPress_99 : decode cX5_workPress 99 = .ok (.getfield 15, 3) := by decide +kernel
theorem dX5_workPress_102 : decode cX5_workPress 102 = .ok (.isub, 1) := by decide +kernel
theorem dX5_workPress_103 : decode cX5_workPress 103 = .ok (.invokestatic 251, 3) := by decide +kernel
theorem dX5_workPress_106 : decode cX5_workPress 106 = .ok (.putfield 204, 3) := by decide +kernel
theorem dX5_workPress_109 : decode cX5_workPress 109 = .ok (.aload_n 0, 1) := by decide +kernel
theorem dX5_workPress_110 : decode cX5_workPress 110 = .ok (.getfield 52, 3) := by decide +kernel
theorem dX5_workPress_113 : decode cX5_workPress 113 = .ok (.dup, 1) := by decide +kernel
theorem dX5_workPress_114 : decode cX5_workPress 114 = .ok (.getfield 240, 3) := by decide +kernel
theorem dX5_workPress_117 : decode cX5_workPress 117 = .ok (.iconst 1, 1) := by decide +kernel
theorem dX5_workPress_118 : decode cX5_workPress 118 = .ok (.isub, 1) := by decide +kernel
theorem dX5_workPress_119 : decode cX5_workPress 119 = .ok (.putfield 240, 3) := by decide +kernel
theorem dX5_workPress_122 : decode cX5_workPress 122 = .ok (.aload_n 0, 1) := by decide +kernel
theorem dX5_workPress_123 : decode cX5_workPress 123 = .ok (.dup, 1) := by decide +kernel
theorem dX5_workPress_124 : decode cX5_workPress 124 = .ok (.getfield 110, 3) := by decide +kernel
theorem dX5_workPress_127 : decode cX5_workPress 127 = .ok (.iconst 1, 1) := by decide +kernel
theorem dX5_workPress_128 : decode cX5_workPress 128 = .ok (.iadd, 1) := by decide +kernel
theorem dX5_workPress_129 : decode cX5_workPress 129 = .ok (.putfield 110, 3) := by decide +kernel
theorem dX5_workPress_132 : decode cX5_workPress 132 = .ok (.aload_n 0, 1) := by decide +kernel
theorem dX5_workPress_133 : decode cX5_workPress 133 = .ok (.getfield 52, 3) := by decide +kernel
theorem dX5_workPress_136 : decode cX5_workPress 136 = .ok (.getfield 240, 3) := by decide +kernel
theorem dX5_workPress_139 : decode cX5_workPress 139 = .ok (.ifCond .le 4, 3) := by decide +kernel
theorem dX5_workPress_142 : decode cX5_workPress 142 = .ok (.return_, 1) := by decide +kernel
theorem dX5_workPress_143 : decode cX5_workPress 143 = .ok (.aload_n 0, 1) := by decide +kernel
theorem dX5_workPress_144 : decode cX5_workPress 144 = .ok (.getfield 52, 3) := by decide +kernel
theorem dX5_workPress_147 : decode cX5_workPress 147 = .ok (.iconst (-1), 1) := by decide +kernel
theorem dX5_workPress_148 : decode cX5_workPress 148 = .ok (.putfield 159, 3) := by decide +kernel
theorem dX5_workPress_151 : decode cX5_workPress 151 = .ok (.aload_n 2, 1) := by decide +kernel
theorem dX5_workPress_152 : decode cX5_workPress 152 = .ok (.dup, 1) := by decide +kernel
theorem dX5_workPress_153 : decode cX5_workPress 153 = .ok (.getfield 144, 3) := by decide +kernel
theorem dX5_workPress_156 : decode cX5_workPress 156 = .ok (.iconst 1, 1) := by decide +kernel
theorem dX5_workPress_157 : decode cX5_workPress 157 = .ok (.isub, 1) := by decide +kernel
theorem dX5_workPress_158 : decode cX5_workPress 158 = .ok (.putfield 144, 3) := by decide +kernel
theorem dX5_workPress_161 : decode cX5_workPress 161 = .ok (.aload_n 2, 1) := by decide +kernel
theorem dX5_workPress_162 : decode cX5_workPress 162 = .ok (.dup, 1) := by decide +kernel
theorem dX5_workPress_163 : decode cX5_workPress 163 = .ok (.getfield 134, 3) := by decide +kernel
theorem dX5_workPress_166 : decode cX5_workPress 166 = .ok (.iconst 1, 1) := by decide +kernel
theorem dX5_workPress_167 : decode cX5_workPress 167 = .ok (.iadd, 1) := by decide +kernel
theorem dX5_workPress_168 : decode cX5_workPress 168 = .ok (.putfield 134, 3) := by decide +kernel
theorem dX5_workPress_171 : decode cX5_workPress 171 = .ok (.aload_n 3, 1) := by decide +kernel
theorem dX5_workPress_172 : decode cX5_workPress 172 = .ok (.dup, 1) := by decide +kernel
theorem dX5_workPress_173 : decode cX5_workPress 173 = .ok (.getfield 169, 3) := by decide +kernel
theorem dX5_workPress_176 : decode cX5_workPress 176 = .ok (.iconst 1, 1) := by decide +kernel
theorem dX5_workPress_177 : decode cX5_workPress 177 = .ok (.iadd, 1) := by decide +kernel
theorem dX5_workPress_178 : decode cX5_workPress 178 = .ok (.putfield 169, 3) := by decide +kernel
theorem dX5_workPress_181 : decode cX5_workPress 181 = .ok (.aload 4, 2) := by decide +kernel
theorem dX5_workPress_183 : decode cX5_workPress 183 = .ok (.dup, 1) := by decide +kernel
theorem dX5_workPress_184 : decode cX5_workPress 184 = .ok (.getfield 254, 3) := by decide +kernel
theorem dX5_workPress_187 : decode cX5_workPress 187 = .ok (.iconst 1, 1) := by decide +kernel
theorem dX5_workPress_188 : decode cX5_workPress 188 = .ok (.iadd, 1) := by decide +kernel
theorem dX5_workPress_189 : decode cX5_workPress 189 = .ok (.putfield 254, 3) := by decide +kernel
theorem dX5_workPress_192 : decode cX5_workPress 192 = .ok (.aload_n 2, 1) := by decide +kernel
theorem dX5_workPress_193 : decode cX5_workPress 193 = .ok (.getfield 134, 3) := by decide +kernel
theorem dX5_workPress_196 : decode cX5_workPress 196 = .ok (.aload_n 2, 1) := by decide +kernel
theorem dX5_workPress_197 : decode cX5_workPress 197 = .ok (.getfield 131, 3) := by decide +kernel
theorem dX5_workPress_200 : decode cX5_workPress 200 = .ok (.if_icmp .lt 13, 3) := by decide +kernel
theorem dX5_workPress_203 : decode cX5_workPress 203 = .ok (.aload_n 0, 1) := by decide +kernel
theorem dX5_workPress_204 : decode cX5_workPress 204 = .ok (.aload_n 2, 1) := by decide +kernel
theorem dX5_workPress_205 : decode cX5_workPress 205 = .ok (.invokevirtual 255, 3) := by decide +kernel
theorem dX5_workPress_208 : decode cX5_workPress 208 = .ok (.aload_n 0, 1) := by decide +kernel
theorem dX5_workPress_209 : decode cX5_workPress 209 = .ok (.iload_n 1, 1) := by decide +kernel
theorem dX5_workPress_210 : decode cX5_workPress 210 = .ok (.invokevirtual 165, 3) := by decide +kernel
theorem dX5_workPress_213 : decode cX5_workPress 213 = .ok (.return_, 1) := by decide +kernel
theorem dX5_sendBack_0 : decode cX5_sendBack 0 = .ok (.aload_n 0, 1) := by decide +kernel
theorem dX5_sendBack_1 : decode cX5_sendBack 1 = .ok (.getfield 52, 3) := by decide +kernel
theorem dX5_sendBack_4 : decode cX5_sendBack 4 = .ok (.dup, 1) := by decide +kernel
theorem dX5_sendBack_5 : decode cX5_sendBack 5 = .ok (.getfield 238, 3) := by decide +kernel
theorem dX5_sendBack_8 : decode cX5_sendBack 8 = .ok (.iconst 1, 1) := by decide +kernel
theorem dX5_sendBack_9 : decode cX5_sendBack 9 = .ok (.iadd, 1) := by decide +kernel
theorem dX5_sendBack_10 : decode cX5_sendBack 10 = .ok (.putfield 238, 3) := by decide +kernel
theorem dX5_sendBack_13 : decode cX5_sendBack 13 = .ok (.aload_n 0, 1) := by decide +kernel
theorem dX5_sendBack_14 : decode cX5_sendBack 14 = .ok (.invokevirtual 234, 3) := by decide +kernel
theorem dX5_sendBack_17 : decode cX5_sendBack 17 = .ok (.astore_n 3, 1) := by decide +kernel
theorem dX5_sendBack_18 : decode cX5_sendBack 18 = .ok (.aload_n 3, 1) := by decide +kernel
theorem dX5_sendBack_19 : decode cX5_sendBack 19 = .ok (.ifnull 17, 3) := by decide +kernel
theorem dX5_sendBack_22 : decode cX5_sendBack 22 = .ok (.aload_n 0, 1) := by decide +kernel
theorem dX5_sendBack_23 : decode cX5_sendBack 23 = .ok (.getfield 52, 3) := by decide +kernel
theorem dX5_sendBack_26 : decode cX5_sendBack 26 = .ok (.getfield 238, 3) := by decide +kernel
theorem dX5_sendBack_29 : decode cX5_sendBack 29 = .ok (.aload_n 0, 1) := by decide +kernel
theorem dX5_sendBack_30 : decode cX5_sendBack 30 = .ok (.getfield 18, 3) := by decide +kernel
theorem dX5_sendBack_33 : decode cX5_sendBack 33 = .ok (.if_icmp .le 26, 3) := by decide +kernel
theorem dX5_sendBack_36 : decode cX5_sendBack 36 = .ok (.aload_n 1, 1) := by decide +kernel
theorem dX5_sendBack_37 : decode cX5_sendBack 37 = .ok (.dup, 1) := by decide +kernel
theorem dX5_sendBack_38 : decode cX5_sendBack 38 = .ok (.getfield 144, 3) := by decide +kernel
theorem dX5_sendBack_41 : decode cX5_sendBack 41 = .ok (.iconst 1, 1) := by decide +kernel
theorem dX5_sendBack_42 : decode cX5_sendBack 42 = .ok (.isub, 1) := by decide +kernel
theorem dX5_sendBack_43 : decode cX5_sendBack 43 = .ok (.putfield 144, 3) := by decide +kernel
theorem dX5_sendBack_46 : decode cX5_sendBack 46 = .ok (.aload_n 2, 1) := by decide +kernel
theorem dX5_sendBack_47 : decode cX5_sendBack 47 = .ok (.dup, 1) := by decide +kernel
theorem dX5_sendBack_48 : decode cX5_sendBack 48 = .ok (.getfield 162, 3) := by decide +kernel
theorem dX5_sendBack_51 : decode cX5_sendBack 51 = .ok (.iconst 1, 1) := by decide +kernel
theorem dX5_sendBack_52 : decode cX5_sendBack 52 = .ok (.iadd, 1) := by decide +kernel
theorem dX5_sendBack_53 : decode cX5_sendBack 53 = .ok (.putfield 162, 3) := by decide +kernel
theorem dX5_sendBack_56 : decode cX5_sendBack 56 = .ok (.goto 11, 3) := by decide +kernel
theorem dX5_sendBack_59 : decode cX5_sendBack 59 = .ok (.aload_n 3, 1) := by decide +kernel
theorem dX5_sendBack_60 : decode cX5_sendBack 60 = .ok (.aload_n 0, 1) := by decide +kernel
theorem dX5_sendBack_61 : decode cX5_sendBack 61 = .ok (.getfield 52, 3) := by decide +kernel
theorem dX5_sendBack_64 : decode cX5_sendBack 64 = .ok (.invokevirtual 97, 3) := by decide +kernel
theorem dX5_sendBack_67 : decode cX5_sendBack 67 = .ok (.aload_n 0, 1) := by decide +kernel
theorem dX5_sendBack_68 : decode cX5_sendBack 68 = .ok (.getfield 52, 3) := by decide +kernel
theorem dX5_sendBack_71 : decode cX5_sendBack 71 = .ok (.iconst (-1), 1) := by decide +kernel
theorem dX5_sendBack_72 : decode cX5_sendBack 72 = .ok (.putfield 159, 3) := by decide +kernel
theorem dX5_sendBack_75 : decode cX5_sendBack 75 = .ok (.return_, 1) := by decide +kernel
theorem dX5_countGone_0 : decode cX5_countGone 0 = .ok (.aload_n 0, 1) := by decide +kernel
theorem dX5_countGone_1 : decode cX5_countGone 1 = .ok (.dup, 1) := by decide +kernel
theorem dX5_countGone_2 : decode cX5_countGone 2 = .ok (.getfield 113, 3) := by decide +kernel
theorem dX5_countGone_5 : decode cX5_countGone 5 = .ok (.iconst 1, 1) := by decide +kernel
theorem dX5_countGone_6 : decode cX5_countGone 6 = .ok (.iadd, 1) := by decide +kernel
theorem dX5_countGone_7 : decode cX5_countGone 7 = .ok (.putfield 113, 3) := by decide +kernel
theorem dX5_countGone_10 : decode cX5_countGone 10 = .ok (.aload_n 0, 1) := by decide +kernel
theorem dX5_countGone_11 : decode cX5_countGone 11 = .ok (.getfield 107, 3) := by decide +kernel
theorem dX5_countGone_14 : decode cX5_countGone 14 = .ok (.aload_n 1, 1) := by decide +kernel
theorem dX5_countGone_15 : decode cX5_countGone 15 = .ok (.getfield 137, 3) := by decide +kernel
theorem dX5_countGone_18 : decode cX5_countGone 18 = .ok (.isub, 1) := by decide +kernel
theorem dX5_countGone_19 : decode cX5_countGone 19 = .ok (.istore_n 2, 1) := by decide +kernel
theorem dX5_countGone_20 : decode cX5_countGone 20 = .ok (.iload_n 2, 1) := by decide +kernel
theorem dX5_countGone_21 : decode cX5_countGone 21 = .ok (.ifCond .le 23, 3) := by decide +kernel
theorem dX5_countGone_24 : decode cX5_countGone 24 = .ok (.aload_n 0, 1) := by decide +kernel
theorem dX5_countGone_25 : decode cX5_countGone 25 = .ok (.dup, 1) := by decide +kernel
theorem dX5_countGone_26 : decode cX5_countGone 26 = .ok (.getfield 116, 3) := by decide +kernel
theorem dX5_countGone_29 : decode cX5_countGone 29 = .ok (.iconst 1, 1) := by decide +kernel
theorem dX5_countGone_30 : decode cX5_countGone 30 = .ok (.iadd, 1) := by decide +kernel
theorem dX5_countGone_31 : decode cX5_countGone 31 = .ok (.putfield 116, 3) := by decide +kernel
theorem dX5_countGone_34 : decode cX5_countGone 34 = .ok (.aload_n 0, 1) := by decide +kernel
theorem dX5_countGone_35 : decode cX5_countGone 35 = .ok (.dup, 1) := by decide +kernel
theorem dX5_countGone_36 : decode cX5_countGone 36 = .ok (.getfield 119, 3) := by decide +kernel
theorem dX5_countGone_39 : decode cX5_countGone 39 = .ok (.iload_n 2, 1) := by decide +kernel
theorem dX5_countGone_40 : decode cX5_countGone 40 = .ok (.iadd, 1) := by decide +kernel
theorem dX5_countGone_41 : decode cX5_countGone 41 = .ok (.putfield 119, 3) := by decide +kernel
theorem dX5_countGone_44 : decode cX5_countGone 44 = .ok (.return_, 1) := by decide +kernel
theorem dX5_tendDies_0 : decode cX5_tendDies 0 = .ok (.aload_n 0, 1) := by decide +kernel
theorem dX5_tendDies_1 : decode cX5_tendDies 1 = .ok (.invokevirtual 258, 3) := by decide +kernel
theorem dX5_tendDies_4 : decode cX5_tendDies 4 = .ok (.istore_n 1, 1) := by decide +kernel
theorem dX5_tendDies_5 : decode cX5_tendDies 5 = .ok (.iload_n 1, 1) := by decide +kernel
theorem dX5_tendDies_6 : decode cX5_tendDies 6 = .ok (.iconst (-1), 1) := by decide +kernel
theorem dX5_tendDies_7 : decode cX5_tendDies 7 = .ok (.if_icmp .eq 21, 3) := by decide +kernel
theorem dX5_tendDies_10 : decode cX5_tendDies 10 = .ok (.aload_n 0, 1) := by decide +kernel
theorem dX5_tendDies_11 : decode cX5_tendDies 11 = .ok (.iload_n 1, 1) := by decide +kernel
theorem dX5_tendDies_12 : decode cX5_tendDies 12 = .ok (.invokevirtual 76, 3) := by decide +kernel
theorem dX5_tendDies_15 : decode cX5_tendDies 15 = .ok (.astore_n 2, 1) := by decide +kernel
theorem dX5_tendDies_16 : decode cX5_tendDies 16 = .ok (.aload_n 2, 1) := by decide +kernel
theorem dX5_tendDies_17 : decode cX5_tendDies 17 = .ok (.invokevirtual 261, 3) := by decide +kernel
theorem dX5_tendDies_20 : decode cX5_tendDies 20 = .ok (.aload_n 2, 1) := by decide +kernel
theorem dX5_tendDies_21 : decode cX5_tendDies 21 = .ok (.invokevirtual 193, 3) := by decide +kernel
theorem dX5_tendDies_24 : decode cX5_tendDies 24 = .ok (.ifCond .eq 4, 3) := by decide +kernel
theorem dX5_tendDies_27 : decode cX5_tendDies 27 = .ok (.return_, 1) := by decide +kernel
theorem dX5_tendDies_28 : decode cX5_tendDies 28 = .ok (.iconst 0, 1) := by decide +kernel
theorem dX5_tendDies_29 : decode cX5_tendDies 29 = .ok (.istore_n 2, 1) := by decide +kernel
theorem dX5_tendDies_30 : decode cX5_tendDies 30 = .ok (.iload_n 2, 1) := by decide +kernel
theorem dX5_tendDies_31 : decode cX5_tendDies 31 = .ok (.iconst 5, 1) := by decide +kernel
theorem dX5_tendDies_32 : decode cX5_tendDies 32 = .ok (.if_icmp .ge 31, 3) := by decide +kernel
theorem dX5_tendDies_35 : decode cX5_tendDies 35 = .ok (.aload_n 0, 1) := by decide +kernel
theorem dX5_tendDies_36 : decode cX5_tendDies 36 = .ok (.iload_n 2, 1) := by decide +kernel
theorem dX5_tendDies_37 : decode cX5_tendDies 37 = .ok (.invokevirtual 76, 3) := by decide +kernel
theorem dX5_tendDies_40 : decode cX5_tendDies 40 = .ok (.astore_n 3, 1) := by decide +kernel
theorem dX5_tendDies_41 : decode cX5_tendDies 41 = .ok (.aload_n 3, 1) := by decide +kernel
theorem dX5_tendDies_42 : decode cX5_tendDies 42 = .ok (.invokevirtual 197, 3) := by decide +kernel
theorem dX5_tendDies_45 : decode cX5_tendDies 45 = .ok (.ifCond .eq 12, 3) := by decide +kernel
theorem dX5_tendDies_48 : decode cX5_tendDies 48 = .ok (.aload_n 3, 1) := by decide +kernel
theorem dX5_tendDies_49 : decode cX5_tendDies 49 = .ok (.aload_n 0, 1) := by decide +kernel
theorem dX5_tendDies_50 : decode cX5_tendDies 50 = .ok (.getfield 21, 3) := by decide +kernel
theorem dX5_tendDies_53 : decode cX5_tendDies 53 = .ok (.putfield 264, 3) := by decide +kernel
theorem dX5_tendDies_56 : decode cX5_tendDies 56 = .ok (.return_, 1) := by decide +kernel
theorem dX5_tendDies_57 : decode cX5_tendDies 57 = .ok (.iinc 2 1, 3) := by decide +kernel
theorem dX5_tendDies_60 : decode cX5_tendDies 60 = .ok (.goto (-30), 3) := by decide +kernel
theorem dX5_tendDies_63 : decode cX5_tendDies 63 = .ok (.return_, 1) := by decide +kernel
theorem dJ9_max_7cf53_0 : decode cJ9_max_7cf53 0 = .ok (.iload_n 0, 1) := by decide +kernel
theorem dJ9_max_7cf53_1 : decode cJ9_max_7cf53 1 = .ok (.iload_n 1, 1) := by decide +kernel
theorem dJ9_max_7cf53_2 : decode cJ9_max_7cf53 2 = .ok (.if_icmp .lt 7, 3) := by decide +kernel
theorem dJ9_max_7cf53_5 : decode cJ9_max_7cf53 5 = .ok (.iload_n 0, 1) := by decide +kernel
theorem dJ9_max_7cf53_6 : decode cJ9_max_7cf53 6 = .ok (.goto 4, 3) := by decide +kernel
theorem dJ9_max_7cf53_9 : decode cJ9_max_7cf53 9 = .ok (.iload_n 1, 1) := by decide +kernel
theorem dJ9_max_7cf53_10 : decode cJ9_max_7cf53 10 = .ok (.ireturn, 1) := by decide +kernel
theorem dJ9_min_7cf53_0 : decode cJ9_min_7cf53 0 = .ok (.iload_n 0, 1) := by decide +kernel
theorem dJ9_min_7cf53_1 : decode cJ9_min_7cf53 1 = .ok (.iload_n 1, 1) := by decide +kernel
theorem dJ9_min_7cf53_2 : decode cJ9_min_7cf53 2 = .ok (.if_icmp .gt 7, 3) := by decide +kernel
theorem dJ9_min_7cf53_5 : decode cJ9_min_7cf53 5 = .ok (.iload_n 0, 1) := by decide +kernel
theorem dJ9_min_7cf53_6 : decode cJ9_min_7cf53 6 = .ok (.goto 4, 3) := by decide +kernel
theorem dJ9_min_7cf53_9 : decode cJ9_min_7cf53 9 = .ok (.iload_n 1, 1) := by decide +kernel
theorem dJ9_min_7cf53_10 : decode cJ9_min_7cf53 10 = .ok (.ireturn, 1) := by decide +kernel
