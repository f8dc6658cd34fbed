theorem dX0_init_0 : decode cX0_init 0 = .ok (.aload_n 0, 1) := by decide +kernel
theorem dX0_init_1 : decode cX0_init 1 = .ok (.invokespecial 3, 3) := by decide +kernel
theorem dX0_init_4 : decode cX0_init 4 = .ok (.aload_n 0, 1) := by decide +kernel
theorem dX0_init_5 : decode cX0_init 5 = .ok (.bipush 40, 2) := by decide +kernel
theorem dX0_init_7 : decode cX0_init 7 = .ok (.anewarray 9, 3) := by decide +kernel
theorem dX0_init_10 : decode cX0_init 10 = .ok (.putfield 11, 3) := by decide +kernel
theorem dX0_init_13 : decode cX0_init 13 = .ok (.return_, 1) := by decide +kernel
theorem dX0_at_0 : decode cX0_at 0 = .ok (.iload_n 1, 1) := by decide +kernel
theorem dX0_at_1 : decode cX0_at 1 = .ok (.ifCond .lt 26, 3) := by decide +kernel
theorem dX0_at_4 : decode cX0_at 4 = .ok (.iload_n 1, 1) := by decide +kernel
theorem dX0_at_5 : decode cX0_at 5 = .ok (.aload_n 0, 1) := by decide +kernel
theorem dX0_at_6 : decode cX0_at 6 = .ok (.getfield 17, 3) := by decide +kernel
theorem dX0_at_9 : decode cX0_at 9 = .ok (.if_icmp .ge 18, 3) := by decide +kernel
theorem dX0_at_12 : decode cX0_at 12 = .ok (.iload_n 1, 1) := by decide +kernel
theorem dX0_at_13 : decode cX0_at 13 = .ok (.bipush 40, 2) := by decide +kernel
theorem dX0_at_15 : decode cX0_at 15 = .ok (.if_icmp .ge 12, 3) := by decide +kernel
theorem dX0_at_18 : decode cX0_at 18 = .ok (.aload_n 0, 1) := by decide +kernel
theorem dX0_at_19 : decode cX0_at 19 = .ok (.getfield 11, 3) := by decide +kernel
theorem dX0_at_22 : decode cX0_at 22 = .ok (.iload_n 1, 1) := by decide +kernel
theorem dX0_at_23 : decode cX0_at 23 = .ok (.aaload, 1) := by decide +kernel
theorem dX0_at_24 : decode cX0_at 24 = .ok (.goto 4, 3) := by decide +kernel
theorem dX0_at_27 : decode cX0_at 27 = .ok (.aconst_null, 1) := by decide +kernel
theorem dX0_at_28 : decode cX0_at 28 = .ok (.areturn, 1) := by decide +kernel
theorem dX0_isFull_0 : decode cX0_isFull 0 = .ok (.aload_n 0, 1) := by decide +kernel
theorem dX0_isFull_1 : decode cX0_isFull 1 = .ok (.getfield 17, 3) := by decide +kernel
theorem dX0_isFull_4 : decode cX0_isFull 4 = .ok (.bipush 40, 2) := by decide +kernel
theorem dX0_isFull_6 : decode cX0_isFull 6 = .ok (.if_icmp .lt 7, 3) := by decide +kernel
theorem dX0_isFull_9 : decode cX0_isFull 9 = .ok (.iconst 1, 1) := by decide +kernel
theorem dX0_isFull_10 : decode cX0_isFull 10 = .ok (.goto 4, 3) := by decide +kernel
theorem dX0_isFull_13 : decode cX0_isFull 13 = .ok (.iconst 0, 1) := by decide +kernel
theorem dX0_isFull_14 : decode cX0_isFull 14 = .ok (.ireturn, 1) := by decide +kernel
theorem dX0_enter_0 : decode cX0_enter 0 = .ok (.aload_n 0, 1) := by decide +kernel
theorem dX0_enter_1 : decode cX0_enter 1 = .ok (.getfield 17, 3) := by decide +kernel
theorem dX0_enter_4 : decode cX0_enter 4 = .ok (.ifCond .lt 12, 3) := by decide +kernel
theorem dX0_enter_7 : decode cX0_enter 7 = .ok (.aload_n 0, 1) := by decide +kernel
theorem dX0_enter_8 : decode cX0_enter 8 = .ok (.getfield 17, 3) := by decide +kernel
theorem dX0_enter_11 : decode cX0_enter 11 = .ok (.bipush 40, 2) := by decide +kernel
theorem dX0_enter_13 : decode cX0_enter 13 = .ok (.if_icmp .lt 5, 3) := by decide +kernel
theorem dX0_enter_16 : decode cX0_enter 16 = .ok (.iconst (-1), 1) := by decide +kernel
theorem dX0_enter_17 : decode cX0_enter 17 = .ok (.ireturn, 1) := by decide +kernel
theorem dX0_enter_18 : decode cX0_enter 18 = .ok (.aload_n 0, 1) := by decide +kernel
theorem dX0_enter_19 : decode cX0_enter 19 = .ok (.getfield 11, 3) := by decide +kernel
theorem dX0_enter_22 : decode cX0_enter 22 = .ok (.aload_n 0, 1) := by decide +kernel
theorem dX0_enter_23 : decode cX0_enter 23 = .ok (.getfield 17, 3) := by decide +kernel
theorem dX0_enter_26 : decode cX0_enter 26 = .ok (.aload_n 1, 1) := by decide +kernel
theorem dX0_enter_27 : decode cX0_enter 27 = .ok (.aastore, 1) := by decide +kernel
theorem dX0_enter_28 : decode cX0_enter 28 = .ok (.aload_n 0, 1) := by decide +kernel
theorem dX0_enter_29 : decode cX0_enter 29 = .ok (.dup, 1) := by decide +kernel
theorem dX0_enter_30 : decode cX0_enter 30 = .ok (.getfield 17, 3) := by decide +kernel
theorem dX0_enter_33 : decode cX0_enter 33 = .ok (.iconst 1, 1) := by decide +kernel
theorem dX0_enter_34 : decode cX0_enter 34 = .ok (.iadd, 1) := by decide +kernel
theorem dX0_enter_35 : decode cX0_enter 35 = .ok (.putfield 17, 3) := by decide +kernel
theorem dX0_enter_38 : decode cX0_enter 38 = .ok (.aload_n 0, 1) := by decide +kernel
theorem dX0_enter_39 : decode cX0_enter 39 = .ok (.getfield 17, 3) := by decide +kernel
theorem dX0_enter_42 : decode cX0_enter 42 = .ok (.iconst 1, 1) := by decide +kernel
theorem dX0_enter_43 : decode cX0_enter 43 = .ok (.isub, 1) := by decide +kernel
theorem dX0_enter_44 : decode cX0_enter 44 = .ok (.ireturn, 1) := by decide +kernel
theorem dX0_standingCount_0 : decode cX0_standingCount 0 = .ok (.iconst 0, 1) := by decide +kernel
theorem dX0_standingCount_1 : decode cX0_standingCount 1 = .ok (.istore_n 1, 1) := by decide +kernel
theorem dX0_standingCount_2 : decode cX0_standingCount 2 = .ok (.iconst 0, 1) := by decide +kernel
theorem dX0_standingCount_3 : decode cX0_standingCount 3 = .ok (.istore_n 2, 1) := by decide +kernel
theorem dX0_standingCount_4 : decode cX0_standingCount 4 = .ok (.iload_n 2, 1) := by decide +kernel
theorem dX0_standingCount_5 : decode cX0_standingCount 5 = .ok (.aload_n 0, 1) := by decide +kernel
theorem dX0_standingCount_6 : decode cX0_standingCount 6 = .ok (.getfield 17, 3) := by decide +kernel
theorem dX0_standingCount_9 : decode cX0_standingCount 9 = .ok (.if_icmp .ge 34, 3) := by decide +kernel
theorem dX0_standingCount_12 : decode cX0_standingCount 12 = .ok (.aload_n 0, 1) := by decide +kernel
theorem dX0_standingCount_13 : decode cX0_standingCount 13 = .ok (.iload_n 2, 1) := by decide +kernel
theorem dX0_standingCount_14 : decode cX0_standingCount 14 = .ok (.invokevirtual 21, 3) := by decide +kernel
theorem dX0_standingCount_17 : decode cX0_standingCount 17 = .ok (.astore_n 3, 1) := by decide +kernel
theorem dX0_standingCount_18 : decode cX0_standingCount 18 = .ok (.iload_n 1, 1) := by decide +kernel
theorem dX0_standingCount_19 : decode cX0_standingCount 19 = .ok (.aload_n 3, 1) := by decide +kernel
theorem dX0_standingCount_20 : decode cX0_standingCount 20 = .ok (.ifnull 14, 3) := by decide +kernel
theorem dX0_standingCount_23 : decode cX0_standingCount 23 = .ok (.aload_n 3, 1) := by decide +kernel
theorem dX0_standingCount_24 : decode cX0_standingCount 24 = .ok (.invokevirtual 25, 3) := by decide +kernel
theorem dX0_standingCount_27 : decode cX0_standingCount 27 = .ok (.ifCond .eq 7, 3) := by decide +kernel
theorem dX0_standingCount_30 : decode cX0_standingCount 30 = .ok (.iconst 1, 1) := by decide +kernel
theorem dX0_standingCount_31 : decode cX0_standingCount 31 = .ok (.goto 4, 3) := by decide +kernel
theorem dX0_standingCount_34 : decode cX0_standingCount 34 = .ok (.iconst 0, 1) := by decide +kernel
theorem dX0_standingCount_35 : decode cX0_standingCount 35 = .ok (.iadd, 1) := by decide +kernel
theorem dX0_standingCount_36 : decode cX0_standingCount 36 = .ok (.istore_n 1, 1) := by decide +kernel
theorem dX0_standingCount_37 : decode cX0_standingCount 37 = .ok (.iinc 2 1, 3) := by decide +kernel
theorem dX0_standingCount_40 : decode cX0_standingCount 40 = .ok (.goto (-36), 3) := by decide +kernel
theorem dX0_standingCount_43 : decode cX0_standingCount 43 = .ok (.iload_n 1, 1) := by decide +kernel
theorem dX0_standingCount_44 : decode cX0_standingCount 44 = .ok (.ireturn, 1) := by decide +kernel
theorem dX0_missNight_0 : decode cX0_missNight 0 = .ok (.iconst 0, 1) := by decide +kernel
theorem dX0_missNight_1 : decode cX0_missNight 1 = .ok (.istore_n 2, 1) := by decide +kernel
theorem dX0_missNight_2 : decode cX0_missNight 2 = .ok (.iload_n 2, 1) := by decide +kernel
theorem dX0_missNight_3 : decode cX0_missNight 3 = .ok (.aload_n 0, 1) := by decide +kernel
theorem dX0_missNight_4 : decode cX0_missNight 4 = .ok (.getfield 17, 3) := by decide +kernel
theorem dX0_missNight_7 : decode cX0_missNight 7 = .ok (.if_icmp .ge 40, 3) := by decide +kernel
theorem dX0_missNight_10 : decode cX0_missNight 10 = .ok (.aload_n 0, 1) := by decide +kernel
theorem dX0_missNight_11 : decode cX0_missNight 11 = .ok (.iload_n 2, 1) := by decide +kernel
theorem dX0_missNight_12 : decode cX0_missNight 12 = .ok (.invokevirtual 21, 3) := by decide +kernel
theorem dX0_missNight_15 : decode cX0_missNight 15 = .ok (.astore_n 3, 1) := by decide +kernel
theorem dX0_missNight_16 : decode cX0_missNight 16 = .ok (.aload_n 3, 1) := by decide +kernel
theorem dX0_missNight_17 : decode cX0_missNight 17 = .ok (.ifnull 24, 3) := by decide +kernel
theorem dX0_missNight_20 : decode cX0_missNight 20 = .ok (.aload_n 3, 1) := by decide +kernel
theorem dX0_missNight_21 : decode cX0_missNight 21 = .ok (.invokevirtual 29, 3) := by decide +kernel
theorem dX0_missNight_24 : decode cX0_missNight 24 = .ok (.ifCond .eq 17, 3) := by decide +kernel
theorem dX0_missNight_27 : decode cX0_missNight 27 = .ok (.aload_n 3, 1) := by decide +kernel
theorem dX0_missNight_28 : decode cX0_missNight 28 = .ok (.iload_n 1, 1) := by decide +kernel
theorem dX0_missNight_29 : decode cX0_missNight 29 = .ok (.invokevirtual 32, 3) := by decide +kernel
theorem dX0_missNight_32 : decode cX0_missNight 32 = .ok (.ifCond .eq 9, 3) := by decide +kernel
theorem dX0_missNight_35 : decode cX0_missNight 35 = .ok (.aload_n 3, 1) := by decide +kernel
theorem dX0_missNight_36 : decode cX0_missNight 36 = .ok (.bipush 6, 2) := by decide +kernel
theorem dX0_missNight_38 : decode cX0_missNight 38 = .ok (.putfield 36, 3) := by decide +kernel
theorem dX0_missNight_41 : decode cX0_missNight 41 = .ok (.iinc 2 1, 3) := by decide +kernel
theorem dX0_missNight_44 : decode cX0_missNight 44 = .ok (.goto (-42), 3) := by decide +kernel
theorem dX0_missNight_47 : decode cX0_missNight 47 = .ok (.return_, 1) := by decide +kernel
theorem dX0_walkFrom_0 : decode cX0_walkFrom 0 = .ok (.iconst 0, 1) := by decide +kernel
theorem dX0_walkFrom_1 : decode cX0_walkFrom 1 = .ok (.istore_n 2, 1) := by decide +kernel
theorem dX0_walkFrom_2 : decode cX0_walkFrom 2 = .ok (.iconst 0, 1) := by decide +kernel
theorem dX0_walkFrom_3 : decode cX0_walkFrom 3 = .ok (.istore_n 3, 1) := by decide +kernel
theorem dX0_walkFrom_4 : decode cX0_walkFrom 4 = .ok (.iload_n 3, 1) := by decide +kernel
theorem dX0_walkFrom_5 : decode cX0_walkFrom 5 = .ok (.aload_n 0, 1) := by decide +kernel
theorem dX0_walkFrom_6 : decode cX0_walkFrom 6 = .ok (.getfield 17, 3) := by decide +kernel
theorem dX0_walkFrom_9 : decode cX0_walkFrom 9 = .ok (.if_icmp .ge 59, 3) := by decide +kernel
theorem dX0_walkFrom_12 : decode cX0_walkFrom 12 = .ok (.aload_n 0, 1) := by decide +kernel
theorem dX0_walkFrom_13 : decode cX0_walkFrom 13 = .ok (.iload_n 3, 1) := by decide +kernel
theorem dX0_walkFrom_14 : decode cX0_walkFrom 14 = .ok (.invokevirtual 21, 3) := by decide +kernel
theorem dX0_walkFrom_17 : decode cX0_walkFrom 17 = .ok (.astore 4, 2) := by decide +kernel
theorem dX0_walkFrom_19 : decode cX0_walkFrom 19 = .ok (.aload 4, 2) := by decide +kernel
theorem dX0_walkFrom_21 : decode cX0_walkFrom 21 = .ok (.ifnull 41, 3) := by decide +kernel
theorem dX0_walkFrom_24 : decode cX0_walkFrom 24 = .ok (.aload 4, 2) := by decide +kernel
theorem dX0_walkFrom_26 : decode cX0_walkFrom 26 = .ok (.getfield 36, 3) := by decide +kernel
theorem dX0_walkFrom_29 : decode cX0_walkFrom 29 = .ok (.iconst 2, 1) := by decide +kernel
theorem dX0_walkFrom_30 : decode cX0_walkFrom 30 = .ok (.if_icmp .ne 32, 3) := by decide +kernel
theorem dX0_walkFrom_33 : decode cX0_walkFrom 33 = .ok (.aload 4, 2) := by decide +kernel
theorem dX0_walkFrom_35 : decode cX0_walkFrom 35 = .ok (.iload_n 1, 1) := by decide +kernel
theorem dX0_walkFrom_36 : decode cX0_walkFrom 36 = .ok (.invokevirtual 32, 3) := by decide +kernel
theorem dX0_walkFrom_39 : decode cX0_walkFrom 39 = .ok (.ifCond .eq 23, 3) := by decide +kernel
theorem dX0_walkFrom_42 : decode cX0_walkFrom 42 = .ok (.aload 4, 2) := by decide +kernel
theorem dX0_walkFrom_44 : decode cX0_walkFrom 44 = .ok (.iload_n 1, 1) := by decide +kernel
theorem dX0_walkFrom_45 : decode cX0_walkFrom 45 = .ok (.invokevirtual 39, 3) := by decide +kernel
theorem dX0_walkFrom_48 : decode cX0_walkFrom 48 = .ok (.iconst (-1), 1) := by decide +kernel
theorem dX0_walkFrom_49 : decode cX0_walkFrom 49 = .ok (.if_icmp .ne 13, 3) := by decide +kernel
theorem dX0_walkFrom_52 : decode cX0_walkFrom 52 = .ok (.aload 4, 2) := by decide +kernel
theorem dX0_walkFrom_54 : decode cX0_walkFrom 54 = .ok (.bipush 7, 2) := by decide +kernel
theorem dX0_walkFrom_56 : decode cX0_walkFrom 56 = .ok (.putfield 36, 3) := by decide +kernel
theorem dX0_walkFrom_59 : decode cX0_walkFrom 59 = .ok (.iinc 2 1, 3) := by decide +kernel
theorem dX0_walkFrom_62 : decode cX0_walkFrom 62 = .ok (.iinc 3 1, 3) := by decide +kernel
theorem dX0_walkFrom_65 : decode cX0_walkFrom 65 = .ok (.goto (-61), 3) := by decide +kernel
theorem dX0_walkFrom_68 : decode cX0_walkFrom 68 = .ok (.iload_n 2, 1) := by decide +kernel
theorem dX0_walkFrom_69 : decode cX0_walkFrom 69 = .ok (.ireturn, 1) := by decide +kernel
theorem dX0_turnTo_0 : decode cX0_turnTo 0 = .ok (.iconst 0, 1) := by decide +kernel
theorem dX0_turnTo_1 : decode cX0_turnTo 1 = .ok (.istore_n 2, 1) := by decide +kernel
theorem dX0_turnTo_2 : decode cX0_turnTo 2 = .ok (.iload_n 2, 1) := by decide +kernel
theorem dX0_turnTo_3 : decode cX0_turnTo 3 = .ok (.aload_n 0, 1) := by decide +kernel
theorem dX0_turnTo_4 : decode cX0_turnTo 4 = .ok (.getfield 17, 3) := by decide +kernel
theorem dX0_turnTo_7 : decode cX0_turnTo 7 = .ok (.if_icmp .ge 66, 3) := by decide +kernel
theorem dX0_turnTo_10 : decode cX0_turnTo 10 = .ok (.aload_n 0, 1) := by decide +kernel
theorem dX0_turnTo_11 : decode cX0_turnTo 11 = .ok (.iload_n 2, 1) := by decide +kernel
theorem dX0_turnTo_12 : decode cX0_turnTo 12 = .ok (.invokevirtual 21, 3) := by decide +kernel
theorem dX0_turnTo_15 : decode cX0_turnTo 15 = .ok (.astore_n 3, 1) := by decide +kernel
theorem dX0_turnTo_16 : decode cX0_turnTo 16 = .ok (.aload_n 3, 1) := by decide +kernel
theorem dX0_turnTo_17 : decode cX0_turnTo 17 = .ok (.ifnonnull 6, 3) := by decide +kernel
theorem dX0_turnTo_20 : decode cX0_turnTo 20 = .ok (.goto 47, 3) := by decide +kernel
theorem dX0_turnTo_23 : decode cX0_turnTo 23 = .ok (.aload_n 3, 1) := by decide +kernel
theorem dX0_turnTo_24 : decode cX0_turnTo 24 = .ok (.getfield 36, 3) := by decide +kernel
theorem dX0_turnTo_27 : decode cX0_turnTo 27 = .ok (.iconst 2, 1) := by decide +kernel
theorem dX0_turnTo_28 : decode cX0_turnTo 28 = .ok (.if_icmp .ne 19, 3) := by decide +kernel
theorem dX0_turnTo_31 : decode cX0_turnTo 31 = .ok (.aload_n 3, 1) := by decide +kernel
theorem dX0_turnTo_32 : decode cX0_turnTo 32 = .ok (.getfield 43, 3) := by decide +kernel
theorem dX0_turnTo_35 : decode cX0_turnTo 35 = .ok (.iload_n 1, 1) := by decide +kernel
theorem dX0_turnTo_36 : decode cX0_turnTo 36 = .ok (.if_icmp .ne 11, 3) := by decide +kernel
theorem dX0_turnTo_39 : decode cX0_turnTo 39 = .ok (.aload_n 3, 1) := by decide +kernel
theorem dX0_turnTo_40 : decode cX0_turnTo 40 = .ok (.iconst 3, 1) := by decide +kernel
theorem dX0_turnTo_41 : decode cX0_turnTo 41 = .ok (.putfield 36, 3) := by decide +kernel
theorem dX0_turnTo_44 : decode cX0_turnTo 44 = .ok (.goto 23, 3) := by decide +kernel
theorem dX0_turnTo_47 : decode cX0_turnTo 47 = .ok (.aload_n 3, 1) := by decide +kernel
theorem dX0_turnTo_48 : decode cX0_turnTo 48 = .ok (.getfield 36, 3) := by decide +kernel
theorem dX0_turnTo_51 : decode cX0_turnTo 51 = .ok (.ifCond .ne 16, 3) := by decide +kernel
theorem dX0_turnTo_54 : decode cX0_turnTo 54 = .ok (.aload_n 3, 1) := by decide +kernel
theorem dX0_turnTo_55 : decode cX0_turnTo 55 = .ok (.getfield 46, 3) := by decide +kernel
theorem dX0_turnTo_58 : decode cX0_turnTo 58 = .ok (.iload_n 1, 1) := by decide +kernel
theorem dX0_turnTo_59 : decode cX0_turnTo 59 = .ok (.if_icmp .ge 8, 3) := by decide +kernel
theorem dX0_turnTo_62 : decode cX0_turnTo 62 = .ok (.aload_n 3, 1) := by decide +kernel
theorem dX0_turnTo_63 : decode cX0_turnTo 63 = .ok (.iconst 5, 1) := by decide +kernel
theorem dX0_turnTo_64 : decode cX0_turnTo 64 = .ok (.putfield 36, 3) := by decide +kernel
theorem dX0_turnTo_67 : decode cX0_turnTo 67 = .ok (.iinc 2 1, 3) := by decide +kernel
theorem dX0_turnTo_70 : decode cX0_turnTo 70 = .ok (.goto (-68), 3) := by decide +kernel
theorem dX0_turnTo_73 : decode cX0_turnTo 73 = .ok (.return_, 1) := by decide +kernel
theorem dX1_init_0 : decode cX1_init 0 = .ok (.aload_n 0, 1) := by decide +kernel
theorem dX1_init_1 : decode cX1_init 1 = .ok (.invokespecial 3, 3) := by decide +kernel
theorem dX1_init_4 : decode cX1_init 4 = .ok (.aload_n 0, 1) := by decide +kernel
theorem dX1_init_5 : decode cX1_init 5 = .ok (.bipush 16, 2) := by decide +kernel
theorem dX1_init_7 : decode cX1_init 7 = .ok (.anewarray 9, 3) := by decide +kernel
theorem dX1_init_10 : decode cX1_init 10 = .ok (.putfield 11, 3) := by decide +kernel
theorem dX1_init_13 : decode cX1_init 13 = .ok (.aload_n 0, 1) := by decide +kernel
theorem dX1_init_14 : decode cX1_init 14 = .ok (.bipush 16, 2) := by decide +kernel
theorem dX1_init_16 : decode cX1_init 16 = .ok (.newarray .boolean, 2) := by decide +kernel
theorem dX1_init_18 : decode cX1_init 18 = .ok (.putfield 17, 3) := by decide +kernel
theorem dX1_init_21 : decode cX1_init 21 = .ok (.return_, 1) := by decide +kernel
theorem dX1_roomAt_0 : decode cX1_roomAt 0 = .ok (.iload_n 1, 1) := by decide +kernel
theorem dX1_roomAt_1 : decode cX1_roomAt 1 = .ok (.ifCond .lt 18, 3) := by decide +kernel
theorem dX1_roomAt_4 : decode cX1_roomAt 4 = .ok (.iload_n 1, 1) := by decide +kernel
theorem dX1_roomAt_5 : decode cX1_roomAt 5 = .ok (.bipush 16, 2) := by decide +kernel
theorem dX1_roomAt_7 : decode cX1_roomAt 7 = .ok (.if_icmp .ge 12, 3) := by decide +kernel
theorem dX1_roomAt_10 : decode cX1_roomAt 10 = .ok (.aload_n 0, 1) := by decide +kernel
theorem dX1_roomAt_11 : decode cX1_roomAt 11 = .ok (.getfield 11, 3) := by decide +kernel
theorem dX1_roomAt_14 : decode cX1_roomAt 14 = .ok (.iload_n 1, 1) := by decide +kernel
theorem dX1_roomAt_15 : decode cX1_roomAt 15 = .ok (.aaload, 1) := by decide +kernel
theorem dX1_roomAt_16 : decode cX1_roomAt 16 = .ok (.goto 4, 3) := by decide +kernel
theorem dX1_roomAt_19 : decode cX1_roomAt 19 = .ok (.aconst_null, 1) := by decide +kernel
theorem dX1_roomAt_20 : decode cX1_roomAt 20 = .ok (.areturn, 1) := by decide +kernel
theorem dX1_isEmpty_0 : decode cX1_isEmpty 0 = .ok (.iload_n 1, 1) := by decide +kernel
theorem dX1_isEmpty_1 : decode cX1_isEmpty 1 = .ok (.invokestatic 21, 3) := by decide +kernel
theorem dX1_isEmpty_4 : decode cX1_isEmpty 4 = .ok (.ifCond .eq 25, 3) := by decide +kernel
theorem dX1_isEmpty_7 : decode cX1_isEmpty 7 = .ok (.aload_n 0, 1) := by decide +kernel
theorem dX1_isEmpty_8 : decode cX1_isEmpty 8 = .ok (.getfield 11, 3) := by decide +kernel
theorem dX1_isEmpty_11 : decode cX1_isEmpty 11 = .ok (.iload_n 1, 1) := by decide +kernel
theorem dX1_isEmpty_12 : decode cX1_isEmpty 12 = .ok (.aaload, 1) := by decide +kernel
theorem dX1_isEmpty_13 : decode cX1_isEmpty 13 = .ok (.ifnonnull 16, 3) := by decide +kernel
theorem dX1_isEmpty_16 : decode cX1_isEmpty 16 = .ok (.aload_n 0, 1) := by decide +kernel
theorem dX1_isEmpty_17 : decode cX1_isEmpty 17 = .ok (.getfield 17, 3) := by decide +kernel
theorem dX1_isEmpty_20 : decode cX1_isEmpty 20 = .ok (.iload_n 1, 1) := by decide +kernel
theorem dX1_isEmpty_21 : decode cX1_isEmpty 21 = .ok (.baload, 1) := by decide +kernel
theorem dX1_isEmpty_22 : decode cX1_isEmpty 22 = .ok (.ifCond .ne 7, 3) := by decide +kernel
theorem dX1_isEmpty_25 : decode cX1_isEmpty 25 = .ok (.iconst 1, 1) := by decide +kernel
theorem dX1_isEmpty_26 : decode cX1_isEmpty 26 = .ok (.goto 4, 3) := by decide +kernel
theorem dX1_isEmpty_29 : decode cX1_isEmpty 29 = .ok (.iconst 0, 1) := by decide +kernel
theorem dX1_isEmpty_30 : decode cX1_isEmpty 30 = .ok (.ireturn, 1) := by decide +kernel
theorem dX1_kindAt_0 : decode cX1_kindAt 0 = .ok (.aload_n 0, 1) := by decide +kernel
theorem dX1_kindAt_1 : decode cX1_kindAt 1 = .ok (.iload_n 1, 1) := by decide +kernel
theorem dX1_kindAt_2 : decode cX1_kindAt 2 = .ok (.invokevirtual 25, 3) := by decide +kernel
theorem dX1_kindAt_5 : decode cX1_kindAt 5 = .ok (.astore_n 2, 1) := by decide +kernel
theorem dX1_kindAt_6 : decode cX1_kindAt 6 = .ok (.aload_n 2, 1) := by decide +kernel
theorem dX1_kindAt_7 : decode cX1_kindAt 7 = .ok (.ifnull 8, 3) := by decide +kernel
theorem dX1_kindAt_10 : decode cX1_kindAt 10 = .ok (.aload_n 2, 1) := by decide +kernel
theorem dX1_kindAt_11 : decode cX1_kindAt 11 = .ok (.getfield 29, 3) := by decide +kernel
theorem dX1_kindAt_14 : decode cX1_kindAt 14 = .ok (.ireturn, 1) := by decide +kernel
theorem dX1_kindAt_15 : decode cX1_kindAt 15 = .ok (.iload_n 1, 1) := by decide +kernel
theorem dX1_kindAt_16 : decode cX1_kindAt 16 = .ok (.invokestatic 21, 3) := by decide +kernel
theorem dX1_kindAt_19 : decode cX1_kindAt 19 = .ok (.ifCond .eq 16, 3) := by decide +kernel
theorem dX1_kindAt_22 : decode cX1_kindAt 22 = .ok (.aload_n 0, 1) := by decide +kernel
theorem dX1_kindAt_23 : decode cX1_kindAt 23 = .ok (.getfield 17, 3) := by decide +kernel
theorem dX1_kindAt_26 : decode cX1_kindAt 26 = .ok (.iload_n 1, 1) := by decide +kernel
theorem dX1_kindAt_27 : decode cX1_kindAt 27 = .ok (.baload, 1) := by decide +kernel
theorem dX1_kindAt_28 : decode cX1_kindAt 28 = .ok (.ifCond .eq 7, 3) := by decide +kernel
theorem dX1_kindAt_31 : decode cX1_kindAt 31 = .ok (.iconst 4, 1) := by decide +kernel
theorem dX1_kindAt_32 : decode cX1_kindAt 32 = .ok (.goto 4, 3) := by decide +kernel
theorem dX1_kindAt_35 : decode cX1_kindAt 35 = .ok (.iconst (-1), 1) := by decide +kernel
theorem dX1_kindAt_36 : decode cX1_kindAt 36 = .ok (.ireturn, 1) := by decide +kernel
theorem dX1_putRoom_0 : decode cX1_putRoom 0 = .ok (.iload_n 1, 1) := by decide +kernel
theorem dX1_putRoom_1 : decode cX1_putRoom 1 = .ok (.invokestatic 21, 3) := by decide +kernel
theorem dX1_putRoom_4 : decode cX1_putRoom 4 = .ok (.ifCond .eq 10, 3) := by decide +kernel
theorem dX1_putRoom_7 : decode cX1_putRoom 7 = .ok (.aload_n 0, 1) := by decide +kernel
theorem dX1_putRoom_8 : decode cX1_putRoom 8 = .ok (.getfield 11, 3) := by decide +kernel
theorem dX1_putRoom_11 : decode cX1_putRoom 11 = .ok (.iload_n 1, 1) := by decide +kernel
theorem dX1_putRoom_12 : decode cX1_putRoom 12 = .ok (.aload_n 2, 1) := by decide +kernel
theorem dX1_putRoom_13 : decode cX1_putRoom 13 = .ok (.aastore, 1) := by decide +kernel
theorem dX1_putRoom_14 : decode cX1_putRoom 14 = .ok (.return_, 1) := by decide +kernel
theorem dX1_putStore_0 : decode cX1_putStore 0 = .ok (.iload_n 1, 1) := by decide +kernel
theorem dX1_putStore_1 : decode cX1_putStore 1 = .ok (.invokestatic 21, 3) := by decide +kernel
theorem dX1_putStore_4 : decode cX1_putStore 4 = .ok (.ifCond .eq 10, 3) := by decide +kernel
theorem dX1_putStore_7 : decode cX1_putStore 7 = .ok (.aload_n 0, 1) := by decide +kernel
theorem dX1_putStore_8 : decode cX1_putStore 8 = .ok (.getfield 17, 3) := by decide +kernel
theorem dX1_putStore_11 : decode cX1_putStore 11 = .ok (.iload_n 1, 1) := by decide +kernel
theorem dX1_putStore_12 : decode cX1_putStore 12 = .ok (.iconst 1, 1) := by decide +kernel
theorem dX1_putStore_13 : decode cX1_putStore 13 = .ok (.bastore, 1) := by decide +kernel
theorem dX1_putStore_14 : decode cX1_putStore 14 = .ok (.return_, 1) := by decide +kernel
theorem dX1_join_0 : decode cX1_join 0 = .ok (.iload_n 1, 1) := by decide +kernel
theorem dX1_join_1 : decode cX1_join 1 = .ok (.invokestatic 21, 3) := by decide +kernel
theorem dX1_join_4 : decode cX1_join 4 = .ok (.ifCond .eq 12, 3) := by decide +kernel
theorem dX1_join_7 : decode cX1_join 7 = .ok (.iload_n 1, 1) := by decide +kernel
theorem dX1_join_8 : decode cX1_join 8 = .ok (.iconst 1, 1) := by decide +kernel
theorem dX1_join_9 : decode cX1_join 9 = .ok (.iadd, 1) := by decide +kernel
theorem dX1_join_10 : decode cX1_join 10 = .ok (.invokestatic 21, 3) := by decide +kernel
theorem dX1_join_13 : decode cX1_join 13 = .ok (.ifCond .ne 5, 3) := by decide +kernel
theorem dX1_join_16 : decode cX1_join 16 = .ok (.iconst 0, 1) := by decide +kernel
theorem dX1_join_17 : decode cX1_join 17 = .ok (.ireturn, 1) := by decide +kernel
theorem dX1_join_18 : decode cX1_join 18 = .ok (.aload_n 0, 1) := by decide +kernel
theorem dX1_join_19 : decode cX1_join 19 = .ok (.getfield 11, 3) := by decide +kernel
theorem dX1_join_22 : decode cX1_join 22 = .ok (.iload_n 1, 1) := by decide +kernel
theorem dX1_join_23 : decode cX1_join 23 = .ok (.aaload, 1) := by decide +kernel
theorem dX1_join_24 : decode cX1_join 24 = .ok (.astore_n 2, 1) := by decide +kernel
theorem dX1_join_25 : decode cX1_join 25 = .ok (.aload_n 0, 1) := by decide +kernel
theorem dX1_join_26 : decode cX1_join 26 = .ok (.getfield 11, 3) := by decide +kernel
theorem dX1_join_29 : decode cX1_join 29 = .ok (.iload_n 1, 1) := by decide +kernel
theorem dX1_join_30 : decode cX1_join 30 = .ok (.iconst 1, 1) := by decide +kernel
theorem dX1_join_31 : decode cX1_join 31 = .ok (.iadd, 1) := by decide +kernel
theorem dX1_join_32 : decode cX1_join 32 = .ok (.aaload, 1) := by decide +kernel
theorem dX1_join_33 : decode cX1_join 33 = .ok (.astore_n 3, 1) := by decide +kernel
theorem dX1_join_34 : decode cX1_join 34 = .ok (.aload_n 2, 1) := by decide +kernel
theorem dX1_join_35 : decode cX1_join 35 = .ok (.ifnull 23, 3) := by decide +kernel
theorem dX1_join_38 : decode cX1_join 38 = .ok (.aload_n 3, 1) := by decide +kernel
theorem dX1_join_39 : decode cX1_join 39 = .ok (.ifnull 19, 3) := by decide +kernel
theorem dX1_join_42 : decode cX1_join 42 = .ok (.aload_n 2, 1) := by decide +kernel
theorem dX1_join_43 : decode cX1_join 43 = .ok (.getfield 29, 3) := by decide +kernel
theorem dX1_join_46 : decode cX1_join 46 = .ok (.iconst 1, 1) := by decide +kernel
theorem dX1_join_47 : decode cX1_join 47 = .ok (.if_icmp .ne 11, 3) := by decide +kernel
theorem dX1_join_50 : decode cX1_join 50 = .ok (.aload_n 3, 1) := by decide +kernel
theorem dX1_join_51 : decode cX1_join 51 = .ok (.getfield 29, 3) := by decide +kernel
theorem dX1_join_54 : decode cX1_join 54 = .ok (.iconst 1, 1) := by decide +kernel
theorem dX1_join_55 : decode cX1_join 55 = .ok (.if_icmp .eq 5, 3) := by decide +kernel
theorem dX1_join_58 : decode cX1_join 58 = .ok (.iconst 0, 1) := by decide +kernel
theorem dX1_join_59 : decode cX1_join 59 = .ok (.ireturn, 1) := by decide +kernel
theorem dX1_join_60 : decode cX1_join 60 = .ok (.aload_n 2, 1) := by decide +kernel
theorem dX1_join_61 : decode cX1_join 61 = .ok (.getfield 33, 3) := by decide +kernel
theorem dX1_join_64 : decode cX1_join 64 = .ok (.aload_n 3, 1) := by decide +kernel
theorem dX1_join_65 : decode cX1_join 65 = .ok (.getfield 33, 3) := by decide +kernel
theorem dX1_join_68 : decode cX1_join 68 = .ok (.if_icmp .ne 19, 3) := by decide +kernel
theorem dX1_join_71 : decode cX1_join 71 = .ok (.aload_n 2, 1) := by decide +kernel
theorem dX1_join_72 : decode cX1_join 72 = .ok (.getfield 36, 3) := by decide +kernel
theorem dX1_join_75 : decode cX1_join 75 = .ok (.iconst (-1), 1) := by decide +kernel
theorem dX1_join_76 : decode cX1_join 76 = .ok (.if_icmp .ne 11, 3) := by decide +kernel
theorem dX1_join_79 : decode cX1_join 79 = .ok (.aload_n 3, 1) := by decide +kernel
theorem dX1_join_80 : decode cX1_join 80 = .ok (.getfield 36, 3) := by decide +kernel
theorem dX1_join_83 : decode cX1_join 83 = .ok (.iconst (-1), 1) := by decide +kernel
theorem dX1_join_84 : decode cX1_join 84 = .ok (.if_icmp .eq 5, 3) := by decide +kernel
theorem dX1_join_87 : decode cX1_join 87 = .ok (.iconst 0, 1) := by decide +kernel
theorem dX1_join_88 : decode cX1_join 88 = .ok (.ireturn, 1) := by decide +kernel
theorem dX1_join_89 : decode cX1_join 89 = .ok (.aload_n 2, 1) := by decide +kernel
theorem dX1_join_90 : decode cX1_join 90 = .ok (.iload_n 1, 1) := by decide +kernel
theorem dX1_join_91 : decode cX1_join 91 = .ok (.iconst 1, 1) := by decide +kernel
theorem dX1_join_92 : decode cX1_join 92 = .ok (.iadd, 1) := by decide +kernel
theorem dX1_join_93 : decode cX1_join 93 = .ok (.putfield 36, 3) := by decide +kernel
theorem dX1_join_96 : decode cX1_join 96 = .ok (.aload_n 3, 1) := by decide +kernel
theorem dX1_join_97 : decode cX1_join 97 = .ok (.iload_n 1, 1) := by decide +kernel
theorem dX1_join_98 : decode cX1_join 98 = .ok (.putfield 36, 3) := by decide +kernel
theorem dX1_join_101 : decode cX1_join 101 = .ok (.iconst 1, 1) := by decide +kernel
theorem dX1_join_102 : decode cX1_join 102 = .ok (.ireturn, 1) := by decide +kernel
theorem dX1_isOpenOfKind_0 : decode cX1_isOpenOfKind 0 = .ok (.aload_n 0, 1) := by decide +kernel
theorem dX1_isOpenOfKind_1 : decode cX1_isOpenOfKind 1 = .ok (.iload_n 1, 1) := by decide +kernel
theorem dX1_isOpenOfKind_2 : decode cX1_isOpenOfKind 2 = .ok (.invokevirtual 25, 3) := by decide +kernel
theorem dX1_isOpenOfKind_5 : decode cX1_isOpenOfKind 5 = .ok (.astore 4, 2) := by decide +kernel
theorem dX1_isOpenOfKind_7 : decode cX1_isOpenOfKind 7 = .ok (.aload 4, 2) := by decide +kernel
theorem dX1_isOpenOfKind_9 : decode cX1_isOpenOfKind 9 = .ok (.ifnull 25, 3) := by decide +kernel
theorem dX1_isOpenOfKind_12 : decode cX1_isOpenOfKind 12 = .ok (.aload 4, 2) := by decide +kernel
theorem dX1_isOpenOfKind_14 : decode cX1_isOpenOfKind 14 = .ok (.getfield 29, 3) := by decide +kernel
theorem dX1_isOpenOfKind_17 : decode cX1_isOpenOfKind 17 = .ok (.iload_n 2, 1) := by decide +kernel
theorem dX1_isOpenOfKind_18 : decode cX1_isOpenOfKind 18 = .ok (.if_icmp .ne 16, 3) := by decide +kernel
theorem dX1_isOpenOfKind_21 : decode cX1_isOpenOfKind 21 = .ok (.aload 4, 2) := by decide +kernel
theorem dX1_isOpenOfKind_23 : decode cX1_isOpenOfKind 23 = .ok (.iload_n 3, 1) := by decide +kernel
theorem dX1_isOpenOfKind_24 : decode cX1_isOpenOfKind 24 = .ok (.invokevirtual 39, 3) := by decide +kernel
theorem dX1_isOpenOfKind_27 : decode cX1_isOpenOfKind 27 = .ok (.ifCond .eq 7, 3) := by decide +kernel
theorem dX1_isOpenOfKind_30 : decode cX1_isOpenOfKind 30 = .ok (.iconst 1, 1) := by decide +kernel
theorem dX1_isOpenOfKind_31 : decode cX1_isOpenOfKind 31 = .ok (.goto 4, 3) := by decide +kernel
theorem dX1_isOpenOfKind_34 : decode cX1_isOpenOfKind 34 = .ok (.iconst 0, 1) := by decide +kernel
theorem dX1_isOpenOfKind_35 : decode cX1_isOpenOfKind 35 = .ok (.ireturn, 1) := by decide +kernel
theorem dX1_openUnits_0 : decode cX1_openUnits 0 = .ok (.iconst 0, 1) := by decide +kernel
theorem dX1_openUnits_1 : decode cX1_openUnits 1 = .ok (.istore_n 3, 1) := by decide +kernel
theorem dX1_openUnits_2 : decode cX1_openUnits 2 = .ok (.iconst 0, 1) := by decide +kernel
theorem dX1_openUnits_3 : decode cX1_openUnits 3 = .ok (.istore 4, 2) := by decide +kernel
theorem dX1_openUnits_5 : decode cX1_openUnits 5 = .ok (.iload 4, 2) := by decide +kernel
theorem dX1_openUnits_7 : decode cX1_openUnits 7 = .ok (.bipush 16, 2) := by decide +kernel
theorem dX1_openUnits_9 : decode cX1_openUnits 9 = .ok (.if_icmp .ge 49, 3) := by decide +kernel
theorem dX1_openUnits_12 : decode cX1_openUnits 12 = .ok (.aload_n 0, 1) := by decide +kernel
theorem dX1_openUnits_13 : decode cX1_openUnits 13 = .ok (.getfield 11, 3) := by decide +kernel
theorem dX1_openUnits_16 : decode cX1_openUnits 16 = .ok (.iload 4, 2) := by decide +kernel
theorem dX1_openUnits_18 : decode cX1_openUnits 18 = .ok (.aaload, 1) := by decide +kernel
theorem dX1_openUnits_19 : decode cX1_openUnits 19 = .ok (.astore 5, 2) := by decide +kernel
theorem dX1_openUnits_21 : decode cX1_openUnits 21 = .ok (.aload 5, 2) := by decide +kernel
theorem dX1_openUnits_23 : decode cX1_openUnits 23 = .ok (.ifnull 29, 3) := by decide +kernel
theorem dX1_openUnits_26 : decode cX1_openUnits 26 = .ok (.aload 5, 2) := by decide +kernel
theorem dX1_openUnits_28 : decode cX1_openUnits 28 = .ok (.getfield 29, 3) := by decide +kernel
theorem dX1_openUnits_31 : decode cX1_openUnits 31 = .ok (.iload_n 1, 1) := by decide +kernel
theorem dX1_openUnits_32 : decode cX1_openUnits 32 = .ok (.if_icmp .ne 20, 3) := by decide +kernel
theorem dX1_openUnits_35 : decode cX1_openUnits 35 = .ok (.aload 5, 2) := by decide +kernel
theorem dX1_openUnits_37 : decode cX1_openUnits 37 = .ok (.iload_n 2, 1) := by decide +kernel
theorem dX1_openUnits_38 : decode cX1_openUnits 38 = .ok (.invokevirtual 39, 3) := by decide +kernel
theorem dX1_openUnits_41 : decode cX1_openUnits 41 = .ok (.ifCond .eq 11, 3) := by decide +kernel
theorem dX1_openUnits_44 : decode cX1_openUnits 44 = .ok (.iload_n 3, 1) := by decide +kernel
theorem dX1_openUnits_45 : decode cX1_openUnits 45 = .ok (.aload 5, 2) := by decide +kernel
theorem dX1_openUnits_47 : decode cX1_openUnits 47 = .ok (.invokevirtual 42, 3) := by decide +kernel
theorem dX1_openUnits_50 : decode cX1_openUnits 50 = .ok (.iadd, 1) := by decide +kernel
theorem dX1_openUnits_51 : decode cX1_openUnits 51 = .ok (.istore_n 3, 1) := by decide +kernel
theorem dX1_openUnits_52 : decode cX1_openUnits 52 = .ok (.iinc 4 1, 3) := by decide +kernel
theorem dX1_openUnits_55 : decode cX1_openUnits 55 = .ok (.goto (-50), 3) := by decide +kernel
theorem dX1_openUnits_58 : decode cX1_openUnits 58 = .ok (.iload_n 3, 1) := by decide +kernel
theorem dX1_openUnits_59 : decode cX1_openUnits 59 = .ok (.ireturn, 1) := by decide +kernel
theorem dX1_roomCount_0 : decode cX1_roomCount 0 = .ok (.iconst 0, 1) := by decide +kernel
theorem dX1_roomCount_1 : decode cX1_roomCount 1 = .ok (.istore_n 1, 1) := by decide +kernel
theorem dX1_roomCount_2 : decode cX1_roomCount 2 = .ok (.iconst 0, 1) := by decide +kernel
theorem dX1_roomCount_3 : decode cX1_roomCount 3 = .ok (.istore_n 2, 1) := by decide +kernel
theorem dX1_roomCount_4 : decode cX1_roomCount 4 = .ok (.iload_n 2, 1) := by decide +kernel
theorem dX1_roomCount_5 : decode cX1_roomCount 5 = .ok (.bipush 16, 2) := by decide +kernel
theorem dX1_roomCount_7 : decode cX1_roomCount 7 = .ok (.if_icmp .ge 26, 3) := by decide +kernel
theorem dX1_roomCount_10 : decode cX1_roomCount 10 = .ok (.iload_n 1, 1) := by decide +kernel
theorem dX1_roomCount_11 : decode cX1_roomCount 11 = .ok (.aload_n 0, 1) := by decide +kernel
theorem dX1_roomCount_12 : decode cX1_roomCount 12 = .ok (.getfield 11, 3) := by decide +kernel
theorem dX1_roomCount_15 : decode cX1_roomCount 15 = .ok (.iload_n 2, 1) := by decide +kernel
theorem dX1_roomCount_16 : decode cX1_roomCount 16 = .ok (.aaload, 1) := by decide +kernel
theorem dX1_roomCount_17 : decode cX1_roomCount 17 = .ok (.ifnull 7, 3) := by decide +kernel
theorem dX1_roomCount_20 : decode cX1_roomCount 20 = .ok (.iconst 1, 1) := by decide +kernel
theorem dX1_roomCount_21 : decode cX1_roomCount 21 = .ok (.goto 4, 3) := by decide +kernel
theorem dX1_roomCount_24 : decode cX1_roomCount 24 = .ok (.iconst 0, 1) := by decide +kernel
theorem dX1_roomCount_25 : decode cX1_roomCount 25 = .ok (.iadd, 1) := by decide +kernel
theorem dX1_roomCount_26 : decode cX1_roomCount 26 = .ok (.istore_n 1, 1) := by decide +kernel
theorem dX1_roomCount_27 : decode cX1_roomCount 27 = .ok (.iinc 2 1, 3) := by decide +kernel
theorem dX1_roomCount_30 : decode cX1_roomCount 30 = .ok (.goto (-26), 3) := by decide +kernel
theorem dX1_roomCount_33 : decode cX1_roomCount 33 = .ok (.iload_n 1, 1) := by decide +kernel
theorem dX1_roomCount_34 : decode cX1_roomCount 34 = .ok (.ireturn, 1) := by decide +kernel
theorem dX1_storeCount_0 : decode cX1_storeCount 0 = .ok (.iconst 0, 1) := by decide +kernel
theorem dX1_storeCount_1 : decode cX1_storeCount 1 = .ok (.istore_n 1, 1) := by decide +kernel
theorem dX1_storeCount_2 : decode cX1_storeCount 2 = .ok (.iconst 0, 1) := by decide +kernel
theorem dX1_storeCount_3 : decode cX1_storeCount 3 = .ok (.istore_n 2, 1) := by decide +kernel
theorem dX1_storeCount_4 : decode cX1_storeCount 4 = .ok (.iload_n 2, 1) := by decide +kernel
theorem dX1_storeCount_5 : decode cX1_storeCount 5 = .ok (.bipush 16, 2) := by decide +kernel
theorem dX1_storeCount_7 : decode cX1_storeCount 7 = .ok (.if_icmp .ge 26, 3) := by decide +kernel
theorem dX1_storeCount_10 : decode cX1_storeCount 10 = .ok (.iload_n 1, 1) := by decide +kernel
theorem dX1_storeCount_11 : decode cX1_storeCount 11 = .ok (.aload_n 0, 1) := by decide +kernel
theorem dX1_storeCount_12 : decode cX1_storeCount 12 = .ok (.getfield 17, 3) := by decide +kernel
theorem dX1_storeCount_15 : decode cX1_storeCount 15 = .ok (.iload_n 2, 1) := by decide +kernel
theorem dX1_storeCount_16 : decode cX1_storeCount 16 = .ok (.baload, 1) := by decide +kernel
theorem dX1_storeCount_17 : decode cX1_storeCount 17 = .ok (.ifCond .eq 7, 3) := by decide +kernel
theorem dX1_storeCount_20 : decode cX1_storeCount 20 = .ok (.iconst 1, 1) := by decide +kernel
theorem dX1_storeCount_21 : decode cX1_storeCount 21 = .ok (.goto 4, 3) := by decide +kernel
theorem dX1_storeCount_24 : decode cX1_storeCount 24 = .ok (.iconst 0, 1) := by decide +kernel
theorem dX1_storeCount_25 : decode cX1_storeCount 25 = .ok (.iadd, 1) := by decide +kernel
theorem dX1_storeCount_26 : decode cX1_storeCount 26 = .ok (.istore_n 1, 1) := by decide +kernel
theorem dX1_storeCount_27 : decode cX1_storeCount 27 = .ok (.iinc 2 1, 3) := by decide +kernel
theorem dX1_storeCount_30 : decode cX1_storeCount 30 = .ok (.goto (-26), 3) := by decide +kernel
theorem dX1_storeCount_33 : decode cX1_storeCount 33 = .ok (.iload_n 1, 1) := by decide +kernel
theorem dX1_storeCount_34 : decode cX1_storeCount 34 = .ok (.ireturn, 1) := by decide +kernel
theorem dX1_doorCount_0 : decode cX1_doorCount 0 = .ok (.iconst 0, 1) := by decide +kernel
theorem dX1_doorCount_1 : decode cX1_doorCount 1 = .ok (.istore_n 1, 1) := by decide +kernel
theorem dX1_doorCount_2 : decode cX1_doorCount 2 = .ok (.iconst 0, 1) := by decide +kernel
theorem dX1_doorCount_3 : decode cX1_doorCount 3 = .ok (.istore_n 2, 1) := by decide +kernel
theorem dX1_doorCount_4 : decode cX1_doorCount 4 = .ok (.iload_n 2, 1) := by decide +kernel
theorem dX1_doorCount_5 : decode cX1_doorCount 5 = .ok (.bipush 16, 2) := by decide +kernel
theorem dX1_doorCount_7 : decode cX1_doorCount 7 = .ok (.if_icmp .ge 36, 3) := by decide +kernel
theorem dX1_doorCount_10 : decode cX1_doorCount 10 = .ok (.aload_n 0, 1) := by decide +kernel
theorem dX1_doorCount_11 : decode cX1_doorCount 11 = .ok (.getfield 11, 3) := by decide +kernel
theorem dX1_doorCount_14 : decode cX1_doorCount 14 = .ok (.iload_n 2, 1) := by decide +kernel
theorem dX1_doorCount_15 : decode cX1_doorCount 15 = .ok (.aaload, 1) := by decide +kernel
theorem dX1_doorCount_16 : decode cX1_doorCount 16 = .ok (.astore_n 3, 1) := by decide +kernel
theorem dX1_doorCount_17 : decode cX1_doorCount 17 = .ok (.iload_n 1, 1) := by decide +kernel
theorem dX1_doorCount_18 : decode cX1_doorCount 18 = .ok (.aload_n 3, 1) := by decide +kernel
theorem dX1_doorCount_19 : decode cX1_doorCount 19 = .ok (.ifnull 15, 3) := by decide +kernel
theorem dX1_doorCount_22 : decode cX1_doorCount 22 = .ok (.aload_n 3, 1) := by decide +kernel
theorem dX1_doorCount_23 : decode cX1_doorCount 23 = .ok (.getfield 36, 3) := by decide +kernel
theorem dX1_doorCount_26 : decode cX1_doorCount 26 = .ok (.iload_n 2, 1) := by decide +kernel
theorem dX1_doorCount_27 : decode cX1_doorCount 27 = .ok (.if_icmp .le 7, 3) := by decide +kernel
theorem dX1_doorCount_30 : decode cX1_doorCount 30 = .ok (.iconst 1, 1) := by decide +kernel
theorem dX1_doorCount_31 : decode cX1_doorCount 31 = .ok (.goto 4, 3) := by decide +kernel
theorem dX1_doorCount_34 : decode cX1_doorCount 34 = .ok (.iconst 0, 1) := by decide +kernel
theorem dX1_doorCount_35 : decode cX1_doorCount 35 = .ok (.iadd, 1) := by decide +kernel
theorem dX1_doorCount_36 : decode cX1_doorCount 36 = .ok (.istore_n 1, 1) := by decide +kernel
theorem dX1_doorCount_37 : decode cX1_doorCount 37 = .ok (.iinc 2 1, 3) := by decide +kernel
theorem dX1_doorCount_40 : decode cX1_doorCount 40 = .ok (.goto (-36), 3) := by decide +kernel
theorem dX1_doorCount_43 : decode cX1_doorCount 43 = .ok (.iload_n 1, 1) := by decide +kernel
theorem dX1_doorCount_44 : decode cX1_doorCount 44 = .ok (.ireturn, 1) := by decide +kernel
theorem dX2_init_0 : decode cX2_init 0 = .ok (.aload_n 0, 1) := by decide +kernel
theorem dX2_init_1 : decode cX2_init 1 = .ok (.invokespecial 3, 3) := by decide +kernel
theorem dX2_init_4 : decode cX2_init 4 = .ok (.aload_n 0, 1) := by decide +kernel
theorem dX2_init_5 : decode cX2_init 5 = .ok (.bipush 40, 2) := by decide +kernel
theorem dX2_init_7 : decode cX2_init 7 = .ok (.anewarray 9, 3) := by decide +kernel
theorem dX2_init_10 : decode cX2_init 10 = .ok (.putfield 11, 3) := by decide +kernel
theorem dX2_init_13 : decode cX2_init 13 = .ok (.aload_n 0, 1) := by decide +kernel
theorem dX2_init_14 : decode cX2_init 14 = .ok (.bipush 40, 2) := by decide +kernel
theorem dX2_init_16 : decode cX2_init 16 = .ok (.newarray .boolean, 2) := by decide +kernel
theorem dX2_init_18 : decode cX2_init 18 = .ok (.putfield 17, 3) := by decide +kernel
theorem dX2_init_21 : decode cX2_init 21 = .ok (.aload_n 0, 1) := by decide +kernel
theorem dX2_init_22 : decode cX2_init 22 = .ok (.aload_n 1, 1) := by decide +kernel
theorem dX2_init_23 : decode cX2_init 23 = .ok (.putfield 21, 3) := by decide +kernel
theorem dX2_init_26 : decode cX2_init 26 = .ok (.aload_n 0, 1) := by decide +kernel
theorem dX2_init_27 : decode cX2_init 27 = .ok (.aload_n 2, 1) := by decide +kernel
theorem dX2_init_28 : decode cX2_init 28 = .ok (.putfield 25, 3) := by decide +kernel
theorem dX2_init_31 : decode cX2_init 31 = .ok (.aload_n 0, 1) := by decide +kernel
theorem dX2_init_32 : decode cX2_init 32 = .ok (.aload_n 3, 1) := by decide +kernel
theorem dX2_init_33 : decode cX2_init 33 = .ok (.putfield 29, 3) := by decide +kernel
theorem dX2_init_36 : decode cX2_init 36 = .ok (.return_, 1) := by decide +kernel
theorem dX2_makeNight_0 : decode cX2_makeNight 0 = .ok (.aload_n 0, 1) := by decide +kernel
theorem dX2_makeNight_1 : decode cX2_makeNight 1 = .ok (.iload_n 1, 1) := by decide +kernel
theorem dX2_makeNight_2 : decode cX2_makeNight 2 = .ok (.invokevirtual 33, 3) := by decide +kernel
theorem dX2_makeNight_5 : decode cX2_makeNight 5 = .ok (.aload_n 0, 1) := by decide +kernel
theorem dX2_makeNight_6 : decode cX2_makeNight 6 = .ok (.getfield 37, 3) := by decide +kernel
theorem dX2_makeNight_9 : decode cX2_makeNight 9 = .ok (.ifCond .ne 4, 3) := by decide +kernel
theorem dX2_makeNight_12 : decode cX2_makeNight 12 = .ok (.return_, 1) := by decide +kernel
theorem dX2_makeNight_13 : decode cX2_makeNight 13 = .ok (.aload_n 0, 1) := by decide +kernel
theorem dX2_makeNight_14 : decode cX2_makeNight 14 = .ok (.getfield 29, 3) := by decide +kernel
theorem dX2_makeNight_17 : decode cX2_makeNight 17 = .ok (.iload_n 1, 1) := by decide +kernel
theorem dX2_makeNight_18 : decode cX2_makeNight 18 = .ok (.invokevirtual 41, 3) := by decide +kernel
theorem dX2_makeNight_21 : decode cX2_makeNight 21 = .ok (.aload_n 0, 1) := by decide +kernel
theorem dX2_makeNight_22 : decode cX2_makeNight 22 = .ok (.iconst 2, 1) := by decide +kernel
theorem dX2_makeNight_23 : decode cX2_makeNight 23 = .ok (.invokevirtual 46, 3) := by decide +kernel
theorem dX2_makeNight_26 : decode cX2_makeNight 26 = .ok (.aload_n 0, 1) := by decide +kernel
theorem dX2_makeNight_27 : decode cX2_makeNight 27 = .ok (.iconst 1, 1) := by decide +kernel
theorem dX2_makeNight_28 : decode cX2_makeNight 28 = .ok (.invokevirtual 46, 3) := by decide +kernel
theorem dX2_makeNight_31 : decode cX2_makeNight 31 = .ok (.aload_n 0, 1) := by decide +kernel
theorem dX2_makeNight_32 : decode cX2_makeNight 32 = .ok (.iconst 0, 1) := by decide +kernel
theorem dX2_makeNight_33 : decode cX2_makeNight 33 = .ok (.invokevirtual 46, 3) := by decide +kernel
theorem dX2_makeNight_36 : decode cX2_makeNight 36 = .ok (.iconst 0, 1) := by decide +kernel
theorem dX2_makeNight_37 : decode cX2_makeNight 37 = .ok (.istore_n 2, 1) := by decide +kernel
theorem dX2_makeNight_38 : decode cX2_makeNight 38 = .ok (.iload_n 2, 1) := by decide +kernel
theorem dX2_makeNight_39 : decode cX2_makeNight 39 = .ok (.aload_n 0, 1) := by decide +kernel
theorem dX2_makeNight_40 : decode cX2_makeNight 40 = .ok (.getfield 37, 3) := by decide +kernel
theorem dX2_makeNight_43 : decode cX2_makeNight 43 = .ok (.if_icmp .ge 46, 3) := by decide +kernel
theorem dX2_makeNight_46 : decode cX2_makeNight 46 = .ok (.iload_n 2, 1) := by decide +kernel
theorem dX2_makeNight_47 : decode cX2_makeNight 47 = .ok (.bipush 40, 2) := by decide +kernel
theorem dX2_makeNight_49 : decode cX2_makeNight 49 = .ok (.if_icmp .ge 40, 3) := by decide +kernel
theorem dX2_makeNight_52 : decode cX2_makeNight 52 = .ok (.aload_n 0, 1) := by decide +kernel
theorem dX2_makeNight_53 : decode cX2_makeNight 53 = .ok (.getfield 11, 3) := by decide +kernel
theorem dX2_makeNight_56 : decode cX2_makeNight 56 = .ok (.iload_n 2, 1) := by decide +kernel
theorem dX2_makeNight_57 : decode cX2_makeNight 57 = .ok (.aaload, 1) := by decide +kernel
theorem dX2_makeNight_58 : decode cX2_makeNight 58 = .ok (.astore_n 3, 1) := by decide +kernel
theorem dX2_makeNight_59 : decode cX2_makeNight 59 = .ok (.aload_n 3, 1) := by decide +kernel
theorem dX2_makeNight_60 : decode cX2_makeNight 60 = .ok (.ifnull 23, 3) := by decide +kernel
theorem dX2_makeNight_63 : decode cX2_makeNight 63 = .ok (.aload_n 0, 1) := by decide +kernel
theorem dX2_makeNight_64 : decode cX2_makeNight 64 = .ok (.getfield 17, 3) := by decide +kernel
theorem dX2_makeNight_67 : decode cX2_makeNight 67 = .ok (.iload_n 2, 1) := by decide +kernel
theorem dX2_makeNight_68 : decode cX2_makeNight 68 = .ok (.baload, 1) := by decide +kernel
theorem dX2_makeNight_69 : decode cX2_makeNight 69 = .ok (.ifCond .eq 14, 3) := by decide +kernel
theorem dX2_makeNight_72 : decode cX2_makeNight 72 = .ok (.aload_n 3, 1) := by decide +kernel
theorem dX2_makeNight_73 : decode cX2_makeNight 73 = .ok (.iload_n 1, 1) := by decide +kernel
theorem dX2_makeNight_74 : decode cX2_makeNight 74 = .ok (.aload_n 0, 1) := by decide +kernel
theorem dX2_makeNight_75 : decode cX2_makeNight 75 = .ok (.aload_n 3, 1) := by decide +kernel
theorem dX2_makeNight_76 : decode cX2_makeNight 76 = .ok (.iload_n 1, 1) := by decide +kernel
theorem dX2_makeNight_77 : decode cX2_makeNight 77 = .ok (.invokevirtual 49, 3) := by decide +kernel
theorem dX2_makeNight_80 : decode cX2_makeNight 80 = .ok (.invokevirtual 53, 3) := by decide +kernel
theorem dX2_makeNight_83 : decode cX2_makeNight 83 = .ok (.iinc 2 1, 3) := by decide +kernel
theorem dX2_makeNight_86 : decode cX2_makeNight 86 = .ok (.goto (-48), 3) := by decide +kernel
theorem dX2_makeNight_89 : decode cX2_makeNight 89 = .ok (.iconst 0, 1) := by decide +kernel
theorem dX2_makeNight_90 : decode cX2_makeNight 90 = .ok (.istore_n 2, 1) := by decide +kernel
theorem dX2_makeNight_91 : decode cX2_makeNight 91 = .ok (.iload_n 2, 1) := by decide +kernel
theorem dX2_makeNight_92 : decode cX2_makeNight 92 = .ok (.aload_n 0, 1) := by decide +kernel
theorem dX2_makeNight_93 : decode cX2_makeNight 93 = .ok (.getfield 37, 3) := by decide +kernel
theorem dX2_makeNight_96 : decode cX2_makeNight 96 = .ok (.if_icmp .ge 72, 3) := by decide +kernel
theorem dX2_makeNight_99 : decode cX2_makeNight 99 = .ok (.iload_n 2, 1) := by decide +kernel
theorem dX2_makeNight_100 : decode cX2_makeNight 100 = .ok (.bipush 40, 2) := by decide +kernel
theorem dX2_makeNight_102 : decode cX2_makeNight 102 = .ok (.if_icmp .ge 66, 3) := by decide +kernel
theorem dX2_makeNight_105 : decode cX2_makeNight 105 = .ok (.aload_n 0, 1) := by decide +kernel
theorem dX2_makeNight_106 : decode cX2_makeNight 106 = .ok (.getfield 11, 3) := by decide +kernel
theorem dX2_makeNight_109 : decode cX2_makeNight 109 = .ok (.iload_n 2, 1) := by decide +kernel
theorem dX2_makeNight_110 : decode cX2_makeNight 110 = .ok (.aaload, 1) := by decide +kernel
theorem dX2_makeNight_111 : decode cX2_makeNight 111 = .ok (.astore_n 3, 1) := by decide +kernel
theorem dX2_makeNight_112 : decode cX2_makeNight 112 = .ok (.aload_n 3, 1) := by decide +kernel
theorem dX2_makeNight_113 : decode cX2_makeNight 113 = .ok (.ifnull 49, 3) := by decide +kernel
theorem dX2_makeNight_116 : decode cX2_makeNight 116 = .ok (.aload_n 0, 1) := by decide +kernel
theorem dX2_makeNight_117 : decode cX2_makeNight 117 = .ok (.getfield 17, 3) := by decide +kernel
theorem dX2_makeNight_120 : decode cX2_makeNight 120 = .ok (.iload_n 2, 1) := by decide +kernel
theorem dX2_makeNight_121 : decode cX2_makeNight 121 = .ok (.baload, 1) := by decide +kernel
theorem dX2_makeNight_122 : decode cX2_makeNight 122 = .ok (.ifCond .eq 40, 3) := by decide +kernel
theorem dX2_makeNight_125 : decode cX2_makeNight 125 = .ok (.aload_n 3, 1) := by decide +kernel
theorem dX2_makeNight_126 : decode cX2_makeNight 126 = .ok (.iload_n 1, 1) := by decide +kernel
theorem dX2_makeNight_127 : decode cX2_makeNight 127 = .ok (.invokevirtual 57, 3) := by decide +kernel
theorem dX2_makeNight_130 : decode cX2_makeNight 130 = .ok (.iconst (-1), 1) := by decide +kernel
theorem dX2_makeNight_131 : decode cX2_makeNight 131 = .ok (.if_icmp .ne 31, 3) := by decide +kernel
theorem dX2_makeNight_134 : decode cX2_makeNight 134 = .ok (.aload_n 3, 1) := by decide +kernel
theorem dX2_makeNight_135 : decode cX2_makeNight 135 = .ok (.iload_n 1, 1) := by decide +kernel
theorem dX2_makeNight_136 : decode cX2_makeNight 136 = .ok (.aload_n 3, 1) := by decide +kernel
theorem dX2_makeNight_137 : decode cX2_makeNight 137 = .ok (.getfield 61, 3) := by decide +kernel
theorem dX2_makeNight_140 : decode cX2_makeNight 140 = .ok (.iconst 4, 1) := by decide +kernel
theorem dX2_makeNight_141 : decode cX2_makeNight 141 = .ok (.if_icmp .ne 10, 3) := by decide +kernel
theorem dX2_makeNight_144 : decode cX2_makeNight 144 = .ok (.aload_n 0, 1) := by decide +kernel
theorem dX2_makeNight_145 : decode cX2_makeNight 145 = .ok (.invokevirtual 64, 3) := by decide +kernel
theorem dX2_makeNight_148 : decode cX2_makeNight 148 = .ok (.goto 11, 3) := by decide +kernel
theorem dX2_makeNight_151 : decode cX2_makeNight 151 = .ok (.aload_n 0, 1) := by decide +kernel
theorem dX2_makeNight_152 : decode cX2_makeNight 152 = .ok (.aload_n 3, 1) := by decide +kernel
theorem dX2_makeNight_153 : decode cX2_makeNight 153 = .ok (.getfield 61, 3) := by decide +kernel
theorem dX2_makeNight_156 : decode cX2_makeNight 156 = .ok (.invokevirtual 68, 3) := by decide +kernel
theorem dX2_makeNight_159 : decode cX2_makeNight 159 = .ok (.invokevirtual 53, 3) := by decide +kernel
theorem dX2_makeNight_162 : decode cX2_makeNight 162 = .ok (.iinc 2 1, 3) := by decide +kernel
theorem dX2_makeNight_165 : decode cX2_makeNight 165 = .ok (.goto (-74), 3) := by decide +kernel
theorem dX2_makeNight_168 : decode cX2_makeNight 168 = .ok (.return_, 1) := by decide +kernel
theorem dX2_gather_0 : decode cX2_gather 0 = .ok (.aload_n 0, 1) := by decide +kernel
theorem dX2_gather_1 : decode cX2_gather 1 = .ok (.iconst 0, 1) := by decide +kernel
theorem dX2_gather_2 : decode cX2_gather 2 = .ok (.putfield 37, 3) := by decide +kernel
theorem dX2_gather_5 : decode cX2_gather 5 = .ok (.iconst 0, 1) := by decide +kernel
theorem dX2_gather_6 : decode cX2_gather 6 = .ok (.istore_n 2, 1) := by decide +kernel
theorem dX2_gather_7 : decode cX2_gather 7 = .ok (.iload_n 2, 1) := by decide +kernel
theorem dX2_gather_8 : decode cX2_gather 8 = .ok (.aload_n 0, 1) := by decide +kernel
theorem dX2_gather_9 : decode cX2_gather 9 = .ok (.getfield 25, 3) := by decide +kernel
theorem dX2_gather_12 : decode cX2_gather 12 = .ok (.getfield 71, 3) := by decide +kernel
theorem dX2_gather_15 : decode cX2_gather 15 = .ok (.if_icmp .ge 85, 3) := by decide +kernel
theorem dX2_gather_18 : decode cX2_gather 18 = .ok (.aload_n 0, 1) := by decide +kernel
theorem dX2_gather_19 : decode cX2_gather 19 = .ok (.getfield 25, 3) := by decide +kernel
theorem dX2_gather_22 : decode cX2_gather 22 = .ok (.iload_n 2, 1) := by decide +kernel
theorem dX2_gather_23 : decode cX2_gather 23 = .ok (.invokevirtual 76, 3) := by decide +kernel
theorem dX2_gather_26 : decode cX2_gather 26 = .ok (.astore_n 3, 1) := by decide +kernel
theorem dX2_gather_27 : decode cX2_gather 27 = .ok (.aload_n 3, 1) := by decide +kernel
theorem dX2_gather_28 : decode cX2_gather 28 = .ok (.ifnonnull 6, 3) := by decide +kernel
theorem dX2_gather_31 : decode cX2_gather 31 = .ok (.goto 63, 3) := by decide +kernel
theorem dX2_gather_34 : decode cX2_gather 34 = .ok (.aload_n 3, 1) := by decide +kernel
theorem dX2_gather_35 : decode cX2_gather 35 = .ok (.iload_n 1, 1) := by decide +kernel
theorem dX2_gather_36 : decode cX2_gather 36 = .ok (.iconst (-1), 1) := by decide +kernel
theorem dX2_gather_37 : decode cX2_gather 37 = .ok (.invokevirtual 53, 3) := by decide +kernel
theorem dX2_gather_40 : decode cX2_gather 40 = .ok (.aload_n 3, 1) := by decide +kernel
theorem dX2_gather_41 : decode cX2_gather 41 = .ok (.invokevirtual 80, 3) := by decide +kernel
theorem dX2_gather_44 : decode cX2_gather 44 = .ok (.ifCond .eq 50, 3) := by decide +kernel
theorem dX2_gather_47 : decode cX2_gather 47 = .ok (.aload_n 3, 1) := by decide +kernel
theorem dX2_gather_48 : decode cX2_gather 48 = .ok (.iload_n 1, 1) := by decide +kernel
theorem dX2_gather_49 : decode cX2_gather 49 = .ok (.invokevirtual 84, 3) := by decide +kernel
theorem dX2_gather_52 : decode cX2_gather 52 = .ok (.ifCond .eq 42, 3) := by decide +kernel
theorem dX2_gather_55 : decode cX2_gather 55 = .ok (.aload_n 0, 1) := by decide +kernel
theorem dX2_gather_56 : decode cX2_gather 56 = .ok (.getfield 37, 3) := by decide +kernel
theorem dX2_gather_59 : decode cX2_gather 59 = .ok (.bipush 40, 2) := by decide +kernel
theorem dX2_gather_61 : decode cX2_gather 61 = .ok (.if_icmp .ge 33, 3) := by decide +kernel
theorem dX2_gather_64 : decode cX2_gather 64 = .ok (.aload_n 0, 1) := by decide +kernel
theorem dX2_gather_65 : decode cX2_gather 65 = .ok (.getfield 11, 3) := by decide +kernel
theorem dX2_gather_68 : decode cX2_gather 68 = .ok (.aload_n 0, 1) := by decide +kernel
theorem dX2_gather_69 : decode cX2_gather 69 = .ok (.getfield 37, 3) := by decide +kernel
theorem dX2_gather_72 : decode cX2_gather 72 = .ok (.aload_n 3, 1) := by decide +kernel
theorem dX2_gather_73 : decode cX2_gather 73 = .ok (.aastore, 1) := by decide +kernel
theorem dX2_gather_74 : decode cX2_gather 74 = .ok (.aload_n 0, 1) := by decide +kernel
theorem dX2_gather_75 : decode cX2_gather 75 = .ok (.getfield 17, 3) := by decide +kernel
theorem dX2_gather_78 : decode cX2_gather 78 = .ok (.aload_n 0, 1) := by decide +kernel
theorem dX2_gather_79 : decode cX2_gather 79 = .ok (.getfield 37, 3) := by decide +kernel
theorem dX2_gather_82 : decode cX2_gather 82 = .ok (.iconst 0, 1) := by decide +kernel
theorem dX2_gather_83 : decode cX2_gather 83 = .ok (.bastore, 1) := by decide +kernel
theorem dX2_gather_84 : decode cX2_gather 84 = .ok (.aload_n 0, 1) := by decide +kernel
theorem dX2_gather_85 : decode cX2_gather 85 = .ok (.dup, 1) := by decide +kernel
theorem dX2_gather_86 : decode cX2_gather 86 = .ok (.getfield 37, 3) := by decide +kernel
theorem dX2_gather_89 : decode cX2_gather 89 = .ok (.iconst 1, 1) := by decide +kernel
theorem dX2_gather_90 : decode cX2_gather 90 = .ok (.iadd, 1) := by decide +kernel
theorem dX2_gather_91 : decode cX2_gather 91 = .ok (.putfield 37, 3) := by decide +kernel
theorem dX2_gather_94 : decode cX2_gather 94 = .ok (.iinc 2 1, 3) := by decide +kernel
theorem dX2_gather_97 : decode cX2_gather 97 = .ok (.goto (-90), 3) := by decide +kernel
theorem dX2_gather_100 : decode cX2_gather 100 = .ok (.return_, 1) := by decide +kernel
theorem dX2_keepThose_0 : decode cX2_keepThose 0 = .ok (.iconst 0, 1) := by decide +kernel
theorem dX2_keepThose_1 : decode cX2_keepThose 1 = .ok (.istore_n 2, 1) := by decide +kernel
theorem dX2_keepThose_2 : decode cX2_keepThose 2 = .ok (.iload_n 2, 1) := by decide +kernel
theorem dX2_keepThose_3 : decode cX2_keepThose 3 = .ok (.aload_n 0, 1) := by decide +kernel
theorem dX2_keepThose_4 : decode cX2_keepThose 4 = .ok (.getfield 37, 3) := by decide +kernel
theorem dX2_keepThose_7 : decode cX2_keepThose 7 = .ok (.if_icmp .ge 81, 3) := by decide +kernel
theorem dX2_keepThose_10 : decode cX2_keepThose 10 = .ok (.iload_n 2, 1) := by decide +kernel
theorem dX2_keepThose_11 : decode cX2_keepThose 11 = .ok (.bipush 40, 2) := by decide +kernel
theorem dX2_keepThose_13 : decode cX2_keepThose 13 = .ok (.if_icmp .ge 75, 3) := by decide +kernel
theorem dX2_keepThose_16 : decode cX2_keepThose 16 = .ok (.aload_n 0, 1) := by decide +kernel
theorem dX2_keepThose_17 : decode cX2_keepThose 17 = .ok (.getfield 11, 3) := by decide +kernel
theorem dX2_keepThose_20 : decode cX2_keepThose 20 = .ok (.iload_n 2, 1) := by decide +kernel
theorem dX2_keepThose_21 : decode cX2_keepThose 21 = .ok (.aaload, 1) := by decide +kernel
theorem dX2_keepThose_22 : decode cX2_keepThose 22 = .ok (.astore_n 3, 1) := by decide +kernel
theorem dX2_keepThose_23 : decode cX2_keepThose 23 = .ok (.aload_n 3, 1) := by decide +kernel
theorem dX2_keepThose_24 : decode cX2_keepThose 24 = .ok (.ifnull 58, 3) := by decide +kernel
theorem dX2_keepThose_27 : decode cX2_keepThose 27 = .ok (.aload_n 3, 1) := by decide +kernel
theorem dX2_keepThose_28 : decode cX2_keepThose 28 = .ok (.getfield 88, 3) := by decide +kernel
theorem dX2_keepThose_31 : decode cX2_keepThose 31 = .ok (.iload_n 1, 1) := by decide +kernel
theorem dX2_keepThose_32 : decode cX2_keepThose 32 = .ok (.if_icmp .eq 6, 3) := by decide +kernel
theorem dX2_keepThose_35 : decode cX2_keepThose 35 = .ok (.goto 47, 3) := by decide +kernel
theorem dX2_keepThose_38 : decode cX2_keepThose 38 = .ok (.aload_n 0, 1) := by decide +kernel
theorem dX2_keepThose_39 : decode cX2_keepThose 39 = .ok (.getfield 29, 3) := by decide +kernel
theorem dX2_keepThose_42 : decode cX2_keepThose 42 = .ok (.aload_n 3, 1) := by decide +kernel
theorem dX2_keepThose_43 : decode cX2_keepThose 43 = .ok (.getfield 61, 3) := by decide +kernel
theorem dX2_keepThose_46 : decode cX2_keepThose 46 = .ok (.invokevirtual 91, 3) := by decide +kernel
theorem dX2_keepThose_49 : decode cX2_keepThose 49 = .ok (.aload_n 0, 1) := by decide +kernel
theorem dX2_keepThose_50 : decode cX2_keepThose 50 = .ok (.getfield 17, 3) := by decide +kernel
theorem dX2_keepThose_53 : decode cX2_keepThose 53 = .ok (.iload_n 2, 1) := by decide +kernel
theorem dX2_keepThose_54 : decode cX2_keepThose 54 = .ok (.aload_n 0, 1) := by decide +kernel
theorem dX2_keepThose_55 : decode cX2_keepThose 55 = .ok (.getfield 29, 3) := by decide +kernel
theorem dX2_keepThose_58 : decode cX2_keepThose 58 = .ok (.invokevirtual 94, 3) := by decide +kernel
theorem dX2_keepThose_61 : decode cX2_keepThose 61 = .ok (.bastore, 1) := by decide +kernel
theorem dX2_keepThose_62 : decode cX2_keepThose 62 = .ok (.aload_n 0, 1) := by decide +kernel
theorem dX2_keepThose_63 : decode cX2_keepThose 63 = .ok (.getfield 17, 3) := by decide +kernel
theorem dX2_keepThose_66 : decode cX2_keepThose 66 = .ok (.iload_n 2, 1) := by decide +kernel
theorem dX2_keepThose_67 : decode cX2_keepThose 67 = .ok (.baload, 1) := by decide +kernel
theorem dX2_keepThose_68 : decode cX2_keepThose 68 = .ok (.ifCond .ne 14, 3) := by decide +kernel
theorem dX2_keepThose_71 : decode cX2_keepThose 71 = .ok (.aload_n 0, 1) := by decide +kernel
theorem dX2_keepThose_72 : decode cX2_keepThose 72 = .ok (.getfield 29, 3) := by decide +kernel
theorem dX2_keepThose_75 : decode cX2_keepThose 75 = .ok (.aload_n 3, 1) := by decide +kernel
theorem dX2_keepThose_76 : decode cX2_keepThose 76 = .ok (.getfield 61, 3) := by decide +kernel
theorem dX2_keepThose_79 : decode cX2_keepThose 79 = .ok (.invokevirtual 97, 3) := by decide +kernel
theorem dX2_keepThose_82 : decode cX2_keepThose 82 = .ok (.iinc 2 1, 3) := by decide +kernel
theorem dX2_keepThose_85 : decode cX2_keepThose 85 = .ok (.goto (-83), 3) := by decide +kernel
theorem dX2_keepThose_88 : decode cX2_keepThose 88 = .ok (.return_, 1) := by decide +kernel
theorem dX2_spotAgain_0 : decode cX2_spotAgain 0 = .ok (.aload_n 1, 1) := by decide +kernel
theorem dX2_spotAgain_1 : decode cX2_spotAgain 1 = .ok (.iload_n 2, 1) := by decide +kernel
theorem dX2_spotAgain_2 : decode cX2_spotAgain 2 = .ok (.iconst 1, 1) := by decide +kernel
theorem dX2_spotAgain_3 : decode cX2_spotAgain 3 = .ok (.isub, 1) := by decide +kernel
theorem dX2_spotAgain_4 : decode cX2_spotAgain 4 = .ok (.invokevirtual 57, 3) := by decide +kernel
theorem dX2_spotAgain_7 : decode cX2_spotAgain 7 = .ok (.istore_n 3, 1) := by decide +kernel
theorem dX2_spotAgain_8 : decode cX2_spotAgain 8 = .ok (.aload_n 0, 1) := by decide +kernel
theorem dX2_spotAgain_9 : decode cX2_spotAgain 9 = .ok (.getfield 29, 3) := by decide +kernel
theorem dX2_spotAgain_12 : decode cX2_spotAgain 12 = .ok (.iload_n 3, 1) := by decide +kernel
theorem dX2_spotAgain_13 : decode cX2_spotAgain 13 = .ok (.aload_n 1, 1) := by decide +kernel
theorem dX2_spotAgain_14 : decode cX2_spotAgain 14 = .ok (.getfield 61, 3) := by decide +kernel
theorem dX2_spotAgain_17 : decode cX2_spotAgain 17 = .ok (.invokevirtual 100, 3) := by decide +kernel
theorem dX2_spotAgain_20 : decode cX2_spotAgain 20 = .ok (.ifCond .eq 7, 3) := by decide +kernel
theorem dX2_spotAgain_23 : decode cX2_spotAgain 23 = .ok (.iload_n 3, 1) := by decide +kernel
theorem dX2_spotAgain_24 : decode cX2_spotAgain 24 = .ok (.goto 4, 3) := by decide +kernel
theorem dX2_spotAgain_27 : decode cX2_spotAgain 27 = .ok (.iconst (-1), 1) := by decide +kernel
theorem dX2_spotAgain_28 : decode cX2_spotAgain 28 = .ok (.ireturn, 1) := by decide +kernel
theorem dX2_firstSuite_0 : decode cX2_firstSuite 0 = .ok (.iconst 0, 1) := by decide +kernel
theorem dX2_firstSuite_1 : decode cX2_firstSuite 1 = .ok (.istore_n 1, 1) := by decide +kernel
theorem dX2_firstSuite_2 : decode cX2_firstSuite 2 = .ok (.iload_n 1, 1) := by decide +kernel
theorem dX2_firstSuite_3 : decode cX2_firstSuite 3 = .ok (.bipush 16, 2) := by decide +kernel
theorem dX2_firstSuite_5 : decode cX2_firstSuite 5 = .ok (.if_icmp .ge 51, 3) := by decide +kernel
theorem dX2_firstSuite_8 : decode cX2_firstSuite 8 = .ok (.aload_n 0, 1) := by decide +kernel
theorem dX2_firstSuite_9 : decode cX2_firstSuite 9 = .ok (.getfield 21, 3) := by decide +kernel
theorem dX2_firstSuite_12 : decode cX2_firstSuite 12 = .ok (.iload_n 1, 1) := by decide +kernel
theorem dX2_firstSuite_13 : decode cX2_firstSuite 13 = .ok (.invokevirtual 104, 3) := by decide +kernel
theorem dX2_firstSuite_16 : decode cX2_firstSuite 16 = .ok (.astore_n 2, 1) := by decide +kernel
theorem dX2_firstSuite_17 : decode cX2_firstSuite 17 = .ok (.iload_n 1, 1) := by decide +kernel
theorem dX2_firstSuite_18 : decode cX2_firstSuite 18 = .ok (.iconst 0, 1) := by decide +kernel
theorem dX2_firstSuite_19 : decode cX2_firstSuite 19 = .ok (.iconst 1, 1) := by decide +kernel
theorem dX2_firstSuite_20 : decode cX2_firstSuite 20 = .ok (.invokestatic 110, 3) := by decide +kernel
theorem dX2_firstSuite_23 : decode cX2_firstSuite 23 = .ok (.istore_n 3, 1) := by decide +kernel
theorem dX2_firstSuite_24 : decode cX2_firstSuite 24 = .ok (.aload_n 2, 1) := by decide +kernel
theorem dX2_firstSuite_25 : decode cX2_firstSuite 25 = .ok (.ifnull 25, 3) := by decide +kernel
theorem dX2_firstSuite_28 : decode cX2_firstSuite 28 = .ok (.aload_n 2, 1) := by decide +kernel
theorem dX2_firstSuite_29 : decode cX2_firstSuite 29 = .ok (.getfield 114, 3) := by decide +kernel
theorem dX2_firstSuite_32 : decode cX2_firstSuite 32 = .ok (.iload_n 1, 1) := by decide +kernel
theorem dX2_firstSuite_33 : decode cX2_firstSuite 33 = .ok (.if_icmp .le 17, 3) := by decide +kernel
theorem dX2_firstSuite_36 : decode cX2_firstSuite 36 = .ok (.aload_n 0, 1) := by decide +kernel
theorem dX2_firstSuite_37 : decode cX2_firstSuite 37 = .ok (.getfield 29, 3) := by decide +kernel
theorem dX2_firstSuite_40 : decode cX2_firstSuite 40 = .ok (.iload_n 3, 1) := by decide +kernel
theorem dX2_firstSuite_41 : decode cX2_firstSuite 41 = .ok (.iconst 4, 1) := by decide +kernel
theorem dX2_firstSuite_42 : decode cX2_firstSuite 42 = .ok (.invokevirtual 100, 3) := by decide +kernel
theorem dX2_firstSuite_45 : decode cX2_firstSuite 45 = .ok (.ifCond .eq 5, 3) := by decide +kernel
theorem dX2_firstSuite_48 : decode cX2_firstSuite 48 = .ok (.iload_n 3, 1) := by decide +kernel
theorem dX2_firstSuite_49 : decode cX2_firstSuite 49 = .ok (.ireturn, 1) := by decide +kernel
theorem dX2_firstSuite_50 : decode cX2_firstSuite 50 = .ok (.iinc 1 1, 3) := by decide +kernel
theorem dX2_firstSuite_53 : decode cX2_firstSuite 53 = .ok (.goto (-51), 3) := by decide +kernel
theorem dX2_firstSuite_56 : decode cX2_firstSuite 56 = .ok (.iconst (-1), 1) := by decide +kernel
theorem dX2_firstSuite_57 : decode cX2_firstSuite 57 = .ok (.ireturn, 1) := by decide +kernel
theorem dX2_firstUnit_0 : decode cX2_firstUnit 0 = .ok (.iconst 0, 1) := by decide +kernel
theorem dX2_firstUnit_1 : decode cX2_firstUnit 1 = .ok (.istore_n 2, 1) := by decide +kernel
theorem dX2_firstUnit_2 : decode cX2_firstUnit 2 = .ok (.iload_n 2, 1) := by decide +kernel
theorem dX2_firstUnit_3 : decode cX2_firstUnit 3 = .ok (.bipush 16, 2) := by decide +kernel
theorem dX2_firstUnit_5 : decode cX2_firstUnit 5 = .ok (.if_icmp .ge 81, 3) := by decide +kernel
theorem dX2_firstUnit_8 : decode cX2_firstUnit 8 = .ok (.aload_n 0, 1) := by decide +kernel
theorem dX2_firstUnit_9 : decode cX2_firstUnit 9 = .ok (.getfield 21, 3) := by decide +kernel
theorem dX2_firstUnit_12 : decode cX2_firstUnit 12 = .ok (.iload_n 2, 1) := by decide +kernel
theorem dX2_firstUnit_13 : decode cX2_firstUnit 13 = .ok (.invokevirtual 104, 3) := by decide +kernel
theorem dX2_firstUnit_16 : decode cX2_firstUnit 16 = .ok (.astore_n 3, 1) := by decide +kernel
theorem dX2_firstUnit_17 : decode cX2_firstUnit 17 = .ok (.aload_n 3, 1) := by decide +kernel
theorem dX2_firstUnit_18 : decode cX2_firstUnit 18 = .ok (.ifnull 18, 3) := by decide +kernel
theorem dX2_firstUnit_21 : decode cX2_firstUnit 21 = .ok (.aload_n 3, 1) := by decide +kernel
theorem dX2_firstUnit_22 : decode cX2_firstUnit 22 = .ok (.iload_n 1, 1) := by decide +kernel
theorem dX2_firstUnit_23 : decode cX2_firstUnit 23 = .ok (.invokevirtual 119, 3) := by decide +kernel
theorem dX2_firstUnit_26 : decode cX2_firstUnit 26 = .ok (.ifCond .eq 10, 3) := by decide +kernel
theorem dX2_firstUnit_29 : decode cX2_firstUnit 29 = .ok (.aload_n 3, 1) := by decide +kernel
theorem dX2_firstUnit_30 : decode cX2_firstUnit 30 = .ok (.invokevirtual 122, 3) := by decide +kernel
theorem dX2_firstUnit_33 : decode cX2_firstUnit 33 = .ok (.goto 4, 3) := by decide +kernel
theorem dX2_firstUnit_36 : decode cX2_firstUnit 36 = .ok (.iconst 0, 1) := by decide +kernel
theorem dX2_firstUnit_37 : decode cX2_firstUnit 37 = .ok (.istore 4, 2) := by decide +kernel
theorem dX2_firstUnit_39 : decode cX2_firstUnit 39 = .ok (.iconst 0, 1) := by decide +kernel
theorem dX2_firstUnit_40 : decode cX2_firstUnit 40 = .ok (.istore 5, 2) := by decide +kernel
theorem dX2_firstUnit_42 : decode cX2_firstUnit 42 = .ok (.iload 5, 2) := by decide +kernel
theorem dX2_firstUnit_44 : decode cX2_firstUnit 44 = .ok (.iload 4, 2) := by decide +kernel
theorem dX2_firstUnit_46 : decode cX2_firstUnit 46 = .ok (.if_icmp .ge 34, 3) := by decide +kernel
theorem dX2_firstUnit_49 : decode cX2_firstUnit 49 = .ok (.iload_n 2, 1) := by decide +kernel
theorem dX2_firstUnit_50 : decode cX2_firstUnit 50 = .ok (.iload 5, 2) := by decide +kernel
theorem dX2_firstUnit_52 : decode cX2_firstUnit 52 = .ok (.iconst 0, 1) := by decide +kernel
theorem dX2_firstUnit_53 : decode cX2_firstUnit 53 = .ok (.invokestatic 110, 3) := by decide +kernel
theorem dX2_firstUnit_56 : decode cX2_firstUnit 56 = .ok (.istore 6, 2) := by decide +kernel
theorem dX2_firstUnit_58 : decode cX2_firstUnit 58 = .ok (.aload_n 0, 1) := by decide +kernel
theorem dX2_firstUnit_59 : decode cX2_firstUnit 59 = .ok (.getfield 29, 3) := by decide +kernel
theorem dX2_firstUnit_62 : decode cX2_firstUnit 62 = .ok (.iload 6, 2) := by decide +kernel
theorem dX2_firstUnit_64 : decode cX2_firstUnit 64 = .ok (.iload_n 1, 1) := by decide +kernel
theorem dX2_firstUnit_65 : decode cX2_firstUnit 65 = .ok (.invokevirtual 100, 3) := by decide +kernel
theorem dX2_firstUnit_68 : decode cX2_firstUnit 68 = .ok (.ifCond .eq 6, 3) := by decide +kernel
theorem dX2_firstUnit_71 : decode cX2_firstUnit 71 = .ok (.iload 6, 2) := by decide +kernel
theorem dX2_firstUnit_73 : decode cX2_firstUnit 73 = .ok (.ireturn, 1) := by decide +kernel
theorem dX2_firstUnit_74 : decode cX2_firstUnit 74 = .ok (.iinc 5 1, 3) := by decide +kernel
theorem dX2_firstUnit_77 : decode cX2_firstUnit 77 = .ok (.goto (-35), 3) := by decide +kernel
theorem dX2_firstUnit_80 : decode cX2_firstUnit 80 = .ok (.iinc 2 1, 3) := by decide +kernel
theorem dX2_firstUnit_83 : decode cX2_firstUnit 83 = .ok (.goto (-81), 3) := by decide +kernel
theorem dX2_firstUnit_86 : decode cX2_firstUnit 86 = .ok (.iconst (-1), 1) := by decide +kernel
theorem dX2_firstUnit_87 : decode cX2_firstUnit 87 = .ok (.ireturn, 1) := by decide +kernel
theorem dX3_init_0 : decode cX3_init 0 = .ok (.aload_n 0, 1) := by decide +kernel
theorem dX3_init_1 : decode cX3_init 1 = .ok (.invokespecial 3, 3) := by decide +kernel
theorem dX3_init_4 : decode cX3_init 4 = .ok (.aload_n 0, 1) := by decide +kernel
theorem dX3_init_5 : decode cX3_init 5 = .ok (.bipush 60, 2) := by decide +kernel
theorem dX3_init_7 : decode cX3_init 7 = .ok (.newarray .int, 2) := by decide +kernel
theorem dX3_init_9 : decode cX3_init 9 = .ok (.putfield 9, 3) := by decide +kernel
theorem dX3_init_12 : decode cX3_init 12 = .ok (.aload_n 0, 1) := by decide +kernel
theorem dX3_init_13 : decode cX3_init 13 = .ok (.iload_n 1, 1) := by decide +kernel
theorem dX3_init_14 : decode cX3_init 14 = .ok (.putfield 15, 3) := by decide +kernel
theorem dX3_init_17 : decode cX3_init 17 = .ok (.aload_n 0, 1) := by decide +kernel
theorem dX3_init_18 : decode cX3_init 18 = .ok (.iload_n 2, 1) := by decide +kernel
theorem dX3_init_19 : decode cX3_init 19 = .ok (.putfield 19, 3) := by decide +kernel
theorem dX3_init_22 : decode cX3_init 22 = .ok (.aload_n 0, 1) := by decide +kernel
theorem dX3_init_23 : decode cX3_init 23 = .ok (.iload_n 3, 1) := by decide +kernel
theorem dX3_init_24 : decode cX3_init 24 = .ok (.putfield 22, 3) := by decide +kernel
theorem dX3_init_27 : decode cX3_init 27 = .ok (.aload_n 0, 1) := by decide +kernel
theorem dX3_init_28 : decode cX3_init 28 = .ok (.iload_n 3, 1) := by decide +kernel
theorem dX3_init_29 : decode cX3_init 29 = .ok (.iconst (-1), 1) := by decide +kernel
theorem dX3_init_30 : decode cX3_init 30 = .ok (.if_icmp .ne 7, 3) := by decide +kernel
theorem dX3_init_33 : decode cX3_init 33 = .ok (.iconst 1, 1) := by decide +kernel
theorem dX3_init_34 : decode cX3_init 34 = .ok (.goto 4, 3) := by decide +kernel
theorem dX3_init_37 : decode cX3_init 37 = .ok (.iconst 0, 1) := by decide +kernel
theorem dX3_init_38 : decode cX3_init 38 = .ok (.putfield 25, 3) := by decide +kernel
theorem dX3_init_41 : decode cX3_init 41 = .ok (.aload_n 0, 1) := by decide +kernel
theorem dX3_init_42 : decode cX3_init 42 = .ok (.getfield 9, 3) := by decide +kernel
theorem dX3_init_45 : decode cX3_init 45 = .ok (.iconst (-1), 1) := by decide +kernel
theorem dX3_init_46 : decode cX3_init 46 = .ok (.invokestatic 28, 3) := by decide +kernel
theorem dX3_init_49 : decode cX3_init 49 = .ok (.return_, 1) := by decide +kernel
theorem dX3_setNights_0 : decode cX3_setNights 0 = .ok (.aload_n 0, 1) := by decide +kernel
theorem dX3_setNights_1 : decode cX3_setNights 1 = .ok (.iload_n 1, 1) := by decide +kernel
theorem dX3_setNights_2 : decode cX3_setNights 2 = .ok (.putfield 34, 3) := by decide +kernel
theorem dX3_setNights_5 : decode cX3_setNights 5 = .ok (.aload_n 0, 1) := by decide +kernel
theorem dX3_setNights_6 : decode cX3_setNights 6 = .ok (.iload_n 2, 1) := by decide +kernel
theorem dX3_setNights_7 : decode cX3_setNights 7 = .ok (.putfield 37, 3) := by decide +kernel
theorem dX3_setNights_10 : decode cX3_setNights 10 = .ok (.aload_n 0, 1) := by decide +kernel
theorem dX3_setNights_11 : decode cX3_setNights 11 = .ok (.lload_n 3, 1) := by decide +kernel
theorem dX3_setNights_12 : decode cX3_setNights 12 = .ok (.putfield 40, 3) := by decide +kernel
theorem dX3_setNights_15 : decode cX3_setNights 15 = .ok (.return_, 1) := by decide +kernel
theorem dX3_stands_0 : decode cX3_stands 0 = .ok (.aload_n 0, 1) := by decide +kernel
theorem dX3_stands_1 : decode cX3_stands 1 = .ok (.getfield 25, 3) := by decide +kernel
theorem dX3_stands_4 : decode cX3_stands 4 = .ok (.ifCond .eq 19, 3) := by decide +kernel
theorem dX3_stands_7 : decode cX3_stands 7 = .ok (.aload_n 0, 1) := by decide +kernel
theorem dX3_stands_8 : decode cX3_stands 8 = .ok (.getfield 25, 3) := by decide +kernel
theorem dX3_stands_11 : decode cX3_stands 11 = .ok (.iconst 1, 1) := by decide +kernel
theorem dX3_stands_12 : decode cX3_stands 12 = .ok (.if_icmp .eq 11, 3) := by decide +kernel
theorem dX3_stands_15 : decode cX3_stands 15 = .ok (.aload_n 0, 1) := by decide +kernel
theorem dX3_stands_16 : decode cX3_stands 16 = .ok (.getfield 25, 3) := by decide +kernel
theorem dX3_stands_19 : decode cX3_stands 19 = .ok (.iconst 2, 1) := by decide +kernel
theorem dX3_stands_20 : decode cX3_stands 20 = .ok (.if_icmp .ne 7, 3) := by decide +kernel
theorem dX3_stands_23 : decode cX3_stands 23 = .ok (.iconst 1, 1) := by decide +kernel
theorem dX3_stands_24 : decode cX3_stands 24 = .ok (.goto 4, 3) := by decide +kernel
theorem dX3_stands_27 : decode cX3_stands 27 = .ok (.iconst 0, 1) := by decide +kernel
theorem dX3_stands_28 : decode cX3_stands 28 = .ok (.ireturn, 1) := by decide +kernel
theorem dX3_isAhead_0 : decode cX3_isAhead 0 = .ok (.aload_n 0, 1) := by decide +kernel
theorem dX3_isAhead_1 : decode cX3_isAhead 1 = .ok (.getfield 25, 3) := by decide +kernel
theorem dX3_isAhead_4 : decode cX3_isAhead 4 = .ok (.ifCond .eq 11, 3) := by decide +kernel
theorem dX3_isAhead_7 : decode cX3_isAhead 7 = .ok (.aload_n 0, 1) := by decide +kernel
theorem dX3_isAhead_8 : decode cX3_isAhead 8 = .ok (.getfield 25, 3) := by decide +kernel
theorem dX3_isAhead_11 : decode cX3_isAhead 11 = .ok (.iconst 1, 1) := by decide +kernel
theorem dX3_isAhead_12 : decode cX3_isAhead 12 = .ok (.if_icmp .ne 7, 3) := by decide +kernel
theorem dX3_isAhead_15 : decode cX3_isAhead 15 = .ok (.iconst 1, 1) := by decide +kernel
theorem dX3_isAhead_16 : decode cX3_isAhead 16 = .ok (.goto 4, 3) := by decide +kernel
theorem dX3_isAhead_19 : decode cX3_isAhead 19 = .ok (.iconst 0, 1) := by decide +kernel
theorem dX3_isAhead_20 : decode cX3_isAhead 20 = .ok (.ireturn, 1) := by decide +kernel
theorem dX3_covers_0 : decode cX3_covers 0 = .ok (.aload_n 0, 1) := by decide +kernel
theorem dX3_covers_1 : decode cX3_covers 1 = .ok (.getfield 34, 3) := by decide +kernel
theorem dX3_covers_4 : decode cX3_covers 4 = .ok (.iload_n 1, 1) := by decide +kernel
theorem dX3_covers_5 : decode cX3_covers 5 = .ok (.if_icmp .gt 15, 3) := by decide +kernel
theorem dX3_covers_8 : decode cX3_covers 8 = .ok (.iload_n 1, 1) := by decide +kernel
theorem dX3_covers_9 : decode cX3_covers 9 = .ok (.aload_n 0, 1) := by decide +kernel
theorem dX3_covers_10 : decode cX3_covers 10 = .ok (.getfield 37, 3) := by decide +kernel
theorem dX3_covers_13 : decode cX3_covers 13 = .ok (.if_icmp .ge 7, 3) := by decide +kernel
theorem dX3_covers_16 : decode cX3_covers 16 = .ok (.iconst 1, 1) := by decide +kernel
theorem dX3_covers_17 : decode cX3_covers 17 = .ok (.goto 4, 3) := by decide +kernel
theorem dX3_covers_20 : decode cX3_covers 20 = .ok (.iconst 0, 1) := by decide +kernel
theorem dX3_covers_21 : decode cX3_covers 21 = .ok (.ireturn, 1) := by decide +kernel
theorem dX3_spotIn_0 : decode cX3_spotIn 0 = .ok (.iload_n 1, 1) := by decide +kernel
theorem dX3_spotIn_1 : decode cX3_spotIn 1 = .ok (.invokestatic 44, 3) := by decide +kernel
theorem dX3_spotIn_4 : decode cX3_spotIn 4 = .ok (.ifCond .eq 12, 3) := by decide +kernel
theorem dX3_spotIn_7 : decode cX3_spotIn 7 = .ok (.aload_n 0, 1) := by decide +kernel
theorem dX3_spotIn_8 : decode cX3_spotIn 8 = .ok (.getfield 9, 3) := by decide +kernel
theorem dX3_spotIn_11 : decode cX3_spotIn 11 = .ok (.iload_n 1, 1) := by decide +kernel
theorem dX3_spotIn_12 : decode cX3_spotIn 12 = .ok (.iaload, 1) := by decide +kernel
theorem dX3_spotIn_13 : decode cX3_spotIn 13 = .ok (.goto 4, 3) := by decide +kernel
theorem dX3_spotIn_16 : decode cX3_spotIn 16 = .ok (.iconst (-1), 1) := by decide +kernel
theorem dX3_spotIn_17 : decode cX3_spotIn 17 = .ok (.ireturn, 1) := by decide +kernel
theorem dX3_setSpot_0 : decode cX3_setSpot 0 = .ok (.iload_n 1, 1) := by decide +kernel
theorem dX3_setSpot_1 : decode cX3_setSpot 1 = .ok (.invokestatic 44, 3) := by decide +kernel
theorem dX3_setSpot_4 : decode cX3_setSpot 4 = .ok (.ifCond .eq 10, 3) := by decide +kernel
theorem dX3_setSpot_7 : decode cX3_setSpot 7 = .ok (.aload_n 0, 1) := by decide +kernel
theorem dX3_setSpot_8 : decode cX3_setSpot 8 = .ok (.getfield 9, 3) := by decide +kernel
theorem dX3_setSpot_11 : decode cX3_setSpot 11 = .ok (.iload_n 1, 1) := by decide +kernel
theorem dX3_setSpot_12 : decode cX3_setSpot 12 = .ok (.iload_n 2, 1) := by decide +kernel
theorem dX3_setSpot_13 : decode cX3_setSpot 13 = .ok (.iastore, 1) := by decide +kernel
theorem dX3_setSpot_14 : decode cX3_setSpot 14 = .ok (.return_, 1) := by decide +kernel
theorem dX3_nightsHad_0 : decode cX3_nightsHad 0 = .ok (.iconst 0, 1) := by decide +kernel
theorem dX3_nightsHad_1 : decode cX3_nightsHad 1 = .ok (.istore_n 2, 1) := by decide +kernel
theorem dX3_nightsHad_2 : decode cX3_nightsHad 2 = .ok (.iconst 0, 1) := by decide +kernel
theorem dX3_nightsHad_3 : decode cX3_nightsHad 3 = .ok (.istore_n 3, 1) := by decide +kernel
theorem dX3_nightsHad_4 : decode cX3_nightsHad 4 = .ok (.iload_n 3, 1) := by decide +kernel
theorem dX3_nightsHad_5 : decode cX3_nightsHad 5 = .ok (.iload_n 1, 1) := by decide +kernel
theorem dX3_nightsHad_6 : decode cX3_nightsHad 6 = .ok (.if_icmp .ge 26, 3) := by decide +kernel
theorem dX3_nightsHad_9 : decode cX3_nightsHad 9 = .ok (.iload_n 2, 1) := by decide +kernel
theorem dX3_nightsHad_10 : decode cX3_nightsHad 10 = .ok (.aload_n 0, 1) := by decide +kernel
theorem dX3_nightsHad_11 : decode cX3_nightsHad 11 = .ok (.iload_n 3, 1) := by decide +kernel
theorem dX3_nightsHad_12 : decode cX3_nightsHad 12 = .ok (.invokevirtual 48, 3) := by decide +kernel
theorem dX3_nightsHad_15 : decode cX3_nightsHad 15 = .ok (.iconst (-1), 1) := by decide +kernel
theorem dX3_nightsHad_16 : decode cX3_nightsHad 16 = .ok (.if_icmp .eq 7, 3) := by decide +kernel
theorem dX3_nightsHad_19 : decode cX3_nightsHad 19 = .ok (.iconst 1, 1) := by decide +kernel
theorem dX3_nightsHad_20 : decode cX3_nightsHad 20 = .ok (.goto 4, 3) := by decide +kernel
theorem dX3_nightsHad_23 : decode cX3_nightsHad 23 = .ok (.iconst 0, 1) := by decide +kernel
theorem dX3_nightsHad_24 : decode cX3_nightsHad 24 = .ok (.iadd, 1) := by decide +kernel
theorem dX3_nightsHad_25 : decode cX3_nightsHad 25 = .ok (.istore_n 2, 1) := by decide +kernel
theorem dX3_nightsHad_26 : decode cX3_nightsHad 26 = .ok (.iinc 3 1, 3) := by decide +kernel
theorem dX3_nightsHad_29 : decode cX3_nightsHad 29 = .ok (.goto (-25), 3) := by decide +kernel
theorem dX3_nightsHad_32 : decode cX3_nightsHad 32 = .ok (.iload_n 2, 1) := by decide +kernel
theorem dX3_nightsHad_33 : decode cX3_nightsHad 33 = .ok (.ireturn, 1) := by decide +kernel
theorem dX3_movesIn_0 : decode cX3_movesIn 0 = .ok (.iconst 0, 1) := by decide +kernel
theorem dX3_movesIn_1 : decode cX3_movesIn 1 = .ok (.istore_n 3, 1) := by decide +kernel
theorem dX3_movesIn_2 : decode cX3_movesIn 2 = .ok (.iload_n 1, 1) := by decide +kernel
theorem dX3_movesIn_3 : decode cX3_movesIn 3 = .ok (.istore 4, 2) := by decide +kernel
theorem dX3_movesIn_5 : decode cX3_movesIn 5 = .ok (.iload 4, 2) := by decide +kernel
theorem dX3_movesIn_7 : decode cX3_movesIn 7 = .ok (.iload_n 2, 1) := by decide +kernel
theorem dX3_movesIn_8 : decode cX3_movesIn 8 = .ok (.if_icmp .ge 54, 3) := by decide +kernel
theorem dX3_movesIn_11 : decode cX3_movesIn 11 = .ok (.aload_n 0, 1) := by decide +kernel
theorem dX3_movesIn_12 : decode cX3_movesIn 12 = .ok (.iload 4, 2) := by decide +kernel
theorem dX3_movesIn_14 : decode cX3_movesIn 14 = .ok (.iconst 1, 1) := by decide +kernel
theorem dX3_movesIn_15 : decode cX3_movesIn 15 = .ok (.isub, 1) := by decide +kernel
theorem dX3_movesIn_16 : decode cX3_movesIn 16 = .ok (.invokevirtual 48, 3) := by decide +kernel
theorem dX3_movesIn_19 : decode cX3_movesIn 19 = .ok (.istore 5, 2) := by decide +kernel
theorem dX3_movesIn_21 : decode cX3_movesIn 21 = .ok (.aload_n 0, 1) := by decide +kernel
theorem dX3_movesIn_22 : decode cX3_movesIn 22 = .ok (.iload 4, 2) := by decide +kernel
theorem dX3_movesIn_24 : decode cX3_movesIn 24 = .ok (.invokevirtual 48, 3) := by decide +kernel
theorem dX3_movesIn_27 : decode cX3_movesIn 27 = .ok (.istore 6, 2) := by decide +kernel
theorem dX3_movesIn_29 : decode cX3_movesIn 29 = .ok (.iload_n 3, 1) := by decide +kernel
theorem dX3_movesIn_30 : decode cX3_movesIn 30 = .ok (.iload 5, 2) := by decide +kernel
theorem dX3_movesIn_32 : decode cX3_movesIn 32 = .ok (.iconst (-1), 1) := by decide +kernel
theorem dX3_movesIn_33 : decode cX3_movesIn 33 = .ok (.if_icmp .eq 20, 3) := by decide +kernel
theorem dX3_movesIn_36 : decode cX3_movesIn 36 = .ok (.iload 6, 2) := by decide +kernel
theorem dX3_movesIn_38 : decode cX3_movesIn 38 = .ok (.iconst (-1), 1) := by decide +kernel
theorem dX3_movesIn_39 : decode cX3_movesIn 39 = .ok (.if_icmp .eq 14, 3) := by decide +kernel
theorem dX3_movesIn_42 : decode cX3_movesIn 42 = .ok (.iload 5, 2) := by decide +kernel
theorem dX3_movesIn_44 : decode cX3_movesIn 44 = .ok (.iload 6, 2) := by decide +kernel
theorem dX3_movesIn_46 : decode cX3_movesIn 46 = .ok (.if_icmp .eq 7, 3) := by decide +kernel
theorem dX3_movesIn_49 : decode cX3_movesIn 49 = .ok (.iconst 1, 1) := by decide +kernel
theorem dX3_movesIn_50 : decode cX3_movesIn 50 = .ok (.goto 4, 3) := by decide +kernel
theorem dX3_movesIn_53 : decode cX3_movesIn 53 = .ok (.iconst 0, 1) := by decide +kernel
theorem dX3_movesIn_54 : decode cX3_movesIn 54 = .ok (.iadd, 1) := by decide +kernel
theorem dX3_movesIn_55 : decode cX3_movesIn 55 = .ok (.istore_n 3, 1) := by decide +kernel
theorem dX3_movesIn_56 : decode cX3_movesIn 56 = .ok (.iinc 4 1, 3) := by decide +kernel
theorem dX3_movesIn_59 : decode cX3_movesIn 59 = .ok (.goto (-54), 3) := by decide +kernel
theorem dX3_movesIn_62 : decode cX3_movesIn 62 = .ok (.iload_n 3, 1) := by decide +kernel
theorem dX3_movesIn_63 : decode cX3_movesIn 63 = .ok (.ireturn, 1) := by decide +kernel
theorem dX4_init_0 : decode cX4_init 0 = .ok (.aload_n 0, 1) := by decide +kernel
theorem dX4_init_1 : decode cX4_init 1 = .ok (.invokespecial 3, 3) := by decide +kernel
theorem dX4_init_4 : decode cX4_init 4 = .ok (.aload_n 0, 1) := by decide +kernel
theorem dX4_init_5 : decode cX4_init 5 = .ok (.iconst (-1), 1) := by decide +kernel
theorem dX4_init_6 : decode cX4_init 6 = .ok (.putfield 9, 3) := by decide +kernel
theorem dX4_init_9 : decode cX4_init 9 = .ok (.aload_n 0, 1) := by decide +kernel
theorem dX4_init_10 : decode cX4_init 10 = .ok (.iload_n 1, 1) := by decide +kernel
theorem dX4_init_11 : decode cX4_init 11 = .ok (.putfield 15, 3) := by decide +kernel
theorem dX4_init_14 : decode cX4_init 14 = .ok (.aload_n 0, 1) := by decide +kernel
theorem dX4_init_15 : decode cX4_init 15 = .ok (.iload_n 2, 1) := by decide +kernel
theorem dX4_init_16 : decode cX4_init 16 = .ok (.putfield 18, 3) := by decide +kernel
theorem dX4_init_19 : decode cX4_init 19 = .ok (.aload_n 0, 1) := by decide +kernel
theorem dX4_init_20 : decode cX4_init 20 = .ok (.iload_n 1, 1) := by decide +kernel
theorem dX4_init_21 : decode cX4_init 21 = .ok (.iconst 3, 1) := by decide +kernel
theorem dX4_init_22 : decode cX4_init 22 = .ok (.if_icmp .ne 7, 3) := by decide +kernel
theorem dX4_init_25 : decode cX4_init 25 = .ok (.iload_n 3, 1) := by decide +kernel
theorem dX4_init_26 : decode cX4_init 26 = .ok (.goto 12, 3) := by decide +kernel
theorem dX4_init_29 : decode cX4_init 29 = .ok (.iload_n 1, 1) := by decide +kernel
theorem dX4_init_30 : decode cX4_init 30 = .ok (.ifCond .ne 7, 3) := by decide +kernel
theorem dX4_init_33 : decode cX4_init 33 = .ok (.iconst 1, 1) := by decide +kernel
theorem dX4_init_34 : decode cX4_init 34 = .ok (.goto 4, 3) := by decide +kernel
theorem dX4_init_37 : decode cX4_init 37 = .ok (.iconst 2, 1) := by decide +kernel
theorem dX4_init_38 : decode cX4_init 38 = .ok (.putfield 21, 3) := by decide +kernel
theorem dX4_init_41 : decode cX4_init 41 = .ok (.aload_n 0, 1) := by decide +kernel
theorem dX4_init_42 : decode cX4_init 42 = .ok (.iload 4, 2) := by decide +kernel
theorem dX4_init_44 : decode cX4_init 44 = .ok (.putfield 24, 3) := by decide +kernel
theorem dX4_init_47 : decode cX4_init 47 = .ok (.return_, 1) := by decide +kernel
theorem dX4_units_0 : decode cX4_units 0 = .ok (.aload_n 0, 1) := by decide +kernel
theorem dX4_units_1 : decode cX4_units 1 = .ok (.getfield 15, 3) := by decide +kernel
theorem dX4_units_4 : decode cX4_units 4 = .ok (.iconst 3, 1) := by decide +kernel
theorem dX4_units_5 : decode cX4_units 5 = .ok (.if_icmp .ne 10, 3) := by decide +kernel
theorem dX4_units_8 : decode cX4_units 8 = .ok (.aload_n 0, 1) := by decide +kernel
theorem dX4_units_9 : decode cX4_units 9 = .ok (.getfield 21, 3) := by decide +kernel
theorem dX4_units_12 : decode cX4_units 12 = .ok (.goto 4, 3) := by decide +kernel
theorem dX4_units_15 : decode cX4_units 15 = .ok (.iconst 1, 1) := by decide +kernel
theorem dX4_units_16 : decode cX4_units 16 = .ok (.ireturn, 1) := by decide +kernel
theorem dX4_stateIn_0 : decode cX4_stateIn 0 = .ok (.aload_n 0, 1) := by decide +kernel
theorem dX4_stateIn_1 : decode cX4_stateIn 1 = .ok (.getfield 27, 3) := by decide +kernel
theorem dX4_stateIn_4 : decode cX4_stateIn 4 = .ok (.ifCond .eq 6, 3) := by decide +kernel
theorem dX4_stateIn_7 : decode cX4_stateIn 7 = .ok (.bipush (-2), 2) := by decide +kernel
theorem dX4_stateIn_9 : decode cX4_stateIn 9 = .ok (.ireturn, 1) := by decide +kernel
theorem dX4_stateIn_10 : decode cX4_stateIn 10 = .ok (.iload_n 1, 1) := by decide +kernel
theorem dX4_stateIn_11 : decode cX4_stateIn 11 = .ok (.ifCond .lt 11, 3) := by decide +kernel
theorem dX4_stateIn_14 : decode cX4_stateIn 14 = .ok (.iload_n 1, 1) := by decide +kernel
theorem dX4_stateIn_15 : decode cX4_stateIn 15 = .ok (.aload_n 0, 1) := by decide +kernel
theorem dX4_stateIn_16 : decode cX4_stateIn 16 = .ok (.getfield 24, 3) := by decide +kernel
theorem dX4_stateIn_19 : decode cX4_stateIn 19 = .ok (.if_icmp .lt 5, 3) := by decide +kernel
theorem dX4_stateIn_22 : decode cX4_stateIn 22 = .ok (.iconst (-1), 1) := by decide +kernel
theorem dX4_stateIn_23 : decode cX4_stateIn 23 = .ok (.ireturn, 1) := by decide +kernel
theorem dX4_stateIn_24 : decode cX4_stateIn 24 = .ok (.aload_n 0, 1) := by decide +kernel
theorem dX4_stateIn_25 : decode cX4_stateIn 25 = .ok (.getfield 31, 3) := by decide +kernel
theorem dX4_stateIn_28 : decode cX4_stateIn 28 = .ok (.iload_n 1, 1) := by decide +kernel
theorem dX4_stateIn_29 : decode cX4_stateIn 29 = .ok (.lshr, 1) := by decide +kernel
theorem dX4_stateIn_30 : decode cX4_stateIn 30 = .ok (.lconst 1, 1) := by decide +kernel
theorem dX4_stateIn_31 : decode cX4_stateIn 31 = .ok (.land, 1) := by decide +kernel
theorem dX4_stateIn_32 : decode cX4_stateIn 32 = .ok (.lconst 0, 1) := by decide +kernel
theorem dX4_stateIn_33 : decode cX4_stateIn 33 = .ok (.lcmp, 1) := by decide +kernel
theorem dX4_stateIn_34 : decode cX4_stateIn 34 = .ok (.ifCond .ne 7, 3) := by decide +kernel
theorem dX4_stateIn_37 : decode cX4_stateIn 37 = .ok (.iconst 1, 1) := by decide +kernel
theorem dX4_stateIn_38 : decode cX4_stateIn 38 = .ok (.goto 4, 3) := by decide +kernel
theorem dX4_stateIn_41 : decode cX4_stateIn 41 = .ok (.iconst 0, 1) := by decide +kernel
theorem dX4_stateIn_42 : decode cX4_stateIn 42 = .ok (.ireturn, 1) := by decide +kernel
theorem dX4_isOpen_0 : decode cX4_isOpen 0 = .ok (.aload_n 0, 1) := by decide +kernel
theorem dX4_isOpen_1 : decode cX4_isOpen 1 = .ok (.iload_n 1, 1) := by decide +kernel
theorem dX4_isOpen_2 : decode cX4_isOpen 2 = .ok (.invokevirtual 35, 3) := by decide +kernel
theorem dX4_isOpen_5 : decode cX4_isOpen 5 = .ok (.iconst 1, 1) := by decide +kernel
theorem dX4_isOpen_6 : decode cX4_isOpen 6 = .ok (.if_icmp .ne 7, 3) := by decide +kernel
theorem dX4_isOpen_9 : decode cX4_isOpen 9 = .ok (.iconst 1, 1) := by decide +kernel
theorem dX4_isOpen_10 : decode cX4_isOpen 10 = .ok (.goto 4, 3) := by decide +kernel
theorem dX4_isOpen_13 : decode cX4_isOpen 13 = .ok (.iconst 0, 1) := by decide +kernel
theorem dX4_isOpen_14 : decode cX4_isOpen 14 = .ok (.ireturn, 1) := by decide +kernel
theorem dX4_setShut_0 : decode cX4_setShut 0 = .ok (.iload_n 2, 1) := by decide +kernel
theorem dX4_setShut_1 : decode cX4_setShut 1 = .ok (.aload_n 0, 1) := by decide +kernel
theorem dX4_setShut_2 : decode cX4_setShut 2 = .ok (.getfield 24, 3) := by decide +kernel
theorem dX4_setShut_5 : decode cX4_setShut 5 = .ok (.invokestatic 39, 3) := by decide +kernel
theorem dX4_setShut_8 : decode cX4_setShut 8 = .ok (.istore 4, 2) := by decide +kernel
theorem dX4_setShut_10 : decode cX4_setShut 10 = .ok (.iload_n 1, 1) := by decide +kernel
theorem dX4_setShut_11 : decode cX4_setShut 11 = .ok (.ifCond .lt 9, 3) := by decide +kernel
theorem dX4_setShut_14 : decode cX4_setShut 14 = .ok (.iload_n 1, 1) := by decide +kernel
theorem dX4_setShut_15 : decode cX4_setShut 15 = .ok (.iload 4, 2) := by decide +kernel
theorem dX4_setShut_17 : decode cX4_setShut 17 = .ok (.if_icmp .lt 5, 3) := by decide +kernel
theorem dX4_setShut_20 : decode cX4_setShut 20 = .ok (.iconst 0, 1) := by decide +kernel
theorem dX4_setShut_21 : decode cX4_setShut 21 = .ok (.ireturn, 1) := by decide +kernel
theorem dX4_setShut_22 : decode cX4_setShut 22 = .ok (.lconst 1, 1) := by decide +kernel
theorem dX4_setShut_23 : decode cX4_setShut 23 = .ok (.iload 4, 2) := by decide +kernel
theorem dX4_setShut_25 : decode cX4_setShut 25 = .ok (.lshl, 1) := by decide +kernel
theorem dX4_setShut_26 : decode cX4_setShut 26 = .ok (.lconst 1, 1) := by decide +kernel
theorem dX4_setShut_27 : decode cX4_setShut 27 = .ok (.iload_n 1, 1) := by decide +kernel
theorem dX4_setShut_28 : decode cX4_setShut 28 = .ok (.lshl, 1) := by decide +kernel
theorem dX4_setShut_29 : decode cX4_setShut 29 = .ok (.lsub, 1) := by decide +kernel
theorem dX4_setShut_30 : decode cX4_setShut 30 = .ok (.lstore 5, 2) := by decide +kernel
theorem dX4_setShut_32 : decode cX4_setShut 32 = .ok (.lload 5, 2) := by decide +kernel
theorem dX4_setShut_34 : decode cX4_setShut 34 = .ok (.iload_n 3, 1) := by decide +kernel
theorem dX4_setShut_35 : decode cX4_setShut 35 = .ok (.ifCond .eq 14, 3) := by decide +kernel
theorem dX4_setShut_38 : decode cX4_setShut 38 = .ok (.aload_n 0, 1) := by decide +kernel
theorem dX4_setShut_39 : decode cX4_setShut 39 = .ok (.getfield 31, 3) := by decide +kernel
theorem dX4_setShut_42 : decode cX4_setShut 42 = .ok (.ldc2_w 45, 3) := by decide +kernel
theorem dX4_setShut_45 : decode cX4_setShut 45 = .ok (.lxor, 1) := by decide +kernel
theorem dX4_setShut_46 : decode cX4_setShut 46 = .ok (.goto 7, 3) := by decide +kernel
theorem dX4_setShut_49 : decode cX4_setShut 49 = .ok (.aload_n 0, 1) := by decide +kernel
theorem dX4_setShut_50 : decode cX4_setShut 50 = .ok (.getfield 31, 3) := by decide +kernel
theorem dX4_setShut_53 : decode cX4_setShut 53 = .ok (.land, 1) := by decide +kernel
theorem dX4_setShut_54 : decode cX4_setShut 54 = .ok (.lstore 7, 2) := by decide +kernel
theorem dX4_setShut_56 : decode cX4_setShut 56 = .ok (.aload_n 0, 1) := by decide +kernel
theorem dX4_setShut_57 : decode cX4_setShut 57 = .ok (.dup, 1) := by decide +kernel
theorem dX4_setShut_58 : decode cX4_setShut 58 = .ok (.getfield 31, 3) := by decide +kernel
theorem dX4_setShut_61 : decode cX4_setShut 61 = .ok (.lload 7, 2) := by decide +kernel
theorem dX4_setShut_63 : decode cX4_setShut 63 = .ok (.lxor, 1) := by decide +kernel
theorem dX4_setShut_64 : decode cX4_setShut 64 = .ok (.putfield 31, 3) := by decide +kernel
theorem dX4_setShut_67 : decode cX4_setShut 67 = .ok (.lload 7, 2) := by decide +kernel
theorem dX4_setShut_69 : decode cX4_setShut 69 = .ok (.invokestatic 47, 3) := by decide +kernel
theorem dX4_setShut_72 : decode cX4_setShut 72 = .ok (.ireturn, 1) := by decide +kernel
theorem dX4_lengthen_0 : decode cX4_lengthen 0 = .ok (.iload_n 1, 1) := by decide +kernel
theorem dX4_lengthen_1 : decode cX4_lengthen 1 = .ok (.ifCond .lt 14, 3) := by decide +kernel
theorem dX4_lengthen_4 : decode cX4_lengthen 4 = .ok (.iload_n 1, 1) := by decide +kernel
theorem dX4_lengthen_5 : decode cX4_lengthen 5 = .ok (.bipush 60, 2) := by decide +kernel
theorem dX4_lengthen_7 : decode cX4_lengthen 7 = .ok (.aload_n 0, 1) := by decide +kernel
theorem dX4_lengthen_8 : decode cX4_lengthen 8 = .ok (.getfield 24, 3) := by decide +kernel
theorem dX4_lengthen_11 : decode cX4_lengthen 11 = .ok (.isub, 1) := by decide +kernel
theorem dX4_lengthen_12 : decode cX4_lengthen 12 = .ok (.if_icmp .le 5, 3) := by decide +kernel
theorem dX4_lengthen_15 : decode cX4_lengthen 15 = .ok (.iconst (-1), 1) := by decide +kernel
theorem dX4_lengthen_16 : decode cX4_lengthen 16 = .ok (.ireturn, 1) := by decide +kernel
theorem dX4_lengthen_17 : decode cX4_lengthen 17 = .ok (.aload_n 0, 1) := by decide +kernel
theorem dX4_lengthen_18 : decode cX4_lengthen 18 = .ok (.iconst 0, 1) := by decide +kernel
theorem dX4_lengthen_19 : decode cX4_lengthen 19 = .ok (.putfield 27, 3) := by decide +kernel
theorem dX4_lengthen_22 : decode cX4_lengthen 22 = .ok (.aload_n 0, 1) := by decide +kernel
theorem dX4_lengthen_23 : decode cX4_lengthen 23 = .ok (.dup, 1) := by decide +kernel
theorem dX4_lengthen_24 : decode cX4_lengthen 24 = .ok (.getfield 24, 3) := by decide +kernel
theorem dX4_lengthen_27 : decode cX4_lengthen 27 = .ok (.iload_n 1, 1) := by decide +kernel
theorem dX4_lengthen_28 : decode cX4_lengthen 28 = .ok (.iadd, 1) := by decide +kernel
theorem dX4_lengthen_29 : decode cX4_lengthen 29 = .ok (.putfield 24, 3) := by decide +kernel
theorem dX4_lengthen_32 : decode cX4_lengthen 32 = .ok (.aload_n 0, 1) := by decide +kernel
theorem dX4_lengthen_33 : decode cX4_lengthen 33 = .ok (.getfield 24, 3) := by decide +kernel
theorem dX4_lengthen_36 : decode cX4_lengthen 36 = .ok (.ireturn, 1) := by decide +kernel
theorem dX4_closeAltogether_0 : decode cX4_closeAltogether 0 = .ok (.aload_n 0, 1) := by decide +kernel
theorem dX4_closeAltogether_1 : decode cX4_closeAltogether 1 = .ok (.iconst 1, 1) := by decide +kernel
theorem dX4_closeAltogether_2 : decode cX4_closeAltogether 2 = .ok (.putfield 27, 3) := by decide +kernel
theorem dX4_closeAltogether_5 : decode cX4_closeAltogether 5 = .ok (.aload_n 0, 1) := by decide +kernel
theorem dX4_closeAltogether_6 : decode cX4_closeAltogether 6 = .ok (.iconst 0, 1) := by decide +kernel
theorem dX4_closeAltogether_7 : decode cX4_closeAltogether 7 = .ok (.putfield 24, 3) := by decide +kernel
theorem dX4_closeAltogether_10 : decode cX4_closeAltogether 10 = .ok (.aload_n 0, 1) := by decide +kernel
theorem dX4_closeAltogether_11 : decode cX4_closeAltogether 11 = .ok (.lconst 0, 1) := by decide +kernel
theorem dX4_closeAltogether_12 : decode cX4_closeAltogether 12 = .ok (.putfield 31, 3) := by decide +kernel
theorem dX4_closeAltogether_15 : decode cX4_closeAltogether 15 = .ok (.return_, 1) := by decide +kernel
theorem dX4_suits_0 : decode cX4_suits 0 = .ok (.iload_n 1, 1) := by decide +kernel
theorem dX4_suits_1 : decode cX4_suits 1 = .ok (.tableswitch 95 0 3 #[31, 45, 59, 81], 31) := by decide +kernel
theorem dX4_suits_32 : decode cX4_suits 32 = .ok (.aload_n 0, 1) := by decide +kernel
theorem dX4_suits_33 : decode cX4_suits 33 = .ok (.getfield 15, 3) := by decide +kernel
theorem dX4_suits_36 : decode cX4_suits 36 = .ok (.iconst 3, 1) := by decide +kernel
theorem dX4_suits_37 : decode cX4_suits 37 = .ok (.if_icmp .ne 7, 3) := by decide +kernel
theorem dX4_suits_40 : decode cX4_suits 40 = .ok (.iconst 1, 1) := by decide +kernel
theorem dX4_suits_41 : decode cX4_suits 41 = .ok (.goto 4, 3) := by decide +kernel
theorem dX4_suits_44 : decode cX4_suits 44 = .ok (.iconst 0, 1) := by decide +kernel
theorem dX4_suits_45 : decode cX4_suits 45 = .ok (.ireturn, 1) := by decide +kernel
theorem dX4_suits_46 : decode cX4_suits 46 = .ok (.aload_n 0, 1) := by decide +kernel
theorem dX4_suits_47 : decode cX4_suits 47 = .ok (.getfield 15, 3) := by decide +kernel
theorem dX4_suits_50 : decode cX4_suits 50 = .ok (.iconst 3, 1) := by decide +kernel
theorem dX4_suits_51 : decode cX4_suits 51 = .ok (.if_icmp .eq 7, 3) := by decide +kernel
theorem dX4_suits_54 : decode cX4_suits 54 = .ok (.iconst 1, 1) := by decide +kernel
theorem dX4_suits_55 : decode cX4_suits 55 = .ok (.goto 4, 3) := by decide +kernel
theorem dX4_suits_58 : decode cX4_suits 58 = .ok (.iconst 0, 1) := by decide +kernel
theorem dX4_suits_59 : decode cX4_suits 59 = .ok (.ireturn, 1) := by decide +kernel
theorem dX4_suits_60 : decode cX4_suits 60 = .ok (.aload_n 0, 1) := by decide +kernel
theorem dX4_suits_61 : decode cX4_suits 61 = .ok (.getfield 15, 3) := by decide +kernel
theorem dX4_suits_64 : decode cX4_suits 64 = .ok (.iconst 1, 1) := by decide +kernel
theorem dX4_suits_65 : decode cX4_suits 65 = .ok (.if_icmp .eq 11, 3) := by decide +kernel
theorem dX4_suits_68 : decode cX4_suits 68 = .ok (.aload_n 0, 1) := by decide +kernel
theorem dX4_suits_69 : decode cX4_suits 69 = .ok (.getfield 15, 3) := by decide +kernel
theorem dX4_suits_72 : decode cX4_suits 72 = .ok (.iconst 2, 1) := by decide +kernel
theorem dX4_suits_73 : decode cX4_suits 73 = .ok (.if_icmp .ne 7, 3) := by decide +kernel
theorem dX4_suits_76 : decode cX4_suits 76 = .ok (.iconst 1, 1) := by decide +kernel
theorem dX4_suits_77 : decode cX4_suits 77 = .ok (.goto 4, 3) := by decide +kernel
theorem dX4_suits_80 : decode cX4_suits 80 = .ok (.iconst 0, 1) := by decide +kernel
theorem dX4_suits_81 : decode cX4_suits 81 = .ok (.ireturn, 1) := by decide +kernel
theorem dX4_suits_82 : decode cX4_suits 82 = .ok (.aload_n 0, 1) := by decide +kernel
theorem dX4_suits_83 : decode cX4_suits 83 = .ok (.getfield 15, 3) := by decide +kernel
theorem dX4_suits_86 : decode cX4_suits 86 = .ok (.iconst 2, 1) := by decide +kernel
theorem dX4_suits_87 : decode cX4_suits 87 = .ok (.if_icmp .ne 7, 3) := by decide +kernel
theorem dX4_suits_90 : decode cX4_suits 90 = .ok (.iconst 1, 1) := by decide +kernel
theorem dX4_suits_91 : decode cX4_suits 91 = .ok (.goto 4, 3) := by decide +kernel
theorem dX4_suits_94 : decode cX4_suits 94 = .ok (.iconst 0, 1) := by decide +kernel
theorem dX4_suits_95 : decode cX4_suits 95 = .ok (.ireturn, 1) := by decide +kernel
theorem dX4_suits_96 : decode cX4_suits 96 = .ok (.iconst 0, 1) := by decide +kernel
theorem dX4_suits_97 : decode cX4_suits 97 = .ok (.ireturn, 1) := by decide +kernel
theorem dX5_init_0 : decode cX5_init 0 = .ok (.aload_n 0, 1) := by decide +kernel
theorem dX5_init_1 : decode cX5_init 1 = .ok (.invokespecial 3, 3) := by decide +kernel
theorem dX5_init_4 : decode cX5_init 4 = .ok (.aload_n 0, 1) := by decide +kernel
theorem dX5_init_5 : decode cX5_init 5 = .ok (.iconst 1, 1) := by decide +kernel
theorem dX5_init_6 : decode cX5_init 6 = .ok (.putfield 9, 3) := by decide +kernel
theorem dX5_init_9 : decode cX5_init 9 = .ok (.aload_n 0, 1) := by decide +kernel
theorem dX5_init_10 : decode cX5_init 10 = .ok (.iload_n 1, 1) := by decide +kernel
theorem dX5_init_11 : decode cX5_init 11 = .ok (.putfield 15, 3) := by decide +kernel
theorem dX5_init_14 : decode cX5_init 14 = .ok (.aload_n 0, 1) := by decide +kernel
theorem dX5_init_15 : decode cX5_init 15 = .ok (.iload_n 2, 1) := by decide +kernel
theorem dX5_init_16 : decode cX5_init 16 = .ok (.putfield 19, 3) := by decide +kernel
theorem dX5_init_19 : decode cX5_init 19 = .ok (.aload_n 0, 1) := by decide +kernel
theorem dX5_init_20 : decode cX5_init 20 = .ok (.iload_n 3, 1) := by decide +kernel
theorem dX5_init_21 : decode cX5_init 21 = .ok (.putfield 22, 3) := by decide +kernel
theorem dX5_init_24 : decode cX5_init 24 = .ok (.return_, 1) := by decide +kernel
theorem dX5_forbidsEnd_0 : decode cX5_forbidsEnd 0 = .ok (.aload_n 0, 1) := by decide +kernel
theorem dX5_forbidsEnd_1 : decode cX5_forbidsEnd 1 = .ok (.getfield 9, 3) := by decide +kernel
theorem dX5_forbidsEnd_4 : decode cX5_forbidsEnd 4 = .ok (.ifCond .eq 25, 3) := by decide +kernel
theorem dX5_forbidsEnd_7 : decode cX5_forbidsEnd 7 = .ok (.aload_n 0, 1) := by decide +kernel
theorem dX5_forbidsEnd_8 : decode cX5_forbidsEnd 8 = .ok (.getfield 15, 3) := by decide +kernel
theorem dX5_forbidsEnd_11 : decode cX5_forbidsEnd 11 = .ok (.iconst 2, 1) := by decide +kernel
theorem dX5_forbidsEnd_12 : decode cX5_forbidsEnd 12 = .ok (.if_icmp .ne 17, 3) := by decide +kernel
theorem dX5_forbidsEnd_15 : decode cX5_forbidsEnd 15 = .ok (.iload_n 1, 1) := by decide +kernel
theorem dX5_forbidsEnd_16 : decode cX5_forbidsEnd 16 = .ok (.aload_n 0, 1) := by decide +kernel
theorem dX5_forbidsEnd_17 : decode cX5_forbidsEnd 17 = .ok (.getfield 19, 3) := by decide +kernel
theorem dX5_forbidsEnd_20 : decode cX5_forbidsEnd 20 = .ok (.iconst 1, 1) := by decide +kernel
theorem dX5_forbidsEnd_21 : decode cX5_forbidsEnd 21 = .ok (.iadd, 1) := by decide +kernel
theorem dX5_forbidsEnd_22 : decode cX5_forbidsEnd 22 = .ok (.if_icmp .ne 7, 3) := by decide +kernel
theorem dX5_forbidsEnd_25 : decode cX5_forbidsEnd 25 = .ok (.iconst 1, 1) := by decide +kernel
theorem dX5_forbidsEnd_26 : decode cX5_forbidsEnd 26 = .ok (.goto 4, 3) := by decide +kernel
theorem dX5_forbidsEnd_29 : decode cX5_forbidsEnd 29 = .ok (.iconst 0, 1) := by decide +kernel
theorem dX5_forbidsEnd_30 : decode cX5_forbidsEnd 30 = .ok (.ireturn, 1) := by decide +kernel
theorem dX5_percentageOf_0 : decode cX5_percentageOf 0 = .ok (.aload_n 0, 1) := by decide +kernel
theorem dX5_percentageOf_1 : decode cX5_percentageOf 1 = .ok (.getfield 15, 3) := by decide +kernel
theorem dX5_percentageOf_4 : decode cX5_percentageOf 4 = .ok (.ifCond .ne 11, 3) := by decide +kernel
theorem dX5_percentageOf_7 : decode cX5_percentageOf 7 = .ok (.iload_n 1, 1) := by decide +kernel
theorem dX5_percentageOf_8 : decode cX5_percentageOf 8 = .ok (.aload_n 0, 1) := by decide +kernel
theorem dX5_percentageOf_9 : decode cX5_percentageOf 9 = .ok (.getfield 19, 3) := by decide +kernel
theorem dX5_percentageOf_12 : decode cX5_percentageOf 12 = .ok (.if_icmp .ge 19, 3) := by decide +kernel
theorem dX5_percentageOf_15 : decode cX5_percentageOf 15 = .ok (.aload_n 0, 1) := by decide +kernel
theorem dX5_percentageOf_16 : decode cX5_percentageOf 16 = .ok (.getfield 15, 3) := by decide +kernel
theorem dX5_percentageOf_19 : decode cX5_percentageOf 19 = .ok (.iconst 1, 1) := by decide +kernel
theorem dX5_percentageOf_20 : decode cX5_percentageOf 20 = .ok (.if_icmp .ne 15, 3) := by decide +kernel
theorem dX5_percentageOf_23 : decode cX5_percentageOf 23 = .ok (.iload_n 2, 1) := by decide +kernel
theorem dX5_percentageOf_24 : decode cX5_percentageOf 24 = .ok (.aload_n 0, 1) := by decide +kernel
theorem dX5_percentageOf_25 : decode cX5_percentageOf 25 = .ok (.getfield 19, 3) := by decide +kernel
theorem dX5_percentageOf_28 : decode cX5_percentageOf 28 = .ok (.if_icmp .lt 7, 3) := by decide +kernel
theorem dX5_percentageOf_31 : decode cX5_percentageOf 31 = .ok (.iconst 1, 1) := by decide +kernel
theorem dX5_percentageOf_32 : decode cX5_percentageOf 32 = .ok (.goto 4, 3) := by decide +kernel
theorem dX5_percentageOf_35 : decode cX5_percentageOf 35 = .ok (.iconst 0, 1) := by decide +kernel
theorem dX5_percentageOf_36 : decode cX5_percentageOf 36 = .ok (.istore_n 3, 1) := by decide +kernel
theorem dX5_percentageOf_37 : decode cX5_percentageOf 37 = .ok (.aload_n 0, 1) := by decide +kernel
theorem dX5_percentageOf_38 : decode cX5_percentageOf 38 = .ok (.getfield 9, 3) := by decide +kernel
theorem dX5_percentageOf_41 : decode cX5_percentageOf 41 = .ok (.ifCond .eq 14, 3) := by decide +kernel
theorem dX5_percentageOf_44 : decode cX5_percentageOf 44 = .ok (.iload_n 3, 1) := by decide +kernel
theorem dX5_percentageOf_45 : decode cX5_percentageOf 45 = .ok (.ifCond .eq 10, 3) := by decide +kernel
theorem dX5_percentageOf_48 : decode cX5_percentageOf 48 = .ok (.aload_n 0, 1) := by decide +kernel
theorem dX5_percentageOf_49 : decode cX5_percentageOf 49 = .ok (.getfield 22, 3) := by decide +kernel
theorem dX5_percentageOf_52 : decode cX5_percentageOf 52 = .ok (.goto 4, 3) := by decide +kernel
theorem dX5_percentageOf_55 : decode cX5_percentageOf 55 = .ok (.iconst 0, 1) := by decide +kernel
theorem dX5_percentageOf_56 : decode cX5_percentageOf 56 = .ok (.ireturn, 1) := by decide +kernel
theorem dX6_init_0 : decode cX6_init 0 = .ok (.aload_n 0, 1) := by decide +kernel
theorem dX6_init_1 : decode cX6_init 1 = .ok (.invokespecial 3, 3) := by decide +kernel
theorem dX6_init_4 : decode cX6_init 4 = .ok (.aload_n 0, 1) := by decide +kernel
theorem dX6_init_5 : decode cX6_init 5 = .ok (.iconst 5, 1) := by decide +kernel
theorem dX6_init_6 : decode cX6_init 6 = .ok (.bipush 60, 2) := by decide +kernel
theorem dX6_init_8 : decode cX6_init 8 = .ok (.multianewarray 9 2, 4) := by decide +kernel
theorem dX6_init_12 : decode cX6_init 12 = .ok (.putfield 11, 3) := by decide +kernel
theorem dX6_init_15 : decode cX6_init 15 = .ok (.aload_n 0, 1) := by decide +kernel
theorem dX6_init_16 : decode cX6_init 16 = .ok (.bipush 8, 2) := by decide +kernel
theorem dX6_init_18 : decode cX6_init 18 = .ok (.anewarray 16, 3) := by decide +kernel
theorem dX6_init_21 : decode cX6_init 21 = .ok (.putfield 18, 3) := by decide +kernel
theorem dX6_init_24 : decode cX6_init 24 = .ok (.aload_n 0, 1) := by decide +kernel
theorem dX6_init_25 : decode cX6_init 25 = .ok (.bipush 61, 2) := by decide +kernel
theorem dX6_init_27 : decode cX6_init 27 = .ok (.newarray .long, 2) := by decide +kernel
theorem dX6_init_29 : decode cX6_init 29 = .ok (.putfield 22, 3) := by decide +kernel
theorem dX6_init_32 : decode cX6_init 32 = .ok (.aload_n 0, 1) := by decide +kernel
theorem dX6_init_33 : decode cX6_init 33 = .ok (.bipush 61, 2) := by decide +kernel
theorem dX6_init_35 : decode cX6_init 35 = .ok (.newarray .int, 2) := by decide +kernel
theorem dX6_init_37 : decode cX6_init 37 = .ok (.putfield 26, 3) := by decide +kernel
theorem dX6_init_40 : decode cX6_init 40 = .ok (.return_, 1) := by decide +kernel
theorem dX6_setAmount_0 : decode cX6_setAmount 0 = .ok (.iload_n 1, 1) := by decide +kernel
theorem dX6_setAmount_1 : decode cX6_setAmount 1 = .ok (.invokestatic 30, 3) := by decide +kernel
theorem dX6_setAmount_4 : decode cX6_setAmount 4 = .ok (.ifCond .ne 4, 3) := by decide +kernel
theorem dX6_setAmount_7 : decode cX6_setAmount 7 = .ok (.return_, 1) := by decide +kernel
theorem dX6_setAmount_8 : decode cX6_setAmount 8 = .ok (.iload_n 2, 1) := by decide +kernel
theorem dX6_setAmount_9 : decode cX6_setAmount 9 = .ok (.iconst 0, 1) := by decide +kernel
theorem dX6_setAmount_10 : decode cX6_setAmount 10 = .ok (.invokestatic 34, 3) := by decide +kernel
theorem dX6_setAmount_13 : decode cX6_setAmount 13 = .ok (.istore 5, 2) := by decide +kernel
theorem dX6_setAmount_15 : decode cX6_setAmount 15 = .ok (.iload 5, 2) := by decide +kernel
theorem dX6_setAmount_17 : decode cX6_setAmount 17 = .ok (.iload_n 3, 1) := by decide +kernel
theorem dX6_setAmount_18 : decode cX6_setAmount 18 = .ok (.if_icmp .ge 27, 3) := by decide +kernel
theorem dX6_setAmount_21 : decode cX6_setAmount 21 = .ok (.iload 5, 2) := by decide +kernel
theorem dX6_setAmount_23 : decode cX6_setAmount 23 = .ok (.bipush 60, 2) := by decide +kernel
theorem dX6_setAmount_25 : decode cX6_setAmount 25 = .ok (.if_icmp .ge 20, 3) := by decide +kernel
theorem dX6_setAmount_28 : decode cX6_setAmount 28 = .ok (.aload_n 0, 1) := by decide +kernel
theorem dX6_setAmount_29 : decode cX6_setAmount 29 = .ok (.getfield 11, 3) := by decide +kernel
theorem dX6_setAmount_32 : decode cX6_setAmount 32 = .ok (.iload_n 1, 1) := by decide +kernel
theorem dX6_setAmount_33 : decode cX6_setAmount 33 = .ok (.aaload, 1) := by decide +kernel
theorem dX6_setAmount_34 : decode cX6_setAmount 34 = .ok (.iload 5, 2) := by decide +kernel
theorem dX6_setAmount_36 : decode cX6_setAmount 36 = .ok (.iload 4, 2) := by decide +kernel
theorem dX6_setAmount_38 : decode cX6_setAmount 38 = .ok (.iastore, 1) := by decide +kernel
theorem dX6_setAmount_39 : decode cX6_setAmount 39 = .ok (.iinc 5 1, 3) := by decide +kernel
theorem dX6_setAmount_42 : decode cX6_setAmount 42 = .ok (.goto (-27), 3) := by decide +kernel
theorem dX6_setAmount_45 : decode cX6_setAmount 45 = .ok (.return_, 1) := by decide +kernel
theorem dX6_addRule_0 : decode cX6_addRule 0 = .ok (.aload_n 0, 1) := by decide +kernel
theorem dX6_addRule_1 : decode cX6_addRule 1 = .ok (.getfield 40, 3) := by decide +kernel
theorem dX6_addRule_4 : decode cX6_addRule 4 = .ok (.ifCond .lt 21, 3) := by decide +kernel
theorem dX6_addRule_7 : decode cX6_addRule 7 = .ok (.aload_n 0, 1) := by decide +kernel
theorem dX6_addRule_8 : decode cX6_addRule 8 = .ok (.getfield 40, 3) := by decide +kernel
theorem dX6_addRule_11 : decode cX6_addRule 11 = .ok (.bipush 8, 2) := by decide +kernel
theorem dX6_addRule_13 : decode cX6_addRule 13 = .ok (.if_icmp .ge 12, 3) := by decide +kernel
theorem dX6_addRule_16 : decode cX6_addRule 16 = .ok (.iload_n 1, 1) := by decide +kernel
theorem dX6_addRule_17 : decode cX6_addRule 17 = .ok (.iload_n 2, 1) := by decide +kernel
theorem dX6_addRule_18 : decode cX6_addRule 18 = .ok (.iload_n 3, 1) := by decide +kernel
theorem dX6_addRule_19 : decode cX6_addRule 19 = .ok (.invokestatic 44, 3) := by decide +kernel
theorem dX6_addRule_22 : decode cX6_addRule 22 = .ok (.ifCond .ne 5, 3) := by decide +kernel
theorem dX6_addRule_25 : decode cX6_addRule 25 = .ok (.iconst (-1), 1) := by decide +kernel
theorem dX6_addRule_26 : decode cX6_addRule 26 = .ok (.ireturn, 1) := by decide +kernel
theorem dX6_addRule_27 : decode cX6_addRule 27 = .ok (.aload_n 0, 1) := by decide +kernel
theorem dX6_addRule_28 : decode cX6_addRule 28 = .ok (.getfield 18, 3) := by decide +kernel
theorem dX6_addRule_31 : decode cX6_addRule 31 = .ok (.aload_n 0, 1) := by decide +kernel
theorem dX6_addRule_32 : decode cX6_addRule 32 = .ok (.getfield 40, 3) := by decide +kernel
theorem dX6_addRule_35 : decode cX6_addRule 35 = .ok (.new 16, 3) := by decide +kernel
theorem dX6_addRule_38 : decode cX6_addRule 38 = .ok (.dup, 1) := by decide +kernel
theorem dX6_addRule_39 : decode cX6_addRule 39 = .ok (.iload_n 1, 1) := by decide +kernel
theorem dX6_addRule_40 : decode cX6_addRule 40 = .ok (.iload_n 2, 1) := by decide +kernel
theorem dX6_addRule_41 : decode cX6_addRule 41 = .ok (.iload_n 3, 1) := by decide +kernel
theorem dX6_addRule_42 : decode cX6_addRule 42 = .ok (.invokespecial 48, 3) := by decide +kernel
theorem dX6_addRule_45 : decode cX6_addRule 45 = .ok (.aastore, 1) := by decide +kernel
theorem dX6_addRule_46 : decode cX6_addRule 46 = .ok (.aload_n 0, 1) := by decide +kernel
theorem dX6_addRule_47 : decode cX6_addRule 47 = .ok (.dup, 1) := by decide +kernel
theorem dX6_addRule_48 : decode cX6_addRule 48 = .ok (.getfield 40, 3) := by decide +kernel
theorem dX6_addRule_51 : decode cX6_addRule 51 = .ok (.iconst 1, 1) := by decide +kernel
theorem dX6_addRule_52 : decode cX6_addRule 52 = .ok (.iadd, 1) := by decide +kernel
theorem dX6_addRule_53 : decode cX6_addRule 53 = .ok (.putfield 40, 3) := by decide +kernel
theorem dX6_addRule_56 : decode cX6_addRule 56 = .ok (.aload_n 0, 1) := by decide +kernel
theorem dX6_addRule_57 : decode cX6_addRule 57 = .ok (.getfield 40, 3) := by decide +kernel
theorem dX6_addRule_60 : decode cX6_addRule 60 = .ok (.iconst 1, 1) := by decide +kernel
theorem dX6_addRule_61 : decode cX6_addRule 61 = .ok (.isub, 1) := by decide +kernel
theorem dX6_addRule_62 : decode cX6_addRule 62 = .ok (.ireturn, 1) := by decide +kernel
theorem dX6_isRule_0 : decode cX6_isRule 0 = .ok (.iload_n 0, 1) := by decide +kernel
theorem dX6_isRule_1 : decode cX6_isRule 1 = .ok (.iconst 2, 1) := by decide +kernel
theorem dX6_isRule_2 : decode cX6_isRule 2 = .ok (.if_icmp .ne 19, 3) := by decide +kernel
theorem dX6_isRule_5 : decode cX6_isRule 5 = .ok (.iload_n 1, 1) := by decide +kernel
theorem dX6_isRule_6 : decode cX6_isRule 6 = .ok (.ifCond .lt 13, 3) := by decide +kernel
theorem dX6_isRule_9 : decode cX6_isRule 9 = .ok (.iload_n 1, 1) := by decide +kernel
theorem dX6_isRule_10 : decode cX6_isRule 10 = .ok (.bipush 58, 2) := by decide +kernel
theorem dX6_isRule_12 : decode cX6_isRule 12 = .ok (.if_icmp .gt 7, 3) := by decide +kernel
theorem dX6_isRule_15 : decode cX6_isRule 15 = .ok (.iconst 1, 1) := by decide +kernel
theorem dX6_isRule_16 : decode cX6_isRule 16 = .ok (.goto 4, 3) := by decide +kernel
theorem dX6_isRule_19 : decode cX6_isRule 19 = .ok (.iconst 0, 1) := by decide +kernel
theorem dX6_isRule_20 : decode cX6_isRule 20 = .ok (.ireturn, 1) := by decide +kernel
theorem dX6_isRule_21 : decode cX6_isRule 21 = .ok (.iload_n 0, 1) := by decide +kernel
theorem dX6_isRule_22 : decode cX6_isRule 22 = .ok (.ifCond .eq 8, 3) := by decide +kernel
theorem dX6_isRule_25 : decode cX6_isRule 25 = .ok (.iload_n 0, 1) := by decide +kernel
theorem dX6_isRule_26 : decode cX6_isRule 26 = .ok (.iconst 1, 1) := by decide +kernel
theorem dX6_isRule_27 : decode cX6_isRule 27 = .ok (.if_icmp .ne 7, 3) := by decide +kernel
theorem dX6_isRule_30 : decode cX6_isRule 30 = .ok (.iconst 1, 1) := by decide +kernel
theorem dX6_isRule_31 : decode cX6_isRule 31 = .ok (.goto 4, 3) := by decide +kernel
theorem dX6_isRule_34 : decode cX6_isRule 34 = .ok (.iconst 0, 1) := by decide +kernel
theorem dX6_isRule_35 : decode cX6_isRule 35 = .ok (.istore_n 3, 1) := by decide +kernel
theorem dX6_isRule_36 : decode cX6_isRule 36 = .ok (.iload_n 3, 1) := by decide +kernel
theorem dX6_isRule_37 : decode cX6_isRule 37 = .ok (.ifCond .eq 31, 3) := by decide +kernel
theorem dX6_isRule_40 : decode cX6_isRule 40 = .ok (.iload_n 1, 1) := by decide +kernel
theorem dX6_isRule_41 : decode cX6_isRule 41 = .ok (.iconst 1, 1) := by decide +kernel
theorem dX6_isRule_42 : decode cX6_isRule 42 = .ok (.if_icmp .lt 26, 3) := by decide +kernel
theorem dX6_isRule_45 : decode cX6_isRule 45 = .ok (.iload_n 1, 1) := by decide +kernel
theorem dX6_isRule_46 : decode cX6_isRule 46 = .ok (.bipush 60, 2) := by decide +kernel
theorem dX6_isRule_48 : decode cX6_isRule 48 = .ok (.if_icmp .gt 20, 3) := by decide +kernel
theorem dX6_isRule_51 : decode cX6_isRule 51 = .ok (.iload_n 2, 1) := by decide +kernel
theorem dX6_isRule_52 : decode cX6_isRule 52 = .ok (.bipush (-100), 2) := by decide +kernel
theorem dX6_isRule_54 : decode cX6_isRule 54 = .ok (.if_icmp .lt 14, 3) := by decide +kernel
theorem dX6_isRule_57 : decode cX6_isRule 57 = .ok (.iload_n 2, 1) := by decide +kernel
theorem dX6_isRule_58 : decode cX6_isRule 58 = .ok (.sipush 300, 3) := by decide +kernel
theorem dX6_isRule_61 : decode cX6_isRule 61 = .ok (.if_icmp .gt 7, 3) := by decide +kernel
theorem dX6_isRule_64 : decode cX6_isRule 64 = .ok (.iconst 1, 1) := by decide +kernel
theorem dX6_isRule_65 : decode cX6_isRule 65 = .ok (.goto 4, 3) := by decide +kernel
theorem dX6_isRule_68 : decode cX6_isRule 68 = .ok (.iconst 0, 1) := by decide +kernel
theorem dX6_isRule_69 : decode cX6_isRule 69 = .ok (.ireturn, 1) := by decide +kernel
theorem dX6_endRule_0 : decode cX6_endRule 0 = .ok (.iload_n 1, 1) := by decide +kernel
theorem dX6_endRule_1 : decode cX6_endRule 1 = .ok (.ifCond .lt 18, 3) := by decide +kernel
theorem dX6_endRule_4 : decode cX6_endRule 4 = .ok (.iload_n 1, 1) := by decide +kernel
theorem dX6_endRule_5 : decode cX6_endRule 5 = .ok (.bipush 8, 2) := by decide +kernel
theorem dX6_endRule_7 : decode cX6_endRule 7 = .ok (.if_icmp .ge 12, 3) := by decide +kernel
theorem dX6_endRule_10 : decode cX6_endRule 10 = .ok (.aload_n 0, 1) := by decide +kernel
theorem dX6_endRule_11 : decode cX6_endRule 11 = .ok (.getfield 18, 3) := by decide +kernel
theorem dX6_endRule_14 : decode cX6_endRule 14 = .ok (.iload_n 1, 1) := by decide +kernel
theorem dX6_endRule_15 : decode cX6_endRule 15 = .ok (.aaload, 1) := by decide +kernel
theorem dX6_endRule_16 : decode cX6_endRule 16 = .ok (.goto 4, 3) := by decide +kernel
theorem dX6_endRule_19 : decode cX6_endRule 19 = .ok (.aconst_null, 1) := by decide +kernel
theorem dX6_endRule_20 : decode cX6_endRule 20 = .ok (.astore_n 2, 1) := by decide +kernel
theorem dX6_endRule_21 : decode cX6_endRule 21 = .ok (.aload_n 2, 1) := by decide +kernel
theorem dX6_endRule_22 : decode cX6_endRule 22 = .ok (.ifnull 10, 3) := by decide +kernel
theorem dX6_endRule_25 : decode cX6_endRule 25 = .ok (.aload_n 2, 1) := by decide +kernel
theorem dX6_endRule_26 : decode cX6_endRule 26 = .ok (.getfield 51, 3) := by decide +kernel
theorem dX6_endRule_29 : decode cX6_endRule 29 = .ok (.ifCond .ne 5, 3) := by decide +kernel
theorem dX6_endRule_32 : decode cX6_endRule 32 = .ok (.iconst 0, 1) := by decide +kernel
theorem dX6_endRule_33 : decode cX6_endRule 33 = .ok (.ireturn, 1) := by decide +kernel
theorem dX6_endRule_34 : decode cX6_endRule 34 = .ok (.aload_n 2, 1) := by decide +kernel
theorem dX6_endRule_35 : decode cX6_endRule 35 = .ok (.iconst 0, 1) := by decide +kernel
theorem dX6_endRule_36 : decode cX6_endRule 36 = .ok (.putfield 51, 3) := by decide +kernel
theorem dX6_endRule_39 : decode cX6_endRule 39 = .ok (.iconst 1, 1) := by decide +kernel
theorem dX6_endRule_40 : decode cX6_endRule 40 = .ok (.ireturn, 1) := by decide +kernel
theorem dX6_heldRules_0 : decode cX6_heldRules 0 = .ok (.iconst 0, 1) := by decide +kernel
theorem dX6_heldRules_1 : decode cX6_heldRules 1 = .ok (.istore_n 1, 1) := by decide +kernel
theorem dX6_heldRules_2 : decode cX6_heldRules 2 = .ok (.iconst 0, 1) := by decide +kernel
theorem dX6_heldRules_3 : decode cX6_heldRules 3 = .ok (.istore_n 2, 1) := by decide +kernel
theorem dX6_heldRules_4 : decode cX6_heldRules 4 = .ok (.iload_n 2, 1) := by decide +kernel
theorem dX6_heldRules_5 : decode cX6_heldRules 5 = .ok (.aload_n 0, 1) := by decide +kernel
theorem dX6_heldRules_6 : decode cX6_heldRules 6 = .ok (.getfield 40, 3) := by decide +kernel
theorem dX6_heldRules_9 : decode cX6_heldRules 9 = .ok (.if_icmp .ge 41, 3) := by decide +kernel
theorem dX6_heldRules_12 : decode cX6_heldRules 12 = .ok (.iload_n 2, 1) := by decide +kernel
theorem dX6_heldRules_13 : decode cX6_heldRules 13 = .ok (.bipush 8, 2) := by decide +kernel
theorem dX6_heldRules_15 : decode cX6_heldRules 15 = .ok (.if_icmp .ge 35, 3) := by decide +kernel
theorem dX6_heldRules_18 : decode cX6_heldRules 18 = .ok (.aload_n 0, 1) := by decide +kernel
theorem dX6_heldRules_19 : decode cX6_heldRules 19 = .ok (.getfield 18, 3) := by decide +kernel
theorem dX6_heldRules_22 : decode cX6_heldRules 22 = .ok (.iload_n 2, 1) := by decide +kernel
theorem dX6_heldRules_23 : decode cX6_heldRules 23 = .ok (.aaload, 1) := by decide +kernel
theorem dX6_heldRules_24 : decode cX6_heldRules 24 = .ok (.astore_n 3, 1) := by decide +kernel
theorem dX6_heldRules_25 : decode cX6_heldRules 25 = .ok (.iload_n 1, 1) := by decide +kernel
theorem dX6_heldRules_26 : decode cX6_heldRules 26 = .ok (.aload_n 3, 1) := by decide +kernel
theorem dX6_heldRules_27 : decode cX6_heldRules 27 = .ok (.ifnull 14, 3) := by decide +kernel
theorem dX6_heldRules_30 : decode cX6_heldRules 30 = .ok (.aload_n 3, 1) := by decide +kernel
theorem dX6_heldRules_31 : decode cX6_heldRules 31 = .ok (.getfield 51, 3) := by decide +kernel
theorem dX6_heldRules_34 : decode cX6_heldRules 34 = .ok (.ifCond .eq 7, 3) := by decide +kernel
theorem dX6_heldRules_37 : decode cX6_heldRules 37 = .ok (.iconst 1, 1) := by decide +kernel
theorem dX6_heldRules_38 : decode cX6_heldRules 38 = .ok (.goto 4, 3) := by decide +kernel
theorem dX6_heldRules_41 : decode cX6_heldRules 41 = .ok (.iconst 0, 1) := by decide +kernel
theorem dX6_heldRules_42 : decode cX6_heldRules 42 = .ok (.iadd, 1) := by decide +kernel
theorem dX6_heldRules_43 : decode cX6_heldRules 43 = .ok (.istore_n 1, 1) := by decide +kernel
theorem dX6_heldRules_44 : decode cX6_heldRules 44 = .ok (.iinc 2 1, 3) := by decide +kernel
theorem dX6_heldRules_47 : decode cX6_heldRules 47 = .ok (.goto (-43), 3) := by decide +kernel
theorem dX6_heldRules_50 : decode cX6_heldRules 50 = .ok (.iload_n 1, 1) := by decide +kernel
theorem dX6_heldRules_51 : decode cX6_heldRules 51 = .ok (.ireturn, 1) := by decide +kernel
theorem dX6_mayEnd_0 : decode cX6_mayEnd 0 = .ok (.iconst 0, 1) := by decide +kernel
theorem dX6_mayEnd_1 : decode cX6_mayEnd 1 = .ok (.istore_n 2, 1) := by decide +kernel
theorem dX6_mayEnd_2 : decode cX6_mayEnd 2 = .ok (.iload_n 2, 1) := by decide +kernel
theorem dX6_mayEnd_3 : decode cX6_mayEnd 3 = .ok (.aload_n 0, 1) := by decide +kernel
theorem dX6_mayEnd_4 : decode cX6_mayEnd 4 = .ok (.getfield 40, 3) := by decide +kernel
theorem dX6_mayEnd_7 : decode cX6_mayEnd 7 = .ok (.if_icmp .ge 36, 3) := by decide +kernel
theorem dX6_mayEnd_10 : decode cX6_mayEnd 10 = .ok (.iload_n 2, 1) := by decide +kernel
theorem dX6_mayEnd_11 : decode cX6_mayEnd 11 = .ok (.bipush 8, 2) := by decide +kernel
theorem dX6_mayEnd_13 : decode cX6_mayEnd 13 = .ok (.if_icmp .ge 30, 3) := by decide +kernel
theorem dX6_mayEnd_16 : decode cX6_mayEnd 16 = .ok (.aload_n 0, 1) := by decide +kernel
theorem dX6_mayEnd_17 : decode cX6_mayEnd 17 = .ok (.getfield 18, 3) := by decide +kernel
theorem dX6_mayEnd_20 : decode cX6_mayEnd 20 = .ok (.iload_n 2, 1) := by decide +kernel
theorem dX6_mayEnd_21 : decode cX6_mayEnd 21 = .ok (.aaload, 1) := by decide +kernel
theorem dX6_mayEnd_22 : decode cX6_mayEnd 22 = .ok (.astore_n 3, 1) := by decide +kernel
theorem dX6_mayEnd_23 : decode cX6_mayEnd 23 = .ok (.aload_n 3, 1) := by decide +kernel
theorem dX6_mayEnd_24 : decode cX6_mayEnd 24 = .ok (.ifnull 13, 3) := by decide +kernel
theorem dX6_mayEnd_27 : decode cX6_mayEnd 27 = .ok (.aload_n 3, 1) := by decide +kernel
theorem dX6_mayEnd_28 : decode cX6_mayEnd 28 = .ok (.iload_n 1, 1) := by decide +kernel
theorem dX6_mayEnd_29 : decode cX6_mayEnd 29 = .ok (.invokevirtual 55, 3) := by decide +kernel
theorem dX6_mayEnd_32 : decode cX6_mayEnd 32 = .ok (.ifCond .eq 5, 3) := by decide +kernel
theorem dX6_mayEnd_35 : decode cX6_mayEnd 35 = .ok (.iconst 0, 1) := by decide +kernel
theorem dX6_mayEnd_36 : decode cX6_mayEnd 36 = .ok (.ireturn, 1) := by decide +kernel
theorem dX6_mayEnd_37 : decode cX6_mayEnd 37 = .ok (.iinc 2 1, 3) := by decide +kernel
theorem dX6_mayEnd_40 : decode cX6_mayEnd 40 = .ok (.goto (-38), 3) := by decide +kernel
theorem dX6_mayEnd_43 : decode cX6_mayEnd 43 = .ok (.iconst 1, 1) := by decide +kernel
theorem dX6_mayEnd_44 : decode cX6_mayEnd 44 = .ok (.ireturn, 1) := by decide +kernel
theorem dX6_costBy_0 : decode cX6_costBy 0 = .ok (.bipush 100, 2) := by decide +kernel
theorem dX6_costBy_2 : decode cX6_costBy 2 = .ok (.istore 5, 2) := by decide +kernel
theorem dX6_costBy_4 : decode cX6_costBy 4 = .ok (.iconst 0, 1) := by decide +kernel
theorem dX6_costBy_5 : decode cX6_costBy 5 = .ok (.istore 6, 2) := by decide +kernel
theorem dX6_costBy_7 : decode cX6_costBy 7 = .ok (.iload 6, 2) := by decide +kernel
theorem dX6_costBy_9 : decode cX6_costBy 9 = .ok (.aload_n 0, 1) := by decide +kernel
theorem dX6_costBy_10 : decode cX6_costBy 10 = .ok (.getfield 40, 3) := by decide +kernel
theorem dX6_costBy_13 : decode cX6_costBy 13 = .ok (.if_icmp .ge 47, 3) := by decide +kernel
theorem dX6_costBy_16 : decode cX6_costBy 16 = .ok (.iload 6, 2) := by decide +kernel
theorem dX6_costBy_18 : decode cX6_costBy 18 = .ok (.bipush 8, 2) := by decide +kernel
theorem dX6_costBy_20 : decode cX6_costBy 20 = .ok (.if_icmp .ge 40, 3) := by decide +kernel
theorem dX6_costBy_23 : decode cX6_costBy 23 = .ok (.aload_n 0, 1) := by decide +kernel
theorem dX6_costBy_24 : decode cX6_costBy 24 = .ok (.getfield 18, 3) := by decide +kernel
theorem dX6_costBy_27 : decode cX6_costBy 27 = .ok (.iload 6, 2) := by decide +kernel
theorem dX6_costBy_29 : decode cX6_costBy 29 = .ok (.aaload, 1) := by decide +kernel
theorem dX6_costBy_30 : decode cX6_costBy 30 = .ok (.astore 7, 2) := by decide +kernel
theorem dX6_costBy_32 : decode cX6_costBy 32 = .ok (.iload 5, 2) := by decide +kernel
theorem dX6_costBy_34 : decode cX6_costBy 34 = .ok (.aload 7, 2) := by decide +kernel
theorem dX6_costBy_36 : decode cX6_costBy 36 = .ok (.ifnull 14, 3) := by decide +kernel
theorem dX6_costBy_39 : decode cX6_costBy 39 = .ok (.aload 7, 2) := by decide +kernel
theorem dX6_costBy_41 : decode cX6_costBy 41 = .ok (.iload_n 3, 1) := by decide +kernel
theorem dX6_costBy_42 : decode cX6_costBy 42 = .ok (.iload 4, 2) := by decide +kernel
theorem dX6_costBy_44 : decode cX6_costBy 44 = .ok (.invokevirtual 58, 3) := by decide +kernel
theorem dX6_costBy_47 : decode cX6_costBy 47 = .ok (.goto 4, 3) := by decide +kernel
theorem dX6_costBy_50 : decode cX6_costBy 50 = .ok (.iconst 0, 1) := by decide +kernel
theorem dX6_costBy_51 : decode cX6_costBy 51 = .ok (.iadd, 1) := by decide +kernel
theorem dX6_costBy_52 : decode cX6_costBy 52 = .ok (.istore 5, 2) := by decide +kernel
theorem dX6_costBy_54 : decode cX6_costBy 54 = .ok (.iinc 6 1, 3) := by decide +kernel
theorem dX6_costBy_57 : decode cX6_costBy 57 = .ok (.goto (-50), 3) := by decide +kernel
theorem dX6_costBy_60 : decode cX6_costBy 60 = .ok (.lload_n 1, 1) := by decide +kernel
theorem dX6_costBy_61 : decode cX6_costBy 61 = .ok (.iload 5, 2) := by decide +kernel
theorem dX6_costBy_63 : decode cX6_costBy 63 = .ok (.iconst 0, 1) := by decide +kernel
theorem dX6_costBy_64 : decode cX6_costBy 64 = .ok (.invokestatic 34, 3) := by decide +kernel
theorem dX6_costBy_67 : decode cX6_costBy 67 = .ok (.i2l, 1) := by decide +kernel
theorem dX6_costBy_68 : decode cX6_costBy 68 = .ok (.lmul, 1) := by decide +kernel
theorem dX6_costBy_69 : decode cX6_costBy 69 = .ok (.ldc2_w 61, 3) := by decide +kernel
theorem dX6_costBy_72 : decode cX6_costBy 72 = .ok (.ldiv, 1) := by decide +kernel
theorem dX6_costBy_73 : decode cX6_costBy 73 = .ok (.lreturn, 1) := by decide +kernel
theorem dX6_costOf_0 : decode cX6_costOf 0 = .ok (.iload_n 1, 1) := by decide +kernel
theorem dX6_costOf_1 : decode cX6_costOf 1 = .ok (.invokestatic 30, 3) := by decide +kernel
theorem dX6_costOf_4 : decode cX6_costOf 4 = .ok (.ifCond .eq 19, 3) := by decide +kernel
theorem dX6_costOf_7 : decode cX6_costOf 7 = .ok (.iload_n 2, 1) := by decide +kernel
theorem dX6_costOf_8 : decode cX6_costOf 8 = .ok (.iload_n 3, 1) := by decide +kernel
theorem dX6_costOf_9 : decode cX6_costOf 9 = .ok (.invokestatic 63, 3) := by decide +kernel
theorem dX6_costOf_12 : decode cX6_costOf 12 = .ok (.ifCond .eq 11, 3) := by decide +kernel
theorem dX6_costOf_15 : decode cX6_costOf 15 = .ok (.aload_n 0, 1) := by decide +kernel
theorem dX6_costOf_16 : decode cX6_costOf 16 = .ok (.iload_n 3, 1) := by decide +kernel
theorem dX6_costOf_17 : decode cX6_costOf 17 = .ok (.invokevirtual 67, 3) := by decide +kernel
theorem dX6_costOf_20 : decode cX6_costOf 20 = .ok (.ifCond .ne 7, 3) := by decide +kernel
theorem dX6_costOf_23 : decode cX6_costOf 23 = .ok (.ldc2_w 70, 3) := by decide +kernel
theorem dX6_costOf_26 : decode cX6_costOf 26 = .ok (.lreturn, 1) := by decide +kernel
theorem dX6_costOf_27 : decode cX6_costOf 27 = .ok (.lconst 0, 1) := by decide +kernel
theorem dX6_costOf_28 : decode cX6_costOf 28 = .ok (.lstore 5, 2) := by decide +kernel
theorem dX6_costOf_30 : decode cX6_costOf 30 = .ok (.iload_n 2, 1) := by decide +kernel
theorem dX6_costOf_31 : decode cX6_costOf 31 = .ok (.istore 7, 2) := by decide +kernel
theorem dX6_costOf_33 : decode cX6_costOf 33 = .ok (.iload 7, 2) := by decide +kernel
theorem dX6_costOf_35 : decode cX6_costOf 35 = .ok (.iload_n 3, 1) := by decide +kernel
theorem dX6_costOf_36 : decode cX6_costOf 36 = .ok (.if_icmp .ge 24, 3) := by decide +kernel
theorem dX6_costOf_39 : decode cX6_costOf 39 = .ok (.lload 5, 2) := by decide +kernel
theorem dX6_costOf_41 : decode cX6_costOf 41 = .ok (.aload_n 0, 1) := by decide +kernel
theorem dX6_costOf_42 : decode cX6_costOf 42 = .ok (.getfield 11, 3) := by decide +kernel
theorem dX6_costOf_45 : decode cX6_costOf 45 = .ok (.iload_n 1, 1) := by decide +kernel
theorem dX6_costOf_46 : decode cX6_costOf 46 = .ok (.aaload, 1) := by decide +kernel
theorem dX6_costOf_47 : decode cX6_costOf 47 = .ok (.iload 7, 2) := by decide +kernel
theorem dX6_costOf_49 : decode cX6_costOf 49 = .ok (.iaload, 1) := by decide +kernel
theorem dX6_costOf_50 : decode cX6_costOf 50 = .ok (.i2l, 1) := by decide +kernel
theorem dX6_costOf_51 : decode cX6_costOf 51 = .ok (.ladd, 1) := by decide +kernel
theorem dX6_costOf_52 : decode cX6_costOf 52 = .ok (.lstore 5, 2) := by decide +kernel
theorem dX6_costOf_54 : decode cX6_costOf 54 = .ok (.iinc 7 1, 3) := by decide +kernel
theorem dX6_costOf_57 : decode cX6_costOf 57 = .ok (.goto (-24), 3) := by decide +kernel
theorem dX6_costOf_60 : decode cX6_costOf 60 = .ok (.aload_n 0, 1) := by decide +kernel
theorem dX6_costOf_61 : decode cX6_costOf 61 = .ok (.lload 5, 2) := by decide +kernel
theorem dX6_costOf_63 : decode cX6_costOf 63 = .ok (.iload_n 3, 1) := by decide +kernel
theorem dX6_costOf_64 : decode cX6_costOf 64 = .ok (.iload_n 2, 1) := by decide +kernel
theorem dX6_costOf_65 : decode cX6_costOf 65 = .ok (.isub, 1) := by decide +kernel
theorem dX6_costOf_66 : decode cX6_costOf 66 = .ok (.iload_n 2, 1) := by decide +kernel
theorem dX6_costOf_67 : decode cX6_costOf 67 = .ok (.iload 4, 2) := by decide +kernel
theorem dX6_costOf_69 : decode cX6_costOf 69 = .ok (.isub, 1) := by decide +kernel
theorem dX6_costOf_70 : decode cX6_costOf 70 = .ok (.invokevirtual 72, 3) := by decide +kernel
theorem dX6_costOf_73 : decode cX6_costOf 73 = .ok (.lreturn, 1) := by decide +kernel
theorem dX6_leastCost_0 : decode cX6_leastCost 0 = .ok (.aload_n 0, 1) := by decide +kernel
theorem dX6_leastCost_1 : decode cX6_leastCost 1 = .ok (.iload_n 1, 1) := by decide +kernel
theorem dX6_leastCost_2 : decode cX6_leastCost 2 = .ok (.iload_n 2, 1) := by decide +kernel
theorem dX6_leastCost_3 : decode cX6_leastCost 3 = .ok (.iload_n 3, 1) := by decide +kernel
theorem dX6_leastCost_4 : decode cX6_leastCost 4 = .ok (.iload 4, 2) := by decide +kernel
theorem dX6_leastCost_6 : decode cX6_leastCost 6 = .ok (.invokevirtual 76, 3) := by decide +kernel
theorem dX6_leastCost_9 : decode cX6_leastCost 9 = .ok (.ifCond .eq 12, 3) := by decide +kernel
theorem dX6_leastCost_12 : decode cX6_leastCost 12 = .ok (.aload_n 0, 1) := by decide +kernel
theorem dX6_leastCost_13 : decode cX6_leastCost 13 = .ok (.getfield 22, 3) := by decide +kernel
theorem dX6_leastCost_16 : decode cX6_leastCost 16 = .ok (.iload_n 3, 1) := by decide +kernel
theorem dX6_leastCost_17 : decode cX6_leastCost 17 = .ok (.laload, 1) := by decide +kernel
theorem dX6_leastCost_18 : decode cX6_leastCost 18 = .ok (.goto 6, 3) := by decide +kernel
theorem dX6_leastCost_21 : decode cX6_leastCost 21 = .ok (.ldc2_w 70, 3) := by decide +kernel
theorem dX6_leastCost_24 : decode cX6_leastCost 24 = .ok (.lreturn, 1) := by decide +kernel
theorem dX6_leastParts_0 : decode cX6_leastParts 0 = .ok (.aload_n 0, 1) := by decide +kernel
theorem dX6_leastParts_1 : decode cX6_leastParts 1 = .ok (.iload_n 1, 1) := by decide +kernel
theorem dX6_leastParts_2 : decode cX6_leastParts 2 = .ok (.iload_n 2, 1) := by decide +kernel
theorem dX6_leastParts_3 : decode cX6_leastParts 3 = .ok (.iload_n 3, 1) := by decide +kernel
theorem dX6_leastParts_4 : decode cX6_leastParts 4 = .ok (.iload 4, 2) := by decide +kernel
theorem dX6_leastParts_6 : decode cX6_leastParts 6 = .ok (.invokevirtual 76, 3) := by decide +kernel
theorem dX6_leastParts_9 : decode cX6_leastParts 9 = .ok (.ifCond .eq 12, 3) := by decide +kernel
theorem dX6_leastParts_12 : decode cX6_leastParts 12 = .ok (.aload_n 0, 1) := by decide +kernel
theorem dX6_leastParts_13 : decode cX6_leastParts 13 = .ok (.getfield 26, 3) := by decide +kernel
theorem dX6_leastParts_16 : decode cX6_leastParts 16 = .ok (.iload_n 3, 1) := by decide +kernel
theorem dX6_leastParts_17 : decode cX6_leastParts 17 = .ok (.iaload, 1) := by decide +kernel
theorem dX6_leastParts_18 : decode cX6_leastParts 18 = .ok (.goto 4, 3) := by decide +kernel
theorem dX6_leastParts_21 : decode cX6_leastParts 21 = .ok (.iconst (-1), 1) := by decide +kernel
theorem dX6_leastParts_22 : decode cX6_leastParts 22 = .ok (.ireturn, 1) := by decide +kernel
theorem dX6_search_0 : decode cX6_search 0 = .ok (.iload_n 1, 1) := by decide +kernel
theorem dX6_search_1 : decode cX6_search 1 = .ok (.invokestatic 30, 3) := by decide +kernel
theorem dX6_search_4 : decode cX6_search 4 = .ok (.ifCond .eq 11, 3) := by decide +kernel
theorem dX6_search_7 : decode cX6_search 7 = .ok (.iload_n 2, 1) := by decide +kernel
theorem dX6_search_8 : decode cX6_search 8 = .ok (.iload_n 3, 1) := by decide +kernel
theorem dX6_search_9 : decode cX6_search 9 = .ok (.invokestatic 63, 3) := by decide +kernel
theorem dX6_search_12 : decode cX6_search 12 = .ok (.ifCond .ne 5, 3) := by decide +kernel
theorem dX6_search_15 : decode cX6_search 15 = .ok (.iconst 0, 1) := by decide +kernel
theorem dX6_search_16 : decode cX6_search 16 = .ok (.ireturn, 1) := by decide +kernel
theorem dX6_search_17 : decode cX6_search 17 = .ok (.aload_n 0, 1) := by decide +kernel
theorem dX6_search_18 : decode cX6_search 18 = .ok (.getfield 22, 3) := by decide +kernel
theorem dX6_search_21 : decode cX6_search 21 = .ok (.iload_n 2, 1) := by decide +kernel
theorem dX6_search_22 : decode cX6_search 22 = .ok (.lconst 0, 1) := by decide +kernel
theorem dX6_search_23 : decode cX6_search 23 = .ok (.lastore, 1) := by decide +kernel
theorem dX6_search_24 : decode cX6_search 24 = .ok (.aload_n 0, 1) := by decide +kernel
theorem dX6_search_25 : decode cX6_search 25 = .ok (.getfield 26, 3) := by decide +kernel
theorem dX6_search_28 : decode cX6_search 28 = .ok (.iload_n 2, 1) := by decide +kernel
theorem dX6_search_29 : decode cX6_search 29 = .ok (.iconst 0, 1) := by decide +kernel
theorem dX6_search_30 : decode cX6_search 30 = .ok (.iastore, 1) := by decide +kernel
theorem dX6_search_31 : decode cX6_search 31 = .ok (.iload_n 2, 1) := by decide +kernel
theorem dX6_search_32 : decode cX6_search 32 = .ok (.iconst 1, 1) := by decide +kernel
theorem dX6_search_33 : decode cX6_search 33 = .ok (.iadd, 1) := by decide +kernel
theorem dX6_search_34 : decode cX6_search 34 = .ok (.istore 5, 2) := by decide +kernel
theorem dX6_search_36 : decode cX6_search 36 = .ok (.iload 5, 2) := by decide +kernel
theorem dX6_search_38 : decode cX6_search 38 = .ok (.iload_n 3, 1) := by decide +kernel
theorem dX6_search_39 : decode cX6_search 39 = .ok (.if_icmp .gt 38, 3) := by decide +kernel
theorem dX6_search_42 : decode cX6_search 42 = .ok (.aload_n 0, 1) := by decide +kernel
theorem dX6_search_43 : decode cX6_search 43 = .ok (.getfield 22, 3) := by decide +kernel
theorem dX6_search_46 : decode cX6_search 46 = .ok (.iload 5, 2) := by decide +kernel
theorem dX6_search_48 : decode cX6_search 48 = .ok (.ldc2_w 70, 3) := by decide +kernel
theorem dX6_search_51 : decode cX6_search 51 = .ok (.lastore, 1) := by decide +kernel
theorem dX6_search_52 : decode cX6_search 52 = .ok (.aload_n 0, 1) := by decide +kernel
theorem dX6_search_53 : decode cX6_search 53 = .ok (.iload 5, 2) := by decide +kernel
theorem dX6_search_55 : decode cX6_search 55 = .ok (.invokevirtual 67, 3) := by decide +kernel
theorem dX6_search_58 : decode cX6_search 58 = .ok (.ifCond .eq 13, 3) := by decide +kernel
theorem dX6_search_61 : decode cX6_search 61 = .ok (.aload_n 0, 1) := by decide +kernel
theorem dX6_search_62 : decode cX6_search 62 = .ok (.iload_n 1, 1) := by decide +kernel
theorem dX6_search_63 : decode cX6_search 63 = .ok (.iload_n 2, 1) := by decide +kernel
theorem dX6_search_64 : decode cX6_search 64 = .ok (.iload 5, 2) := by decide +kernel
theorem dX6_search_66 : decode cX6_search 66 = .ok (.iload 4, 2) := by decide +kernel
theorem dX6_search_68 : decode cX6_search 68 = .ok (.invokevirtual 80, 3) := by decide +kernel
theorem dX6_search_71 : decode cX6_search 71 = .ok (.iinc 5 1, 3) := by decide +kernel
theorem dX6_search_74 : decode cX6_search 74 = .ok (.goto (-38), 3) := by decide +kernel
theorem dX6_search_77 : decode cX6_search 77 = .ok (.aload_n 0, 1) := by decide +kernel
theorem dX6_search_78 : decode cX6_search 78 = .ok (.getfield 22, 3) := by decide +kernel
theorem dX6_search_81 : decode cX6_search 81 = .ok (.iload_n 3, 1) := by decide +kernel
theorem dX6_search_82 : decode cX6_search 82 = .ok (.laload, 1) := by decide +kernel
theorem dX6_search_83 : decode cX6_search 83 = .ok (.ldc2_w 70, 3) := by decide +kernel
theorem dX6_search_86 : decode cX6_search 86 = .ok (.lcmp, 1) := by decide +kernel
theorem dX6_search_87 : decode cX6_search 87 = .ok (.ifCond .eq 7, 3) := by decide +kernel
theorem dX6_search_90 : decode cX6_search 90 = .ok (.iconst 1, 1) := by decide +kernel
theorem dX6_search_91 : decode cX6_search 91 = .ok (.goto 4, 3) := by decide +kernel
theorem dX6_search_94 : decode cX6_search 94 = .ok (.iconst 0, 1) := by decide +kernel
theorem dX6_search_95 : decode cX6_search 95 = .ok (.ireturn, 1) := by decide +kernel
theorem dX6_searchLastPart_0 : decode cX6_searchLastPart 0 = .ok (.lconst 0, 1) := by decide +kernel
theorem dX6_searchLastPart_1 : decode cX6_searchLastPart 1 = .ok (.lstore 5, 2) := by decide +kernel
theorem dX6_searchLastPart_3 : decode cX6_searchLastPart 3 = .ok (.iload_n 3, 1) := by decide +kernel
theorem dX6_searchLastPart_4 : decode cX6_searchLastPart 4 = .ok (.iconst 1, 1) := by decide +kernel
theorem dX6_searchLastPart_5 : decode cX6_searchLastPart 5 = .ok (.isub, 1) := by decide +kernel
theorem dX6_searchLastPart_6 : decode cX6_searchLastPart 6 = .ok (.istore 7, 2) := by decide +kernel
theorem dX6_searchLastPart_8 : decode cX6_searchLastPart 8 = .ok (.iload 7, 2) := by decide +kernel
theorem dX6_searchLastPart_10 : decode cX6_searchLastPart 10 = .ok (.iload_n 2, 1) := by decide +kernel
theorem dX6_searchLastPart_11 : decode cX6_searchLastPart 11 = .ok (.if_icmp .lt 141, 3) := by decide +kernel
theorem dX6_searchLastPart_14 : decode cX6_searchLastPart 14 = .ok (.lload 5, 2) := by decide +kernel
theorem dX6_searchLastPart_16 : decode cX6_searchLastPart 16 = .ok (.aload_n 0, 1) := by decide +kernel
theorem dX6_searchLastPart_17 : decode cX6_searchLastPart 17 = .ok (.getfield 11, 3) := by decide +kernel
theorem dX6_searchLastPart_20 : decode cX6_searchLastPart 20 = .ok (.iload_n 1, 1) := by decide +kernel
theorem dX6_searchLastPart_21 : decode cX6_searchLastPart 21 = .ok (.aaload, 1) := by decide +kernel
theorem dX6_searchLastPart_22 : decode cX6_searchLastPart 22 = .ok (.iload 7, 2) := by decide +kernel
theorem dX6_searchLastPart_24 : decode cX6_searchLastPart 24 = .ok (.iaload, 1) := by decide +kernel
theorem dX6_searchLastPart_25 : decode cX6_searchLastPart 25 = .ok (.i2l, 1) := by decide +kernel
theorem dX6_searchLastPart_26 : decode cX6_searchLastPart 26 = .ok (.ladd, 1) := by decide +kernel
theorem dX6_searchLastPart_27 : decode cX6_searchLastPart 27 = .ok (.lstore 5, 2) := by decide +kernel
theorem dX6_searchLastPart_29 : decode cX6_searchLastPart 29 = .ok (.aload_n 0, 1) := by decide +kernel
theorem dX6_searchLastPart_30 : decode cX6_searchLastPart 30 = .ok (.getfield 22, 3) := by decide +kernel
theorem dX6_searchLastPart_33 : decode cX6_searchLastPart 33 = .ok (.iload 7, 2) := by decide +kernel
theorem dX6_searchLastPart_35 : decode cX6_searchLastPart 35 = .ok (.laload, 1) := by decide +kernel
theorem dX6_searchLastPart_36 : decode cX6_searchLastPart 36 = .ok (.ldc2_w 70, 3) := by decide +kernel
theorem dX6_searchLastPart_39 : decode cX6_searchLastPart 39 = .ok (.lcmp, 1) := by decide +kernel
theorem dX6_searchLastPart_40 : decode cX6_searchLastPart 40 = .ok (.ifCond .ne 6, 3) := by decide +kernel
theorem dX6_searchLastPart_43 : decode cX6_searchLastPart 43 = .ok (.goto 103, 3) := by decide +kernel
theorem dX6_searchLastPart_46 : decode cX6_searchLastPart 46 = .ok (.aload_n 0, 1) := by decide +kernel
theorem dX6_searchLastPart_47 : decode cX6_searchLastPart 47 = .ok (.getfield 22, 3) := by decide +kernel
theorem dX6_searchLastPart_50 : decode cX6_searchLastPart 50 = .ok (.iload 7, 2) := by decide +kernel
theorem dX6_searchLastPart_52 : decode cX6_searchLastPart 52 = .ok (.laload, 1) := by decide +kernel
theorem dX6_searchLastPart_53 : decode cX6_searchLastPart 53 = .ok (.aload_n 0, 1) := by decide +kernel
theorem dX6_searchLastPart_54 : decode cX6_searchLastPart 54 = .ok (.lload 5, 2) := by decide +kernel
theorem dX6_searchLastPart_56 : decode cX6_searchLastPart 56 = .ok (.iload_n 3, 1) := by decide +kernel
theorem dX6_searchLastPart_57 : decode cX6_searchLastPart 57 = .ok (.iload 7, 2) := by decide +kernel
theorem dX6_searchLastPart_59 : decode cX6_searchLastPart 59 = .ok (.isub, 1) := by decide +kernel
theorem dX6_searchLastPart_60 : decode cX6_searchLastPart 60 = .ok (.iload 7, 2) := by decide +kernel
theorem dX6_searchLastPart_62 : decode cX6_searchLastPart 62 = .ok (.iload 4, 2) := by decide +kernel
theorem dX6_searchLastPart_64 : decode cX6_searchLastPart 64 = .ok (.isub, 1) := by decide +kernel
theorem dX6_searchLastPart_65 : decode cX6_searchLastPart 65 = .ok (.invokevirtual 72, 3) := by decide +kernel
theorem dX6_searchLastPart_68 : decode cX6_searchLastPart 68 = .ok (.ladd, 1) := by decide +kernel
theorem dX6_searchLastPart_69 : decode cX6_searchLastPart 69 = .ok (.lstore 8, 2) := by decide +kernel
theorem dX6_searchLastPart_71 : decode cX6_searchLastPart 71 = .ok (.aload_n 0, 1) := by decide +kernel
theorem dX6_searchLastPart_72 : decode cX6_searchLastPart 72 = .ok (.getfield 26, 3) := by decide +kernel
theorem dX6_searchLastPart_75 : decode cX6_searchLastPart 75 = .ok (.iload 7, 2) := by decide +kernel
theorem dX6_searchLastPart_77 : decode cX6_searchLastPart 77 = .ok (.iaload, 1) := by decide +kernel
theorem dX6_searchLastPart_78 : decode cX6_searchLastPart 78 = .ok (.iconst 1, 1) := by decide +kernel
theorem dX6_searchLastPart_79 : decode cX6_searchLastPart 79 = .ok (.iadd, 1) := by decide +kernel
theorem dX6_searchLastPart_80 : decode cX6_searchLastPart 80 = .ok (.istore 10, 2) := by decide +kernel
theorem dX6_searchLastPart_82 : decode cX6_searchLastPart 82 = .ok (.aload_n 0, 1) := by decide +kernel
theorem dX6_searchLastPart_83 : decode cX6_searchLastPart 83 = .ok (.getfield 22, 3) := by decide +kernel
theorem dX6_searchLastPart_86 : decode cX6_searchLastPart 86 = .ok (.iload_n 3, 1) := by decide +kernel
theorem dX6_searchLastPart_87 : decode cX6_searchLastPart 87 = .ok (.laload, 1) := by decide +kernel
theorem dX6_searchLastPart_88 : decode cX6_searchLastPart 88 = .ok (.ldc2_w 70, 3) := by decide +kernel
theorem dX6_searchLastPart_91 : decode cX6_searchLastPart 91 = .ok (.lcmp, 1) := by decide +kernel
theorem dX6_searchLastPart_92 : decode cX6_searchLastPart 92 = .ok (.ifCond .eq 38, 3) := by decide +kernel
theorem dX6_searchLastPart_95 : decode cX6_searchLastPart 95 = .ok (.lload 8, 2) := by decide +kernel
theorem dX6_searchLastPart_97 : decode cX6_searchLastPart 97 = .ok (.aload_n 0, 1) := by decide +kernel
theorem dX6_searchLastPart_98 : decode cX6_searchLastPart 98 = .ok (.getfield 22, 3) := by decide +kernel
theorem dX6_searchLastPart_101 : decode cX6_searchLastPart 101 = .ok (.iload_n 3, 1) := by decide +kernel
theorem dX6_searchLastPart_102 : decode cX6_searchLastPart 102 = .ok (.laload, 1) := by decide +kernel
theorem dX6_searchLastPart_103 : decode cX6_searchLastPart 103 = .ok (.lcmp, 1) := by decide +kernel
theorem dX6_searchLastPart_104 : decode cX6_searchLastPart 104 = .ok (.ifCond .lt 26, 3) := by decide +kernel
theorem dX6_searchLastPart_107 : decode cX6_searchLastPart 107 = .ok (.lload 8, 2) := by decide +kernel
theorem dX6_searchLastPart_109 : decode cX6_searchLastPart 109 = .ok (.aload_n 0, 1) := by decide +kernel
theorem dX6_searchLastPart_110 : decode cX6_searchLastPart 110 = .ok (.getfield 22, 3) := by decide +kernel
theorem dX6_searchLastPart_113 : decode cX6_searchLastPart 113 = .ok (.iload_n 3, 1) := by decide +kernel
theorem dX6_searchLastPart_114 : decode cX6_searchLastPart 114 = .ok (.laload, 1) := by decide +kernel
theorem dX6_searchLastPart_115 : decode cX6_searchLastPart 115 = .ok (.lcmp, 1) := by decide +kernel
theorem dX6_searchLastPart_116 : decode cX6_searchLastPart 116 = .ok (.ifCond .ne 30, 3) := by decide +kernel
theorem dX6_searchLastPart_119 : decode cX6_searchLastPart 119 = .ok (.iload 10, 2) := by decide +kernel
theorem dX6_searchLastPart_121 : decode cX6_searchLastPart 121 = .ok (.aload_n 0, 1) := by decide +kernel
theorem dX6_searchLastPart_122 : decode cX6_searchLastPart 122 = .ok (.getfield 26, 3) := by decide +kernel
theorem dX6_searchLastPart_125 : decode cX6_searchLastPart 125 = .ok (.iload_n 3, 1) := by decide +kernel
theorem dX6_searchLastPart_126 : decode cX6_searchLastPart 126 = .ok (.iaload, 1) := by decide +kernel
theorem dX6_searchLastPart_127 : decode cX6_searchLastPart 127 = .ok (.if_icmp .ge 19, 3) := by decide +kernel
theorem dX6_searchLastPart_130 : decode cX6_searchLastPart 130 = .ok (.aload_n 0, 1) := by decide +kernel
theorem dX6_searchLastPart_131 : decode cX6_searchLastPart 131 = .ok (.getfield 22, 3) := by decide +kernel
theorem dX6_searchLastPart_134 : decode cX6_searchLastPart 134 = .ok (.iload_n 3, 1) := by decide +kernel
theorem dX6_searchLastPart_135 : decode cX6_searchLastPart 135 = .ok (.lload 8, 2) := by decide +kernel
theorem dX6_searchLastPart_137 : decode cX6_searchLastPart 137 = .ok (.lastore, 1) := by decide +kernel
theorem dX6_searchLastPart_138 : decode cX6_searchLastPart 138 = .ok (.aload_n 0, 1) := by decide +kernel
theorem dX6_searchLastPart_139 : decode cX6_searchLastPart 139 = .ok (.getfield 26, 3) := by decide +kernel
theorem dX6_searchLastPart_142 : decode cX6_searchLastPart 142 = .ok (.iload_n 3, 1) := by decide +kernel
theorem dX6_searchLastPart_143 : decode cX6_searchLastPart 143 = .ok (.iload 10, 2) := by decide +kernel
theorem dX6_searchLastPart_145 : decode cX6_searchLastPart 145 = .ok (.iastore, 1) := by decide +kernel
theorem dX6_searchLastPart_146 : decode cX6_searchLastPart 146 = .ok (.iinc 7 (-1), 3) := by decide +kernel
theorem dX6_searchLastPart_149 : decode cX6_searchLastPart 149 = .ok (.goto (-141), 3) := by decide +kernel
theorem dX6_searchLastPart_152 : decode cX6_searchLastPart 152 = .ok (.return_, 1) := by decide +kernel
theorem dX7_init_0 : decode cX7_init 0 = .ok (.aload_n 0, 1) := by decide +kernel
theorem dX7_init_1 : decode cX7_init 1 = .ok (.invokespecial 3, 3) := by decide +kernel
theorem dX7_init_4 : decode cX7_init 4 = .ok (.aload_n 0, 1) := by decide +kernel
theorem dX7_init_5 : decode cX7_init 5 = .ok (.bipush 16, 2) := by decide +kernel
theorem dX7_init_7 : decode cX7_init 7 = .ok (.newarray .int, 2) := by decide +kernel
theorem dX7_init_9 : decode cX7_init 9 = .ok (.putfield 9, 3) := by decide +kernel
theorem dX7_init_12 : decode cX7_init 12 = .ok (.aload_n 0, 1) := by decide +kernel
theorem dX7_init_13 : decode cX7_init 13 = .ok (.iconst 4, 1) := by decide +kernel
theorem dX7_init_14 : decode cX7_init 14 = .ok (.newarray .int, 2) := by decide +kernel
theorem dX7_init_16 : decode cX7_init 16 = .ok (.putfield 15, 3) := by decide +kernel
theorem dX7_init_19 : decode cX7_init 19 = .ok (.aload_n 0, 1) := by decide +kernel
theorem dX7_init_20 : decode cX7_init 20 = .ok (.iconst 5, 1) := by decide +kernel
theorem dX7_init_21 : decode cX7_init 21 = .ok (.newarray .int, 2) := by decide +kernel
theorem dX7_init_23 : decode cX7_init 23 = .ok (.putfield 18, 3) := by decide +kernel
theorem dX7_init_26 : decode cX7_init 26 = .ok (.aload_n 0, 1) := by decide +kernel
theorem dX7_init_27 : decode cX7_init 27 = .ok (.aload_n 1, 1) := by decide +kernel
theorem dX7_init_28 : decode cX7_init 28 = .ok (.putfield 21, 3) := by decide +kernel
theorem dX7_init_31 : decode cX7_init 31 = .ok (.return_, 1) := by decide +kernel
theorem dX7_begin_0 : decode cX7_begin 0 = .ok (.aload_n 0, 1) := by decide +kernel
theorem dX7_begin_1 : decode cX7_begin 1 = .ok (.getfield 15, 3) := by decide +kernel
theorem dX7_begin_4 : decode cX7_begin 4 = .ok (.iconst 0, 1) := by decide +kernel
theorem dX7_begin_5 : decode cX7_begin 5 = .ok (.invokestatic 25, 3) := by decide +kernel
theorem dX7_begin_8 : decode cX7_begin 8 = .ok (.aload_n 0, 1) := by decide +kernel
theorem dX7_begin_9 : decode cX7_begin 9 = .ok (.getfield 18, 3) := by decide +kernel
theorem dX7_begin_12 : decode cX7_begin 12 = .ok (.iconst 0, 1) := by decide +kernel
theorem dX7_begin_13 : decode cX7_begin 13 = .ok (.invokestatic 25, 3) := by decide +kernel
theorem dX7_begin_16 : decode cX7_begin 16 = .ok (.aload_n 0, 1) := by decide +kernel
theorem dX7_begin_17 : decode cX7_begin 17 = .ok (.iconst 0, 1) := by decide +kernel
theorem dX7_begin_18 : decode cX7_begin 18 = .ok (.putfield 31, 3) := by decide +kernel
theorem dX7_begin_21 : decode cX7_begin 21 = .ok (.iconst 0, 1) := by decide +kernel
theorem dX7_begin_22 : decode cX7_begin 22 = .ok (.istore_n 2, 1) := by decide +kernel
theorem dX7_begin_23 : decode cX7_begin 23 = .ok (.iload_n 2, 1) := by decide +kernel
theorem dX7_begin_24 : decode cX7_begin 24 = .ok (.bipush 16, 2) := by decide +kernel
theorem dX7_begin_26 : decode cX7_begin 26 = .ok (.if_icmp .ge 101, 3) := by decide +kernel
theorem dX7_begin_29 : decode cX7_begin 29 = .ok (.aload_n 0, 1) := by decide +kernel
theorem dX7_begin_30 : decode cX7_begin 30 = .ok (.getfield 9, 3) := by decide +kernel
theorem dX7_begin_33 : decode cX7_begin 33 = .ok (.iload_n 2, 1) := by decide +kernel
theorem dX7_begin_34 : decode cX7_begin 34 = .ok (.iconst 0, 1) := by decide +kernel
theorem dX7_begin_35 : decode cX7_begin 35 = .ok (.iastore, 1) := by decide +kernel
theorem dX7_begin_36 : decode cX7_begin 36 = .ok (.aload_n 0, 1) := by decide +kernel
theorem dX7_begin_37 : decode cX7_begin 37 = .ok (.getfield 21, 3) := by decide +kernel
theorem dX7_begin_40 : decode cX7_begin 40 = .ok (.iload_n 2, 1) := by decide +kernel
theorem dX7_begin_41 : decode cX7_begin 41 = .ok (.invokevirtual 35, 3) := by decide +kernel
theorem dX7_begin_44 : decode cX7_begin 44 = .ok (.astore_n 3, 1) := by decide +kernel
theorem dX7_begin_45 : decode cX7_begin 45 = .ok (.aload_n 3, 1) := by decide +kernel
theorem dX7_begin_46 : decode cX7_begin 46 = .ok (.ifnull 75, 3) := by decide +kernel
theorem dX7_begin_49 : decode cX7_begin 49 = .ok (.aload_n 3, 1) := by decide +kernel
theorem dX7_begin_50 : decode cX7_begin 50 = .ok (.iload_n 1, 1) := by decide +kernel
theorem dX7_begin_51 : decode cX7_begin 51 = .ok (.invokevirtual 41, 3) := by decide +kernel
theorem dX7_begin_54 : decode cX7_begin 54 = .ok (.ifCond .eq 67, 3) := by decide +kernel
theorem dX7_begin_57 : decode cX7_begin 57 = .ok (.aload_n 0, 1) := by decide +kernel
theorem dX7_begin_58 : decode cX7_begin 58 = .ok (.getfield 9, 3) := by decide +kernel
theorem dX7_begin_61 : decode cX7_begin 61 = .ok (.iload_n 2, 1) := by decide +kernel
theorem dX7_begin_62 : decode cX7_begin 62 = .ok (.iconst 1, 1) := by decide +kernel
theorem dX7_begin_63 : decode cX7_begin 63 = .ok (.aload_n 3, 1) := by decide +kernel
theorem dX7_begin_64 : decode cX7_begin 64 = .ok (.invokevirtual 47, 3) := by decide +kernel
theorem dX7_begin_67 : decode cX7_begin 67 = .ok (.ishl, 1) := by decide +kernel
theorem dX7_begin_68 : decode cX7_begin 68 = .ok (.iconst 1, 1) := by decide +kernel
theorem dX7_begin_69 : decode cX7_begin 69 = .ok (.isub, 1) := by decide +kernel
theorem dX7_begin_70 : decode cX7_begin 70 = .ok (.iastore, 1) := by decide +kernel
theorem dX7_begin_71 : decode cX7_begin 71 = .ok (.aload_n 0, 1) := by decide +kernel
theorem dX7_begin_72 : decode cX7_begin 72 = .ok (.getfield 15, 3) := by decide +kernel
theorem dX7_begin_75 : decode cX7_begin 75 = .ok (.aload_n 3, 1) := by decide +kernel
theorem dX7_begin_76 : decode cX7_begin 76 = .ok (.getfield 51, 3) := by decide +kernel
theorem dX7_begin_79 : decode cX7_begin 79 = .ok (.dup2, 1) := by decide +kernel
theorem dX7_begin_80 : decode cX7_begin 80 = .ok (.iaload, 1) := by decide +kernel
theorem dX7_begin_81 : decode cX7_begin 81 = .ok (.aload_n 3, 1) := by decide +kernel
theorem dX7_begin_82 : decode cX7_begin 82 = .ok (.invokevirtual 47, 3) := by decide +kernel
theorem dX7_begin_85 : decode cX7_begin 85 = .ok (.iadd, 1) := by decide +kernel
theorem dX7_begin_86 : decode cX7_begin 86 = .ok (.iastore, 1) := by decide +kernel
theorem dX7_begin_87 : decode cX7_begin 87 = .ok (.aload_n 0, 1) := by decide +kernel
theorem dX7_begin_88 : decode cX7_begin 88 = .ok (.dup, 1) := by decide +kernel
theorem dX7_begin_89 : decode cX7_begin 89 = .ok (.getfield 31, 3) := by decide +kernel
theorem dX7_begin_92 : decode cX7_begin 92 = .ok (.aload_n 3, 1) := by decide +kernel
theorem dX7_begin_93 : decode cX7_begin 93 = .ok (.getfield 54, 3) := by decide +kernel
theorem dX7_begin_96 : decode cX7_begin 96 = .ok (.iload_n 2, 1) := by decide +kernel
theorem dX7_begin_97 : decode cX7_begin 97 = .ok (.if_icmp .ge 19, 3) := by decide +kernel
theorem dX7_begin_100 : decode cX7_begin 100 = .ok (.aload_n 0, 1) := by decide +kernel
theorem dX7_begin_101 : decode cX7_begin 101 = .ok (.aload_n 3, 1) := by decide +kernel
theorem dX7_begin_102 : decode cX7_begin 102 = .ok (.getfield 54, 3) := by decide +kernel
theorem dX7_begin_105 : decode cX7_begin 105 = .ok (.iconst 0, 1) := by decide +kernel
theorem dX7_begin_106 : decode cX7_begin 106 = .ok (.invokevirtual 57, 3) := by decide +kernel
theorem dX7_begin_109 : decode cX7_begin 109 = .ok (.ifCond .eq 7, 3) := by decide +kernel
theorem dX7_begin_112 : decode cX7_begin 112 = .ok (.iconst 1, 1) := by decide +kernel
theorem dX7_begin_113 : decode cX7_begin 113 = .ok (.goto 4, 3) := by decide +kernel
theorem dX7_begin_116 : decode cX7_begin 116 = .ok (.iconst 0, 1) := by decide +kernel
theorem dX7_begin_117 : decode cX7_begin 117 = .ok (.iadd, 1) := by decide +kernel
theorem dX7_begin_118 : decode cX7_begin 118 = .ok (.putfield 31, 3) := by decide +kernel
theorem dX7_begin_121 : decode cX7_begin 121 = .ok (.iinc 2 1, 3) := by decide +kernel
theorem dX7_begin_124 : decode cX7_begin 124 = .ok (.goto (-101), 3) := by decide +kernel
theorem dX7_begin_127 : decode cX7_begin 127 = .ok (.return_, 1) := by decide +kernel
theorem dX7_addNeed_0 : decode cX7_addNeed 0 = .ok (.iload_n 1, 1) := by decide +kernel
theorem dX7_addNeed_1 : decode cX7_addNeed 1 = .ok (.invokestatic 61, 3) := by decide +kernel
theorem dX7_addNeed_4 : decode cX7_addNeed 4 = .ok (.ifCond .eq 13, 3) := by decide +kernel
theorem dX7_addNeed_7 : decode cX7_addNeed 7 = .ok (.aload_n 0, 1) := by decide +kernel
theorem dX7_addNeed_8 : decode cX7_addNeed 8 = .ok (.getfield 18, 3) := by decide +kernel
theorem dX7_addNeed_11 : decode cX7_addNeed 11 = .ok (.iload_n 1, 1) := by decide +kernel
theorem dX7_addNeed_12 : decode cX7_addNeed 12 = .ok (.dup2, 1) := by decide +kernel
theorem dX7_addNeed_13 : decode cX7_addNeed 13 = .ok (.iaload, 1) := by decide +kernel
theorem dX7_addNeed_14 : decode cX7_addNeed 14 = .ok (.iconst 1, 1) := by decide +kernel
theorem dX7_addNeed_15 : decode cX7_addNeed 15 = .ok (.iadd, 1) := by decide +kernel
theorem dX7_addNeed_16 : decode cX7_addNeed 16 = .ok (.iastore, 1) := by decide +kernel
theorem dX7_addNeed_17 : decode cX7_addNeed 17 = .ok (.return_, 1) := by decide +kernel
theorem dX7_dropNeed_0 : decode cX7_dropNeed 0 = .ok (.iload_n 1, 1) := by decide +kernel
theorem dX7_dropNeed_1 : decode cX7_dropNeed 1 = .ok (.invokestatic 61, 3) := by decide +kernel
theorem dX7_dropNeed_4 : decode cX7_dropNeed 4 = .ok (.ifCond .eq 13, 3) := by decide +kernel
theorem dX7_dropNeed_7 : decode cX7_dropNeed 7 = .ok (.aload_n 0, 1) := by decide +kernel
theorem dX7_dropNeed_8 : decode cX7_dropNeed 8 = .ok (.getfield 18, 3) := by decide +kernel
theorem dX7_dropNeed_11 : decode cX7_dropNeed 11 = .ok (.iload_n 1, 1) := by decide +kernel
theorem dX7_dropNeed_12 : decode cX7_dropNeed 12 = .ok (.dup2, 1) := by decide +kernel
theorem dX7_dropNeed_13 : decode cX7_dropNeed 13 = .ok (.iaload, 1) := by decide +kernel
theorem dX7_dropNeed_14 : decode cX7_dropNeed 14 = .ok (.iconst 1, 1) := by decide +kernel
theorem dX7_dropNeed_15 : decode cX7_dropNeed 15 = .ok (.isub, 1) := by decide +kernel
theorem dX7_dropNeed_16 : decode cX7_dropNeed 16 = .ok (.iastore, 1) := by decide +kernel
theorem dX7_dropNeed_17 : decode cX7_dropNeed 17 = .ok (.return_, 1) := by decide +kernel
theorem dX7_fits_0 : decode cX7_fits 0 = .ok (.aload_n 0, 1) := by decide +kernel
theorem dX7_fits_1 : decode cX7_fits 1 = .ok (.getfield 15, 3) := by decide +kernel
theorem dX7_fits_4 : decode cX7_fits 4 = .ok (.iconst 2, 1) := by decide +kernel
theorem dX7_fits_5 : decode cX7_fits 5 = .ok (.iaload, 1) := by decide +kernel
theorem dX7_fits_6 : decode cX7_fits 6 = .ok (.istore_n 1, 1) := by decide +kernel
theorem dX7_fits_7 : decode cX7_fits 7 = .ok (.iload_n 1, 1) := by decide +kernel
theorem dX7_fits_8 : decode cX7_fits 8 = .ok (.aload_n 0, 1) := by decide +kernel
theorem dX7_fits_9 : decode cX7_fits 9 = .ok (.getfield 15, 3) := by decide +kernel
theorem dX7_fits_12 : decode cX7_fits 12 = .ok (.iconst 1, 1) := by decide +kernel
theorem dX7_fits_13 : decode cX7_fits 13 = .ok (.iaload, 1) := by decide +kernel
theorem dX7_fits_14 : decode cX7_fits 14 = .ok (.iadd, 1) := by decide +kernel
theorem dX7_fits_15 : decode cX7_fits 15 = .ok (.iconst 2, 1) := by decide +kernel
theorem dX7_fits_16 : decode cX7_fits 16 = .ok (.aload_n 0, 1) := by decide +kernel
theorem dX7_fits_17 : decode cX7_fits 17 = .ok (.getfield 18, 3) := by decide +kernel
theorem dX7_fits_20 : decode cX7_fits 20 = .ok (.iconst 4, 1) := by decide +kernel
theorem dX7_fits_21 : decode cX7_fits 21 = .ok (.iaload, 1) := by decide +kernel
theorem dX7_fits_22 : decode cX7_fits 22 = .ok (.imul, 1) := by decide +kernel
theorem dX7_fits_23 : decode cX7_fits 23 = .ok (.isub, 1) := by decide +kernel
theorem dX7_fits_24 : decode cX7_fits 24 = .ok (.istore_n 2, 1) := by decide +kernel
theorem dX7_fits_25 : decode cX7_fits 25 = .ok (.iload_n 2, 1) := by decide +kernel
theorem dX7_fits_26 : decode cX7_fits 26 = .ok (.aload_n 0, 1) := by decide +kernel
theorem dX7_fits_27 : decode cX7_fits 27 = .ok (.getfield 15, 3) := by decide +kernel
theorem dX7_fits_30 : decode cX7_fits 30 = .ok (.iconst 0, 1) := by decide +kernel
theorem dX7_fits_31 : decode cX7_fits 31 = .ok (.iaload, 1) := by decide +kernel
theorem dX7_fits_32 : decode cX7_fits 32 = .ok (.iadd, 1) := by decide +kernel
theorem dX7_fits_33 : decode cX7_fits 33 = .ok (.istore_n 3, 1) := by decide +kernel
theorem dX7_fits_34 : decode cX7_fits 34 = .ok (.aload_n 0, 1) := by decide +kernel
theorem dX7_fits_35 : decode cX7_fits 35 = .ok (.getfield 18, 3) := by decide +kernel
theorem dX7_fits_38 : decode cX7_fits 38 = .ok (.iconst 3, 1) := by decide +kernel
theorem dX7_fits_39 : decode cX7_fits 39 = .ok (.iaload, 1) := by decide +kernel
theorem dX7_fits_40 : decode cX7_fits 40 = .ok (.aload_n 0, 1) := by decide +kernel
theorem dX7_fits_41 : decode cX7_fits 41 = .ok (.getfield 18, 3) := by decide +kernel
theorem dX7_fits_44 : decode cX7_fits 44 = .ok (.iconst 2, 1) := by decide +kernel
theorem dX7_fits_45 : decode cX7_fits 45 = .ok (.iaload, 1) := by decide +kernel
theorem dX7_fits_46 : decode cX7_fits 46 = .ok (.iadd, 1) := by decide +kernel
theorem dX7_fits_47 : decode cX7_fits 47 = .ok (.istore 4, 2) := by decide +kernel
theorem dX7_fits_49 : decode cX7_fits 49 = .ok (.aload_n 0, 1) := by decide +kernel
theorem dX7_fits_50 : decode cX7_fits 50 = .ok (.getfield 18, 3) := by decide +kernel
theorem dX7_fits_53 : decode cX7_fits 53 = .ok (.iconst 0, 1) := by decide +kernel
theorem dX7_fits_54 : decode cX7_fits 54 = .ok (.iaload, 1) := by decide +kernel
theorem dX7_fits_55 : decode cX7_fits 55 = .ok (.aload_n 0, 1) := by decide +kernel
theorem dX7_fits_56 : decode cX7_fits 56 = .ok (.getfield 15, 3) := by decide +kernel
theorem dX7_fits_59 : decode cX7_fits 59 = .ok (.iconst 3, 1) := by decide +kernel
theorem dX7_fits_60 : decode cX7_fits 60 = .ok (.iaload, 1) := by decide +kernel
theorem dX7_fits_61 : decode cX7_fits 61 = .ok (.if_icmp .gt 49, 3) := by decide +kernel
theorem dX7_fits_64 : decode cX7_fits 64 = .ok (.aload_n 0, 1) := by decide +kernel
theorem dX7_fits_65 : decode cX7_fits 65 = .ok (.getfield 18, 3) := by decide +kernel
theorem dX7_fits_68 : decode cX7_fits 68 = .ok (.iconst 4, 1) := by decide +kernel
theorem dX7_fits_69 : decode cX7_fits 69 = .ok (.iaload, 1) := by decide +kernel
theorem dX7_fits_70 : decode cX7_fits 70 = .ok (.aload_n 0, 1) := by decide +kernel
theorem dX7_fits_71 : decode cX7_fits 71 = .ok (.getfield 31, 3) := by decide +kernel
theorem dX7_fits_74 : decode cX7_fits 74 = .ok (.if_icmp .gt 36, 3) := by decide +kernel
theorem dX7_fits_77 : decode cX7_fits 77 = .ok (.aload_n 0, 1) := by decide +kernel
theorem dX7_fits_78 : decode cX7_fits 78 = .ok (.getfield 18, 3) := by decide +kernel
theorem dX7_fits_81 : decode cX7_fits 81 = .ok (.iconst 3, 1) := by decide +kernel
theorem dX7_fits_82 : decode cX7_fits 82 = .ok (.iaload, 1) := by decide +kernel
theorem dX7_fits_83 : decode cX7_fits 83 = .ok (.iload_n 1, 1) := by decide +kernel
theorem dX7_fits_84 : decode cX7_fits 84 = .ok (.if_icmp .gt 26, 3) := by decide +kernel
theorem dX7_fits_87 : decode cX7_fits 87 = .ok (.iload 4, 2) := by decide +kernel
theorem dX7_fits_89 : decode cX7_fits 89 = .ok (.iload_n 2, 1) := by decide +kernel
theorem dX7_fits_90 : decode cX7_fits 90 = .ok (.if_icmp .gt 20, 3) := by decide +kernel
theorem dX7_fits_93 : decode cX7_fits 93 = .ok (.iload 4, 2) := by decide +kernel
theorem dX7_fits_95 : decode cX7_fits 95 = .ok (.aload_n 0, 1) := by decide +kernel
theorem dX7_fits_96 : decode cX7_fits 96 = .ok (.getfield 18, 3) := by decide +kernel
theorem dX7_fits_99 : decode cX7_fits 99 = .ok (.iconst 1, 1) := by decide +kernel
theorem dX7_fits_100 : decode cX7_fits 100 = .ok (.iaload, 1) := by decide +kernel
theorem dX7_fits_101 : decode cX7_fits 101 = .ok (.iadd, 1) := by decide +kernel
theorem dX7_fits_102 : decode cX7_fits 102 = .ok (.iload_n 3, 1) := by decide +kernel
theorem dX7_fits_103 : decode cX7_fits 103 = .ok (.if_icmp .gt 7, 3) := by decide +kernel
theorem dX7_fits_106 : decode cX7_fits 106 = .ok (.iconst 1, 1) := by decide +kernel
theorem dX7_fits_107 : decode cX7_fits 107 = .ok (.goto 4, 3) := by decide +kernel
theorem dX7_fits_110 : decode cX7_fits 110 = .ok (.iconst 0, 1) := by decide +kernel
theorem dX7_fits_111 : decode cX7_fits 111 = .ok (.ireturn, 1) := by decide +kernel
theorem dX7_shortage_0 : decode cX7_shortage 0 = .ok (.aload_n 0, 1) := by decide +kernel
theorem dX7_shortage_1 : decode cX7_shortage 1 = .ok (.getfield 18, 3) := by decide +kernel
theorem dX7_shortage_4 : decode cX7_shortage 4 = .ok (.iconst 4, 1) := by decide +kernel
theorem dX7_shortage_5 : decode cX7_shortage 5 = .ok (.iaload, 1) := by decide +kernel
theorem dX7_shortage_6 : decode cX7_shortage 6 = .ok (.aload_n 0, 1) := by decide +kernel
theorem dX7_shortage_7 : decode cX7_shortage 7 = .ok (.getfield 31, 3) := by decide +kernel
theorem dX7_shortage_10 : decode cX7_shortage 10 = .ok (.invokestatic 64, 3) := by decide +kernel
theorem dX7_shortage_13 : decode cX7_shortage 13 = .ok (.istore_n 1, 1) := by decide +kernel
theorem dX7_shortage_14 : decode cX7_shortage 14 = .ok (.aload_n 0, 1) := by decide +kernel
theorem dX7_shortage_15 : decode cX7_shortage 15 = .ok (.iconst 0, 1) := by decide +kernel
theorem dX7_shortage_16 : decode cX7_shortage 16 = .ok (.invokevirtual 70, 3) := by decide +kernel
theorem dX7_shortage_19 : decode cX7_shortage 19 = .ok (.istore_n 2, 1) := by decide +kernel
theorem dX7_shortage_20 : decode cX7_shortage 20 = .ok (.iconst 1, 1) := by decide +kernel
theorem dX7_shortage_21 : decode cX7_shortage 21 = .ok (.istore_n 3, 1) := by decide +kernel
theorem dX7_shortage_22 : decode cX7_shortage 22 = .ok (.iload_n 3, 1) := by decide +kernel
theorem dX7_shortage_23 : decode cX7_shortage 23 = .ok (.iload_n 1, 1) := by decide +kernel
theorem dX7_shortage_24 : decode cX7_shortage 24 = .ok (.if_icmp .gt 19, 3) := by decide +kernel
theorem dX7_shortage_27 : decode cX7_shortage 27 = .ok (.iload_n 2, 1) := by decide +kernel
theorem dX7_shortage_28 : decode cX7_shortage 28 = .ok (.aload_n 0, 1) := by decide +kernel
theorem dX7_shortage_29 : decode cX7_shortage 29 = .ok (.iload_n 3, 1) := by decide +kernel
theorem dX7_shortage_30 : decode cX7_shortage 30 = .ok (.invokevirtual 70, 3) := by decide +kernel
theorem dX7_shortage_33 : decode cX7_shortage 33 = .ok (.invokestatic 64, 3) := by decide +kernel
theorem dX7_shortage_36 : decode cX7_shortage 36 = .ok (.istore_n 2, 1) := by decide +kernel
theorem dX7_shortage_37 : decode cX7_shortage 37 = .ok (.iinc 3 1, 3) := by decide +kernel
theorem dX7_shortage_40 : decode cX7_shortage 40 = .ok (.goto (-18), 3) := by decide +kernel
theorem dX7_shortage_43 : decode cX7_shortage 43 = .ok (.iload_n 2, 1) := by decide +kernel
theorem dX7_shortage_44 : decode cX7_shortage 44 = .ok (.iconst 0, 1) := by decide +kernel
theorem dX7_shortage_45 : decode cX7_shortage 45 = .ok (.aload_n 0, 1) := by decide +kernel
theorem dX7_shortage_46 : decode cX7_shortage 46 = .ok (.getfield 18, 3) := by decide +kernel
theorem dX7_shortage_49 : decode cX7_shortage 49 = .ok (.iconst 0, 1) := by decide +kernel
theorem dX7_shortage_50 : decode cX7_shortage 50 = .ok (.iaload, 1) := by decide +kernel
theorem dX7_shortage_51 : decode cX7_shortage 51 = .ok (.aload_n 0, 1) := by decide +kernel
theorem dX7_shortage_52 : decode cX7_shortage 52 = .ok (.getfield 15, 3) := by decide +kernel
theorem dX7_shortage_55 : decode cX7_shortage 55 = .ok (.iconst 3, 1) := by decide +kernel
theorem dX7_shortage_56 : decode cX7_shortage 56 = .ok (.iaload, 1) := by decide +kernel
theorem dX7_shortage_57 : decode cX7_shortage 57 = .ok (.isub, 1) := by decide +kernel
theorem dX7_shortage_58 : decode cX7_shortage 58 = .ok (.invokestatic 74, 3) := by decide +kernel
theorem dX7_shortage_61 : decode cX7_shortage 61 = .ok (.iadd, 1) := by decide +kernel
theorem dX7_shortage_62 : decode cX7_shortage 62 = .ok (.ireturn, 1) := by decide +kernel
theorem dX7_roomless_0 : decode cX7_roomless 0 = .ok (.aload_n 0, 1) := by decide +kernel
theorem dX7_roomless_1 : decode cX7_roomless 1 = .ok (.getfield 18, 3) := by decide +kernel
theorem dX7_roomless_4 : decode cX7_roomless 4 = .ok (.iconst 3, 1) := by decide +kernel
theorem dX7_roomless_5 : decode cX7_roomless 5 = .ok (.iaload, 1) := by decide +kernel
theorem dX7_roomless_6 : decode cX7_roomless 6 = .ok (.aload_n 0, 1) := by decide +kernel
theorem dX7_roomless_7 : decode cX7_roomless 7 = .ok (.getfield 15, 3) := by decide +kernel
theorem dX7_roomless_10 : decode cX7_roomless 10 = .ok (.iconst 2, 1) := by decide +kernel
theorem dX7_roomless_11 : decode cX7_roomless 11 = .ok (.iaload, 1) := by decide +kernel
theorem dX7_roomless_12 : decode cX7_roomless 12 = .ok (.invokestatic 64, 3) := by decide +kernel
theorem dX7_roomless_15 : decode cX7_roomless 15 = .ok (.istore_n 2, 1) := by decide +kernel
theorem dX7_roomless_16 : decode cX7_roomless 16 = .ok (.aload_n 0, 1) := by decide +kernel
theorem dX7_roomless_17 : decode cX7_roomless 17 = .ok (.getfield 15, 3) := by decide +kernel
theorem dX7_roomless_20 : decode cX7_roomless 20 = .ok (.iconst 2, 1) := by decide +kernel
theorem dX7_roomless_21 : decode cX7_roomless 21 = .ok (.iaload, 1) := by decide +kernel
theorem dX7_roomless_22 : decode cX7_roomless 22 = .ok (.iload_n 2, 1) := by decide +kernel
theorem dX7_roomless_23 : decode cX7_roomless 23 = .ok (.isub, 1) := by decide +kernel
theorem dX7_roomless_24 : decode cX7_roomless 24 = .ok (.aload_n 0, 1) := by decide +kernel
theorem dX7_roomless_25 : decode cX7_roomless 25 = .ok (.getfield 15, 3) := by decide +kernel
theorem dX7_roomless_28 : decode cX7_roomless 28 = .ok (.iconst 1, 1) := by decide +kernel
theorem dX7_roomless_29 : decode cX7_roomless 29 = .ok (.iaload, 1) := by decide +kernel
theorem dX7_roomless_30 : decode cX7_roomless 30 = .ok (.iadd, 1) := by decide +kernel
theorem dX7_roomless_31 : decode cX7_roomless 31 = .ok (.iconst 2, 1) := by decide +kernel
theorem dX7_roomless_32 : decode cX7_roomless 32 = .ok (.iload_n 1, 1) := by decide +kernel
theorem dX7_roomless_33 : decode cX7_roomless 33 = .ok (.imul, 1) := by decide +kernel
theorem dX7_roomless_34 : decode cX7_roomless 34 = .ok (.isub, 1) := by decide +kernel
theorem dX7_roomless_35 : decode cX7_roomless 35 = .ok (.istore_n 3, 1) := by decide +kernel
theorem dX7_roomless_36 : decode cX7_roomless 36 = .ok (.aload_n 0, 1) := by decide +kernel
theorem dX7_roomless_37 : decode cX7_roomless 37 = .ok (.getfield 18, 3) := by decide +kernel
theorem dX7_roomless_40 : decode cX7_roomless 40 = .ok (.iconst 2, 1) := by decide +kernel
theorem dX7_roomless_41 : decode cX7_roomless 41 = .ok (.iaload, 1) := by decide +kernel
theorem dX7_roomless_42 : decode cX7_roomless 42 = .ok (.iload_n 3, 1) := by decide +kernel
theorem dX7_roomless_43 : decode cX7_roomless 43 = .ok (.invokestatic 64, 3) := by decide +kernel
theorem dX7_roomless_46 : decode cX7_roomless 46 = .ok (.istore 4, 2) := by decide +kernel
theorem dX7_roomless_48 : decode cX7_roomless 48 = .ok (.aload_n 0, 1) := by decide +kernel
theorem dX7_roomless_49 : decode cX7_roomless 49 = .ok (.getfield 18, 3) := by decide +kernel
theorem dX7_roomless_52 : decode cX7_roomless 52 = .ok (.iconst 1, 1) := by decide +kernel
theorem dX7_roomless_53 : decode cX7_roomless 53 = .ok (.iaload, 1) := by decide +kernel
theorem dX7_roomless_54 : decode cX7_roomless 54 = .ok (.iload_n 3, 1) := by decide +kernel
theorem dX7_roomless_55 : decode cX7_roomless 55 = .ok (.iload 4, 2) := by decide +kernel
theorem dX7_roomless_57 : decode cX7_roomless 57 = .ok (.isub, 1) := by decide +kernel
theorem dX7_roomless_58 : decode cX7_roomless 58 = .ok (.aload_n 0, 1) := by decide +kernel
theorem dX7_roomless_59 : decode cX7_roomless 59 = .ok (.getfield 15, 3) := by decide +kernel
theorem dX7_roomless_62 : decode cX7_roomless 62 = .ok (.iconst 0, 1) := by decide +kernel
theorem dX7_roomless_63 : decode cX7_roomless 63 = .ok (.iaload, 1) := by decide +kernel
theorem dX7_roomless_64 : decode cX7_roomless 64 = .ok (.iadd, 1) := by decide +kernel
theorem dX7_roomless_65 : decode cX7_roomless 65 = .ok (.invokestatic 64, 3) := by decide +kernel
theorem dX7_roomless_68 : decode cX7_roomless 68 = .ok (.istore 5, 2) := by decide +kernel
theorem dX7_roomless_70 : decode cX7_roomless 70 = .ok (.aload_n 0, 1) := by decide +kernel
theorem dX7_roomless_71 : decode cX7_roomless 71 = .ok (.getfield 18, 3) := by decide +kernel
theorem dX7_roomless_74 : decode cX7_roomless 74 = .ok (.iconst 1, 1) := by decide +kernel
theorem dX7_roomless_75 : decode cX7_roomless 75 = .ok (.iaload, 1) := by decide +kernel
theorem dX7_roomless_76 : decode cX7_roomless 76 = .ok (.aload_n 0, 1) := by decide +kernel
theorem dX7_roomless_77 : decode cX7_roomless 77 = .ok (.getfield 18, 3) := by decide +kernel
theorem dX7_roomless_80 : decode cX7_roomless 80 = .ok (.iconst 2, 1) := by decide +kernel
theorem dX7_roomless_81 : decode cX7_roomless 81 = .ok (.iaload, 1) := by decide +kernel
theorem dX7_roomless_82 : decode cX7_roomless 82 = .ok (.iadd, 1) := by decide +kernel
theorem dX7_roomless_83 : decode cX7_roomless 83 = .ok (.aload_n 0, 1) := by decide +kernel
theorem dX7_roomless_84 : decode cX7_roomless 84 = .ok (.getfield 18, 3) := by decide +kernel
theorem dX7_roomless_87 : decode cX7_roomless 87 = .ok (.iconst 3, 1) := by decide +kernel
theorem dX7_roomless_88 : decode cX7_roomless 88 = .ok (.iaload, 1) := by decide +kernel
theorem dX7_roomless_89 : decode cX7_roomless 89 = .ok (.iadd, 1) := by decide +kernel
theorem dX7_roomless_90 : decode cX7_roomless 90 = .ok (.aload_n 0, 1) := by decide +kernel
theorem dX7_roomless_91 : decode cX7_roomless 91 = .ok (.getfield 18, 3) := by decide +kernel
theorem dX7_roomless_94 : decode cX7_roomless 94 = .ok (.iconst 4, 1) := by decide +kernel
theorem dX7_roomless_95 : decode cX7_roomless 95 = .ok (.iaload, 1) := by decide +kernel
theorem dX7_roomless_96 : decode cX7_roomless 96 = .ok (.iadd, 1) := by decide +kernel
theorem dX7_roomless_97 : decode cX7_roomless 97 = .ok (.istore 6, 2) := by decide +kernel
theorem dX7_roomless_99 : decode cX7_roomless 99 = .ok (.iload 6, 2) := by decide +kernel
theorem dX7_roomless_101 : decode cX7_roomless 101 = .ok (.iload_n 2, 1) := by decide +kernel
theorem dX7_roomless_102 : decode cX7_roomless 102 = .ok (.isub, 1) := by decide +kernel
theorem dX7_roomless_103 : decode cX7_roomless 103 = .ok (.iload 4, 2) := by decide +kernel
theorem dX7_roomless_105 : decode cX7_roomless 105 = .ok (.isub, 1) := by decide +kernel
theorem dX7_roomless_106 : decode cX7_roomless 106 = .ok (.iload 5, 2) := by decide +kernel
theorem dX7_roomless_108 : decode cX7_roomless 108 = .ok (.isub, 1) := by decide +kernel
theorem dX7_roomless_109 : decode cX7_roomless 109 = .ok (.iload_n 1, 1) := by decide +kernel
theorem dX7_roomless_110 : decode cX7_roomless 110 = .ok (.isub, 1) := by decide +kernel
theorem dX7_roomless_111 : decode cX7_roomless 111 = .ok (.ireturn, 1) := by decide +kernel
theorem dX7_take_0 : decode cX7_take 0 = .ok (.iload_n 1, 1) := by decide +kernel
theorem dX7_take_1 : decode cX7_take 1 = .ok (.invokestatic 77, 3) := by decide +kernel
theorem dX7_take_4 : decode cX7_take 4 = .ok (.istore_n 3, 1) := by decide +kernel
theorem dX7_take_5 : decode cX7_take 5 = .ok (.iload_n 1, 1) := by decide +kernel
theorem dX7_take_6 : decode cX7_take 6 = .ok (.invokestatic 80, 3) := by decide +kernel
theorem dX7_take_9 : decode cX7_take 9 = .ok (.istore 4, 2) := by decide +kernel
theorem dX7_take_11 : decode cX7_take 11 = .ok (.iload_n 1, 1) := by decide +kernel
theorem dX7_take_12 : decode cX7_take 12 = .ok (.invokestatic 83, 3) := by decide +kernel
theorem dX7_take_15 : decode cX7_take 15 = .ok (.istore 5, 2) := by decide +kernel
theorem dX7_take_17 : decode cX7_take 17 = .ok (.aload_n 0, 1) := by decide +kernel
theorem dX7_take_18 : decode cX7_take 18 = .ok (.iload_n 3, 1) := by decide +kernel
theorem dX7_take_19 : decode cX7_take 19 = .ok (.iload 4, 2) := by decide +kernel
theorem dX7_take_21 : decode cX7_take 21 = .ok (.invokevirtual 57, 3) := by decide +kernel
theorem dX7_take_24 : decode cX7_take 24 = .ok (.ifCond .eq 19, 3) := by decide +kernel
theorem dX7_take_27 : decode cX7_take 27 = .ok (.iload 5, 2) := by decide +kernel
theorem dX7_take_29 : decode cX7_take 29 = .ok (.ifCond .eq 16, 3) := by decide +kernel
theorem dX7_take_32 : decode cX7_take 32 = .ok (.aload_n 0, 1) := by decide +kernel
theorem dX7_take_33 : decode cX7_take 33 = .ok (.iload_n 3, 1) := by decide +kernel
theorem dX7_take_34 : decode cX7_take 34 = .ok (.iconst 1, 1) := by decide +kernel
theorem dX7_take_35 : decode cX7_take 35 = .ok (.iadd, 1) := by decide +kernel
theorem dX7_take_36 : decode cX7_take 36 = .ok (.iconst 0, 1) := by decide +kernel
theorem dX7_take_37 : decode cX7_take 37 = .ok (.invokevirtual 57, 3) := by decide +kernel
theorem dX7_take_40 : decode cX7_take 40 = .ok (.ifCond .ne 5, 3) := by decide +kernel
theorem dX7_take_43 : decode cX7_take 43 = .ok (.iconst 0, 1) := by decide +kernel
theorem dX7_take_44 : decode cX7_take 44 = .ok (.ireturn, 1) := by decide +kernel
theorem dX7_take_45 : decode cX7_take 45 = .ok (.aload_n 0, 1) := by decide +kernel
theorem dX7_take_46 : decode cX7_take 46 = .ok (.iload_n 2, 1) := by decide +kernel
theorem dX7_take_47 : decode cX7_take 47 = .ok (.invokevirtual 86, 3) := by decide +kernel
theorem dX7_take_50 : decode cX7_take 50 = .ok (.aload_n 0, 1) := by decide +kernel
theorem dX7_take_51 : decode cX7_take 51 = .ok (.iload_n 3, 1) := by decide +kernel
theorem dX7_take_52 : decode cX7_take 52 = .ok (.iload 4, 2) := by decide +kernel
theorem dX7_take_54 : decode cX7_take 54 = .ok (.iconst (-1), 1) := by decide +kernel
theorem dX7_take_55 : decode cX7_take 55 = .ok (.invokevirtual 90, 3) := by decide +kernel
theorem dX7_take_58 : decode cX7_take 58 = .ok (.iload 5, 2) := by decide +kernel
theorem dX7_take_60 : decode cX7_take 60 = .ok (.ifCond .eq 12, 3) := by decide +kernel
theorem dX7_take_63 : decode cX7_take 63 = .ok (.aload_n 0, 1) := by decide +kernel
theorem dX7_take_64 : decode cX7_take 64 = .ok (.iload_n 3, 1) := by decide +kernel
theorem dX7_take_65 : decode cX7_take 65 = .ok (.iconst 1, 1) := by decide +kernel
theorem dX7_take_66 : decode cX7_take 66 = .ok (.iadd, 1) := by decide +kernel
theorem dX7_take_67 : decode cX7_take 67 = .ok (.iconst 0, 1) := by decide +kernel
theorem dX7_take_68 : decode cX7_take 68 = .ok (.iconst (-1), 1) := by decide +kernel
theorem dX7_take_69 : decode cX7_take 69 = .ok (.invokevirtual 90, 3) := by decide +kernel
theorem dX7_take_72 : decode cX7_take 72 = .ok (.aload_n 0, 1) := by decide +kernel
theorem dX7_take_73 : decode cX7_take 73 = .ok (.invokevirtual 94, 3) := by decide +kernel
theorem dX7_take_76 : decode cX7_take 76 = .ok (.ifCond .eq 5, 3) := by decide +kernel
theorem dX7_take_79 : decode cX7_take 79 = .ok (.iconst 1, 1) := by decide +kernel
theorem dX7_take_80 : decode cX7_take 80 = .ok (.ireturn, 1) := by decide +kernel
theorem dX7_take_81 : decode cX7_take 81 = .ok (.aload_n 0, 1) := by decide +kernel
theorem dX7_take_82 : decode cX7_take 82 = .ok (.iload_n 2, 1) := by decide +kernel
theorem dX7_take_83 : decode cX7_take 83 = .ok (.invokevirtual 98, 3) := by decide +kernel
theorem dX7_take_86 : decode cX7_take 86 = .ok (.aload_n 0, 1) := by decide +kernel
theorem dX7_take_87 : decode cX7_take 87 = .ok (.iload_n 3, 1) := by decide +kernel
theorem dX7_take_88 : decode cX7_take 88 = .ok (.iload 4, 2) := by decide +kernel
theorem dX7_take_90 : decode cX7_take 90 = .ok (.iconst 1, 1) := by decide +kernel
theorem dX7_take_91 : decode cX7_take 91 = .ok (.invokevirtual 90, 3) := by decide +kernel
theorem dX7_take_94 : decode cX7_take 94 = .ok (.iload 5, 2) := by decide +kernel
theorem dX7_take_96 : decode cX7_take 96 = .ok (.ifCond .eq 12, 3) := by decide +kernel
theorem dX7_take_99 : decode cX7_take 99 = .ok (.aload_n 0, 1) := by decide +kernel
theorem dX7_take_100 : decode cX7_take 100 = .ok (.iload_n 3, 1) := by decide +kernel
theorem dX7_take_101 : decode cX7_take 101 = .ok (.iconst 1, 1) := by decide +kernel
theorem dX7_take_102 : decode cX7_take 102 = .ok (.iadd, 1) := by decide +kernel
theorem dX7_take_103 : decode cX7_take 103 = .ok (.iconst 0, 1) := by decide +kernel
theorem dX7_take_104 : decode cX7_take 104 = .ok (.iconst 1, 1) := by decide +kernel
theorem dX7_take_105 : decode cX7_take 105 = .ok (.invokevirtual 90, 3) := by decide +kernel
theorem dX7_take_108 : decode cX7_take 108 = .ok (.iconst 0, 1) := by decide +kernel
theorem dX7_take_109 : decode cX7_take 109 = .ok (.ireturn, 1) := by decide +kernel
theorem dX7_isFree_0 : decode cX7_isFree 0 = .ok (.iload_n 1, 1) := by decide +kernel
theorem dX7_isFree_1 : decode cX7_isFree 1 = .ok (.ifCond .lt 27, 3) := by decide +kernel
theorem dX7_isFree_4 : decode cX7_isFree 4 = .ok (.iload_n 1, 1) := by decide +kernel
theorem dX7_isFree_5 : decode cX7_isFree 5 = .ok (.bipush 16, 2) := by decide +kernel
theorem dX7_isFree_7 : decode cX7_isFree 7 = .ok (.if_icmp .ge 21, 3) := by decide +kernel
theorem dX7_isFree_10 : decode cX7_isFree 10 = .ok (.aload_n 0, 1) := by decide +kernel
theorem dX7_isFree_11 : decode cX7_isFree 11 = .ok (.getfield 9, 3) := by decide +kernel
theorem dX7_isFree_14 : decode cX7_isFree 14 = .ok (.iload_n 1, 1) := by decide +kernel
theorem dX7_isFree_15 : decode cX7_isFree 15 = .ok (.iaload, 1) := by decide +kernel
theorem dX7_isFree_16 : decode cX7_isFree 16 = .ok (.iload_n 2, 1) := by decide +kernel
theorem dX7_isFree_17 : decode cX7_isFree 17 = .ok (.ishr, 1) := by decide +kernel
theorem dX7_isFree_18 : decode cX7_isFree 18 = .ok (.iconst 1, 1) := by decide +kernel
theorem dX7_isFree_19 : decode cX7_isFree 19 = .ok (.iand, 1) := by decide +kernel
theorem dX7_isFree_20 : decode cX7_isFree 20 = .ok (.iconst 1, 1) := by decide +kernel
theorem dX7_isFree_21 : decode cX7_isFree 21 = .ok (.if_icmp .ne 7, 3) := by decide +kernel
theorem dX7_isFree_24 : decode cX7_isFree 24 = .ok (.iconst 1, 1) := by decide +kernel
theorem dX7_isFree_25 : decode cX7_isFree 25 = .ok (.goto 4, 3) := by decide +kernel
theorem dX7_isFree_28 : decode cX7_isFree 28 = .ok (.iconst 0, 1) := by decide +kernel
theorem dX7_isFree_29 : decode cX7_isFree 29 = .ok (.ireturn, 1) := by decide +kernel
theorem dX7_turn_0 : decode cX7_turn 0 = .ok (.aload_n 0, 1) := by decide +kernel
theorem dX7_turn_1 : decode cX7_turn 1 = .ok (.getfield 21, 3) := by decide +kernel
theorem dX7_turn_4 : decode cX7_turn 4 = .ok (.iload_n 1, 1) := by decide +kernel
theorem dX7_turn_5 : decode cX7_turn 5 = .ok (.invokevirtual 35, 3) := by decide +kernel
theorem dX7_turn_8 : decode cX7_turn 8 = .ok (.astore 4, 2) := by decide +kernel
theorem dX7_turn_10 : decode cX7_turn 10 = .ok (.aload 4, 2) := by decide +kernel
theorem dX7_turn_12 : decode cX7_turn 12 = .ok (.ifnull 13, 3) := by decide +kernel
theorem dX7_turn_15 : decode cX7_turn 15 = .ok (.iload_n 1, 1) := by decide +kernel
theorem dX7_turn_16 : decode cX7_turn 16 = .ok (.ifCond .lt 9, 3) := by decide +kernel
theorem dX7_turn_19 : decode cX7_turn 19 = .ok (.iload_n 1, 1) := by decide +kernel
theorem dX7_turn_20 : decode cX7_turn 20 = .ok (.bipush 16, 2) := by decide +kernel
theorem dX7_turn_22 : decode cX7_turn 22 = .ok (.if_icmp .lt 4, 3) := by decide +kernel
theorem dX7_turn_25 : decode cX7_turn 25 = .ok (.return_, 1) := by decide +kernel
theorem dX7_turn_26 : decode cX7_turn 26 = .ok (.aload_n 0, 1) := by decide +kernel
theorem dX7_turn_27 : decode cX7_turn 27 = .ok (.getfield 9, 3) := by decide +kernel
theorem dX7_turn_30 : decode cX7_turn 30 = .ok (.iload_n 1, 1) := by decide +kernel
theorem dX7_turn_31 : decode cX7_turn 31 = .ok (.dup2, 1) := by decide +kernel
theorem dX7_turn_32 : decode cX7_turn 32 = .ok (.iaload, 1) := by decide +kernel
theorem dX7_turn_33 : decode cX7_turn 33 = .ok (.iconst 1, 1) := by decide +kernel
theorem dX7_turn_34 : decode cX7_turn 34 = .ok (.iload_n 2, 1) := by decide +kernel
theorem dX7_turn_35 : decode cX7_turn 35 = .ok (.ishl, 1) := by decide +kernel
theorem dX7_turn_36 : decode cX7_turn 36 = .ok (.ixor, 1) := by decide +kernel
theorem dX7_turn_37 : decode cX7_turn 37 = .ok (.iastore, 1) := by decide +kernel
theorem dX7_turn_38 : decode cX7_turn 38 = .ok (.aload_n 0, 1) := by decide +kernel
theorem dX7_turn_39 : decode cX7_turn 39 = .ok (.getfield 15, 3) := by decide +kernel
theorem dX7_turn_42 : decode cX7_turn 42 = .ok (.aload 4, 2) := by decide +kernel
theorem dX7_turn_44 : decode cX7_turn 44 = .ok (.getfield 51, 3) := by decide +kernel
theorem dX7_turn_47 : decode cX7_turn 47 = .ok (.dup2, 1) := by decide +kernel
theorem dX7_turn_48 : decode cX7_turn 48 = .ok (.iaload, 1) := by decide +kernel
theorem dX7_turn_49 : decode cX7_turn 49 = .ok (.iload_n 3, 1) := by decide +kernel
theorem dX7_turn_50 : decode cX7_turn 50 = .ok (.iadd, 1) := by decide +kernel
theorem dX7_turn_51 : decode cX7_turn 51 = .ok (.iastore, 1) := by decide +kernel
theorem dX7_turn_52 : decode cX7_turn 52 = .ok (.aload_n 0, 1) := by decide +kernel
theorem dX7_turn_53 : decode cX7_turn 53 = .ok (.aload 4, 2) := by decide +kernel
theorem dX7_turn_55 : decode cX7_turn 55 = .ok (.getfield 54, 3) := by decide +kernel
theorem dX7_turn_58 : decode cX7_turn 58 = .ok (.iconst 0, 1) := by decide +kernel
theorem dX7_turn_59 : decode cX7_turn 59 = .ok (.invokevirtual 57, 3) := by decide +kernel
theorem dX7_turn_62 : decode cX7_turn 62 = .ok (.ifCond .eq 13, 3) := by decide +kernel
theorem dX7_turn_65 : decode cX7_turn 65 = .ok (.aload_n 0, 1) := by decide +kernel
theorem dX7_turn_66 : decode cX7_turn 66 = .ok (.dup, 1) := by decide +kernel
theorem dX7_turn_67 : decode cX7_turn 67 = .ok (.getfield 31, 3) := by decide +kernel
theorem dX7_turn_70 : decode cX7_turn 70 = .ok (.iload_n 3, 1) := by decide +kernel
theorem dX7_turn_71 : decode cX7_turn 71 = .ok (.iadd, 1) := by decide +kernel
theorem dX7_turn_72 : decode cX7_turn 72 = .ok (.putfield 31, 3) := by decide +kernel
theorem dX7_turn_75 : decode cX7_turn 75 = .ok (.return_, 1) := by decide +kernel
theorem dX8_init_0 : decode cX8_init 0 = .ok (.aload_n 0, 1) := by decide +kernel
theorem dX8_init_1 : decode cX8_init 1 = .ok (.invokespecial 1, 3) := by decide +kernel
theorem dX8_init_4 : decode cX8_init 4 = .ok (.aload_n 0, 1) := by decide +kernel
theorem dX8_init_5 : decode cX8_init 5 = .ok (.new 7, 3) := by decide +kernel
theorem dX8_init_8 : decode cX8_init 8 = .ok (.dup, 1) := by decide +kernel
theorem dX8_init_9 : decode cX8_init 9 = .ok (.invokespecial 9, 3) := by decide +kernel
theorem dX8_init_12 : decode cX8_init 12 = .ok (.putfield 10, 3) := by decide +kernel
theorem dX8_init_15 : decode cX8_init 15 = .ok (.aload_n 0, 1) := by decide +kernel
theorem dX8_init_16 : decode cX8_init 16 = .ok (.new 16, 3) := by decide +kernel
theorem dX8_init_19 : decode cX8_init 19 = .ok (.dup, 1) := by decide +kernel
theorem dX8_init_20 : decode cX8_init 20 = .ok (.invokespecial 18, 3) := by decide +kernel
theorem dX8_init_23 : decode cX8_init 23 = .ok (.putfield 19, 3) := by decide +kernel
theorem dX8_init_26 : decode cX8_init 26 = .ok (.aload_n 0, 1) := by decide +kernel
theorem dX8_init_27 : decode cX8_init 27 = .ok (.new 23, 3) := by decide +kernel
theorem dX8_init_30 : decode cX8_init 30 = .ok (.dup, 1) := by decide +kernel
theorem dX8_init_31 : decode cX8_init 31 = .ok (.aload_n 0, 1) := by decide +kernel
theorem dX8_init_32 : decode cX8_init 32 = .ok (.getfield 10, 3) := by decide +kernel
theorem dX8_init_35 : decode cX8_init 35 = .ok (.invokespecial 25, 3) := by decide +kernel
theorem dX8_init_38 : decode cX8_init 38 = .ok (.putfield 28, 3) := by decide +kernel
theorem dX8_init_41 : decode cX8_init 41 = .ok (.aload_n 0, 1) := by decide +kernel
theorem dX8_init_42 : decode cX8_init 42 = .ok (.new 32, 3) := by decide +kernel
theorem dX8_init_45 : decode cX8_init 45 = .ok (.dup, 1) := by decide +kernel
theorem dX8_init_46 : decode cX8_init 46 = .ok (.aload_n 0, 1) := by decide +kernel
theorem dX8_init_47 : decode cX8_init 47 = .ok (.getfield 10, 3) := by decide +kernel
theorem dX8_init_50 : decode cX8_init 50 = .ok (.aload_n 0, 1) := by decide +kernel
theorem dX8_init_51 : decode cX8_init 51 = .ok (.getfield 19, 3) := by decide +kernel
theorem dX8_init_54 : decode cX8_init 54 = .ok (.aload_n 0, 1) := by decide +kernel
theorem dX8_init_55 : decode cX8_init 55 = .ok (.getfield 28, 3) := by decide +kernel
theorem dX8_init_58 : decode cX8_init 58 = .ok (.invokespecial 34, 3) := by decide +kernel
theorem dX8_init_61 : decode cX8_init 61 = .ok (.putfield 37, 3) := by decide +kernel
theorem dX8_init_64 : decode cX8_init 64 = .ok (.aload_n 0, 1) := by decide +kernel
theorem dX8_init_65 : decode cX8_init 65 = .ok (.new 41, 3) := by decide +kernel
theorem dX8_init_68 : decode cX8_init 68 = .ok (.dup, 1) := by decide +kernel
theorem dX8_init_69 : decode cX8_init 69 = .ok (.invokespecial 43, 3) := by decide +kernel
theorem dX8_init_72 : decode cX8_init 72 = .ok (.putfield 44, 3) := by decide +kernel
theorem dX8_init_75 : decode cX8_init 75 = .ok (.return_, 1) := by decide +kernel
theorem dX8_room_0 : decode cX8_room 0 = .ok (.aload_n 0, 1) := by decide +kernel
theorem dX8_room_1 : decode cX8_room 1 = .ok (.getfield 10, 3) := by decide +kernel
theorem dX8_room_4 : decode cX8_room 4 = .ok (.iload_n 1, 1) := by decide +kernel
theorem dX8_room_5 : decode cX8_room 5 = .ok (.invokevirtual 48, 3) := by decide +kernel
theorem dX8_room_8 : decode cX8_room 8 = .ok (.ifCond .eq 22, 3) := by decide +kernel
theorem dX8_room_11 : decode cX8_room 11 = .ok (.iload_n 2, 1) := by decide +kernel
theorem dX8_room_12 : decode cX8_room 12 = .ok (.ifCond .lt 18, 3) := by decide +kernel
theorem dX8_room_15 : decode cX8_room 15 = .ok (.iload_n 2, 1) := by decide +kernel
theorem dX8_room_16 : decode cX8_room 16 = .ok (.iconst 4, 1) := by decide +kernel
theorem dX8_room_17 : decode cX8_room 17 = .ok (.if_icmp .ge 13, 3) := by decide +kernel
theorem dX8_room_20 : decode cX8_room 20 = .ok (.iload_n 3, 1) := by decide +kernel
theorem dX8_room_21 : decode cX8_room 21 = .ok (.ifCond .lt 9, 3) := by decide +kernel
theorem dX8_room_24 : decode cX8_room 24 = .ok (.iload_n 3, 1) := by decide +kernel
theorem dX8_room_25 : decode cX8_room 25 = .ok (.bipush 10, 2) := by decide +kernel
theorem dX8_room_27 : decode cX8_room 27 = .ok (.if_icmp .lt 5, 3) := by decide +kernel
theorem dX8_room_30 : decode cX8_room 30 = .ok (.iconst 0, 1) := by decide +kernel
theorem dX8_room_31 : decode cX8_room 31 = .ok (.ireturn, 1) := by decide +kernel
theorem dX8_room_32 : decode cX8_room 32 = .ok (.iload 5, 2) := by decide +kernel
theorem dX8_room_34 : decode cX8_room 34 = .ok (.ifCond .lt 28, 3) := by decide +kernel
theorem dX8_room_37 : decode cX8_room 37 = .ok (.iload 5, 2) := by decide +kernel
theorem dX8_room_39 : decode cX8_room 39 = .ok (.bipush 60, 2) := by decide +kernel
theorem dX8_room_41 : decode cX8_room 41 = .ok (.if_icmp .gt 21, 3) := by decide +kernel
theorem dX8_room_44 : decode cX8_room 44 = .ok (.iload_n 2, 1) := by decide +kernel
theorem dX8_room_45 : decode cX8_room 45 = .ok (.iconst 3, 1) := by decide +kernel
theorem dX8_room_46 : decode cX8_room 46 = .ok (.if_icmp .ne 18, 3) := by decide +kernel
theorem dX8_room_49 : decode cX8_room 49 = .ok (.iload 4, 2) := by decide +kernel
theorem dX8_room_51 : decode cX8_room 51 = .ok (.iconst 2, 1) := by decide +kernel
theorem dX8_room_52 : decode cX8_room 52 = .ok (.if_icmp .lt 10, 3) := by decide +kernel
theorem dX8_room_55 : decode cX8_room 55 = .ok (.iload 4, 2) := by decide +kernel
theorem dX8_room_57 : decode cX8_room 57 = .ok (.bipush 6, 2) := by decide +kernel
theorem dX8_room_59 : decode cX8_room 59 = .ok (.if_icmp .le 5, 3) := by decide +kernel
theorem dX8_room_62 : decode cX8_room 62 = .ok (.iconst 0, 1) := by decide +kernel
theorem dX8_room_63 : decode cX8_room 63 = .ok (.ireturn, 1) := by decide +kernel
theorem dX8_room_64 : decode cX8_room 64 = .ok (.aload_n 0, 1) := by decide +kernel
theorem dX8_room_65 : decode cX8_room 65 = .ok (.getfield 10, 3) := by decide +kernel
theorem dX8_room_68 : decode cX8_room 68 = .ok (.iload_n 1, 1) := by decide +kernel
theorem dX8_room_69 : decode cX8_room 69 = .ok (.new 52, 3) := by decide +kernel
theorem dX8_room_72 : decode cX8_room 72 = .ok (.dup, 1) := by decide +kernel
theorem dX8_room_73 : decode cX8_room 73 = .ok (.iload_n 2, 1) := by decide +kernel
theorem dX8_room_74 : decode cX8_room 74 = .ok (.iload_n 3, 1) := by decide +kernel
theorem dX8_room_75 : decode cX8_room 75 = .ok (.iload 4, 2) := by decide +kernel
theorem dX8_room_77 : decode cX8_room 77 = .ok (.iload 5, 2) := by decide +kernel
theorem dX8_room_79 : decode cX8_room 79 = .ok (.invokespecial 54, 3) := by decide +kernel
theorem dX8_room_82 : decode cX8_room 82 = .ok (.invokevirtual 57, 3) := by decide +kernel
theorem dX8_room_85 : decode cX8_room 85 = .ok (.aload_n 0, 1) := by decide +kernel
theorem dX8_room_86 : decode cX8_room 86 = .ok (.iconst 0, 1) := by decide +kernel
theorem dX8_room_87 : decode cX8_room 87 = .ok (.invokevirtual 61, 3) := by decide +kernel
theorem dX8_room_90 : decode cX8_room 90 = .ok (.iconst 1, 1) := by decide +kernel
theorem dX8_room_91 : decode cX8_room 91 = .ok (.ireturn, 1) := by decide +kernel
theorem dX8_store_0 : decode cX8_store 0 = .ok (.aload_n 0, 1) := by decide +kernel
theorem dX8_store_1 : decode cX8_store 1 = .ok (.getfield 10, 3) := by decide +kernel
theorem dX8_store_4 : decode cX8_store 4 = .ok (.iload_n 1, 1) := by decide +kernel
theorem dX8_store_5 : decode cX8_store 5 = .ok (.invokevirtual 48, 3) := by decide +kernel
theorem dX8_store_8 : decode cX8_store 8 = .ok (.ifCond .ne 5, 3) := by decide +kernel
theorem dX8_store_11 : decode cX8_store 11 = .ok (.iconst 0, 1) := by decide +kernel
theorem dX8_store_12 : decode cX8_store 12 = .ok (.ireturn, 1) := by decide +kernel
theorem dX8_store_13 : decode cX8_store 13 = .ok (.aload_n 0, 1) := by decide +kernel
theorem dX8_store_14 : decode cX8_store 14 = .ok (.getfield 10, 3) := by decide +kernel
theorem dX8_store_17 : decode cX8_store 17 = .ok (.iload_n 1, 1) := by decide +kernel
theorem dX8_store_18 : decode cX8_store 18 = .ok (.invokevirtual 65, 3) := by decide +kernel
theorem dX8_store_21 : decode cX8_store 21 = .ok (.iconst 1, 1) := by decide +kernel
theorem dX8_store_22 : decode cX8_store 22 = .ok (.ireturn, 1) := by decide +kernel
theorem dX8_door_0 : decode cX8_door 0 = .ok (.aload_n 0, 1) := by decide +kernel
theorem dX8_door_1 : decode cX8_door 1 = .ok (.getfield 10, 3) := by decide +kernel
theorem dX8_door_4 : decode cX8_door 4 = .ok (.iload_n 1, 1) := by decide +kernel
theorem dX8_door_5 : decode cX8_door 5 = .ok (.invokevirtual 68, 3) := by decide +kernel
theorem dX8_door_8 : decode cX8_door 8 = .ok (.ifCond .ne 5, 3) := by decide +kernel
theorem dX8_door_11 : decode cX8_door 11 = .ok (.iconst 0, 1) := by decide +kernel
theorem dX8_door_12 : decode cX8_door 12 = .ok (.ireturn, 1) := by decide +kernel
theorem dX8_door_13 : decode cX8_door 13 = .ok (.aload_n 0, 1) := by decide +kernel
theorem dX8_door_14 : decode cX8_door 14 = .ok (.iconst 0, 1) := by decide +kernel
theorem dX8_door_15 : decode cX8_door 15 = .ok (.invokevirtual 61, 3) := by decide +kernel
theorem dX8_door_18 : decode cX8_door 18 = .ok (.iconst 1, 1) := by decide +kernel
theorem dX8_door_19 : decode cX8_door 19 = .ok (.ireturn, 1) := by decide +kernel
theorem dX8_shut_0 : decode cX8_shut 0 = .ok (.aload_n 0, 1) := by decide +kernel
theorem dX8_shut_1 : decode cX8_shut 1 = .ok (.getfield 10, 3) := by decide +kernel
theorem dX8_shut_4 : decode cX8_shut 4 = .ok (.iload_n 1, 1) := by decide +kernel
theorem dX8_shut_5 : decode cX8_shut 5 = .ok (.invokevirtual 71, 3) := by decide +kernel
theorem dX8_shut_8 : decode cX8_shut 8 = .ok (.astore 5, 2) := by decide +kernel
theorem dX8_shut_10 : decode cX8_shut 10 = .ok (.aload 5, 2) := by decide +kernel
theorem dX8_shut_12 : decode cX8_shut 12 = .ok (.ifnull 19, 3) := by decide +kernel
theorem dX8_shut_15 : decode cX8_shut 15 = .ok (.aload 5, 2) := by decide +kernel
theorem dX8_shut_17 : decode cX8_shut 17 = .ok (.getfield 75, 3) := by decide +kernel
theorem dX8_shut_20 : decode cX8_shut 20 = .ok (.ifCond .ne 11, 3) := by decide +kernel
theorem dX8_shut_23 : decode cX8_shut 23 = .ok (.iload_n 2, 1) := by decide +kernel
theorem dX8_shut_24 : decode cX8_shut 24 = .ok (.iload_n 3, 1) := by decide +kernel
theorem dX8_shut_25 : decode cX8_shut 25 = .ok (.invokestatic 79, 3) := by decide +kernel
theorem dX8_shut_28 : decode cX8_shut 28 = .ok (.ifCond .ne 5, 3) := by decide +kernel
theorem dX8_shut_31 : decode cX8_shut 31 = .ok (.iconst (-1), 1) := by decide +kernel
theorem dX8_shut_32 : decode cX8_shut 32 = .ok (.ireturn, 1) := by decide +kernel
theorem dX8_shut_33 : decode cX8_shut 33 = .ok (.aload_n 0, 1) := by decide +kernel
theorem dX8_shut_34 : decode cX8_shut 34 = .ok (.iload_n 2, 1) := by decide +kernel
theorem dX8_shut_35 : decode cX8_shut 35 = .ok (.invokevirtual 61, 3) := by decide +kernel
theorem dX8_shut_38 : decode cX8_shut 38 = .ok (.aload 5, 2) := by decide +kernel
theorem dX8_shut_40 : decode cX8_shut 40 = .ok (.iload_n 2, 1) := by decide +kernel
theorem dX8_shut_41 : decode cX8_shut 41 = .ok (.iload_n 3, 1) := by decide +kernel
theorem dX8_shut_42 : decode cX8_shut 42 = .ok (.iload 4, 2) := by decide +kernel
theorem dX8_shut_44 : decode cX8_shut 44 = .ok (.invokevirtual 83, 3) := by decide +kernel
theorem dX8_shut_47 : decode cX8_shut 47 = .ok (.ireturn, 1) := by decide +kernel
theorem dX8_open_0 : decode cX8_open 0 = .ok (.aload_n 0, 1) := by decide +kernel
theorem dX8_open_1 : decode cX8_open 1 = .ok (.getfield 10, 3) := by decide +kernel
theorem dX8_open_4 : decode cX8_open 4 = .ok (.iload_n 1, 1) := by decide +kernel
theorem dX8_open_5 : decode cX8_open 5 = .ok (.invokevirtual 71, 3) := by decide +kernel
theorem dX8_open_8 : decode cX8_open 8 = .ok (.astore_n 3, 1) := by decide +kernel
theorem dX8_open_9 : decode cX8_open 9 = .ok (.aload_n 3, 1) := by decide +kernel
theorem dX8_open_10 : decode cX8_open 10 = .ok (.ifnonnull 5, 3) := by decide +kernel
theorem dX8_open_13 : decode cX8_open 13 = .ok (.iconst (-1), 1) := by decide +kernel
theorem dX8_open_14 : decode cX8_open 14 = .ok (.ireturn, 1) := by decide +kernel
theorem dX8_open_15 : decode cX8_open 15 = .ok (.aload_n 0, 1) := by decide +kernel
theorem dX8_open_16 : decode cX8_open 16 = .ok (.iconst 0, 1) := by decide +kernel
theorem dX8_open_17 : decode cX8_open 17 = .ok (.invokevirtual 61, 3) := by decide +kernel
theorem dX8_open_20 : decode cX8_open 20 = .ok (.aload_n 3, 1) := by decide +kernel
theorem dX8_open_21 : decode cX8_open 21 = .ok (.iload_n 2, 1) := by decide +kernel
theorem dX8_open_22 : decode cX8_open 22 = .ok (.invokevirtual 87, 3) := by decide +kernel
theorem dX8_open_25 : decode cX8_open 25 = .ok (.ireturn, 1) := by decide +kernel
theorem dX8_close_0 : decode cX8_close 0 = .ok (.aload_n 0, 1) := by decide +kernel
theorem dX8_close_1 : decode cX8_close 1 = .ok (.getfield 10, 3) := by decide +kernel
theorem dX8_close_4 : decode cX8_close 4 = .ok (.iload_n 1, 1) := by decide +kernel
theorem dX8_close_5 : decode cX8_close 5 = .ok (.invokevirtual 71, 3) := by decide +kernel
theorem dX8_close_8 : decode cX8_close 8 = .ok (.astore_n 2, 1) := by decide +kernel
theorem dX8_close_9 : decode cX8_close 9 = .ok (.aload_n 2, 1) := by decide +kernel
theorem dX8_close_10 : decode cX8_close 10 = .ok (.ifnull 10, 3) := by decide +kernel
theorem dX8_close_13 : decode cX8_close 13 = .ok (.aload_n 2, 1) := by decide +kernel
theorem dX8_close_14 : decode cX8_close 14 = .ok (.getfield 75, 3) := by decide +kernel
theorem dX8_close_17 : decode cX8_close 17 = .ok (.ifCond .eq 5, 3) := by decide +kernel
theorem dX8_close_20 : decode cX8_close 20 = .ok (.iconst 0, 1) := by decide +kernel
theorem dX8_close_21 : decode cX8_close 21 = .ok (.ireturn, 1) := by decide +kernel
theorem dX8_close_22 : decode cX8_close 22 = .ok (.aload_n 2, 1) := by decide +kernel
theorem dX8_close_23 : decode cX8_close 23 = .ok (.invokevirtual 91, 3) := by decide +kernel
theorem dX8_close_26 : decode cX8_close 26 = .ok (.aload_n 0, 1) := by decide +kernel
theorem dX8_close_27 : decode cX8_close 27 = .ok (.iconst 0, 1) := by decide +kernel
theorem dX8_close_28 : decode cX8_close 28 = .ok (.invokevirtual 61, 3) := by decide +kernel
theorem dX8_close_31 : decode cX8_close 31 = .ok (.iconst 1, 1) := by decide +kernel
theorem dX8_close_32 : decode cX8_close 32 = .ok (.ireturn, 1) := by decide +kernel
theorem dX8_look_0 : decode cX8_look 0 = .ok (.iload_n 1, 1) := by decide +kernel
theorem dX8_look_1 : decode cX8_look 1 = .ok (.invokestatic 94, 3) := by decide +kernel
theorem dX8_look_4 : decode cX8_look 4 = .ok (.ifCond .ne 6, 3) := by decide +kernel
theorem dX8_look_7 : decode cX8_look 7 = .ok (.bipush (-2), 2) := by decide +kernel
theorem dX8_look_9 : decode cX8_look 9 = .ok (.ireturn, 1) := by decide +kernel
theorem dX8_look_10 : decode cX8_look 10 = .ok (.aload_n 0, 1) := by decide +kernel
theorem dX8_look_11 : decode cX8_look 11 = .ok (.getfield 10, 3) := by decide +kernel
theorem dX8_look_14 : decode cX8_look 14 = .ok (.iload_n 1, 1) := by decide +kernel
theorem dX8_look_15 : decode cX8_look 15 = .ok (.invokevirtual 71, 3) := by decide +kernel
theorem dX8_look_18 : decode cX8_look 18 = .ok (.astore_n 3, 1) := by decide +kernel
theorem dX8_look_19 : decode cX8_look 19 = .ok (.iload_n 2, 1) := by decide +kernel
theorem dX8_look_20 : decode cX8_look 20 = .ok (.ifCond .ne 12, 3) := by decide +kernel
theorem dX8_look_23 : decode cX8_look 23 = .ok (.aload_n 0, 1) := by decide +kernel
theorem dX8_look_24 : decode cX8_look 24 = .ok (.getfield 10, 3) := by decide +kernel
theorem dX8_look_27 : decode cX8_look 27 = .ok (.iload_n 1, 1) := by decide +kernel
theorem dX8_look_28 : decode cX8_look 28 = .ok (.invokevirtual 97, 3) := by decide +kernel
theorem dX8_look_31 : decode cX8_look 31 = .ok (.ireturn, 1) := by decide +kernel
theorem dX8_look_32 : decode cX8_look 32 = .ok (.aload_n 3, 1) := by decide +kernel
theorem dX8_look_33 : decode cX8_look 33 = .ok (.ifnonnull 5, 3) := by decide +kernel
theorem dX8_look_36 : decode cX8_look 36 = .ok (.iconst (-1), 1) := by decide +kernel
theorem dX8_look_37 : decode cX8_look 37 = .ok (.ireturn, 1) := by decide +kernel
theorem dX8_look_38 : decode cX8_look 38 = .ok (.iload_n 2, 1) := by decide +kernel
theorem dX8_look_39 : decode cX8_look 39 = .ok (.tableswitch 40 1 3 #[25, 30, 35], 25) := by decide +kernel
theorem dX8_look_64 : decode cX8_look 64 = .ok (.aload_n 3, 1) := by decide +kernel
theorem dX8_look_65 : decode cX8_look 65 = .ok (.getfield 100, 3) := by decide +kernel
theorem dX8_look_68 : decode cX8_look 68 = .ok (.ireturn, 1) := by decide +kernel
theorem dX8_look_69 : decode cX8_look 69 = .ok (.aload_n 3, 1) := by decide +kernel
theorem dX8_look_70 : decode cX8_look 70 = .ok (.getfield 104, 3) := by decide +kernel
theorem dX8_look_73 : decode cX8_look 73 = .ok (.ireturn, 1) := by decide +kernel
theorem dX8_look_74 : decode cX8_look 74 = .ok (.aload_n 3, 1) := by decide +kernel
theorem dX8_look_75 : decode cX8_look 75 = .ok (.getfield 107, 3) := by decide +kernel
theorem dX8_look_78 : decode cX8_look 78 = .ok (.ireturn, 1) := by decide +kernel
theorem dX8_look_79 : decode cX8_look 79 = .ok (.iconst (-1), 1) := by decide +kernel
theorem dX8_look_80 : decode cX8_look 80 = .ok (.ireturn, 1) := by decide +kernel
theorem dX8_night_0 : decode cX8_night 0 = .ok (.iload_n 2, 1) := by decide +kernel
theorem dX8_night_1 : decode cX8_night 1 = .ok (.invokestatic 110, 3) := by decide +kernel
theorem dX8_night_4 : decode cX8_night 4 = .ok (.ifCond .ne 6, 3) := by decide +kernel
theorem dX8_night_7 : decode cX8_night 7 = .ok (.bipush (-4), 2) := by decide +kernel
theorem dX8_night_9 : decode cX8_night 9 = .ok (.ireturn, 1) := by decide +kernel
theorem dX8_night_10 : decode cX8_night 10 = .ok (.aload_n 0, 1) := by decide +kernel
theorem dX8_night_11 : decode cX8_night 11 = .ok (.getfield 10, 3) := by decide +kernel
theorem dX8_night_14 : decode cX8_night 14 = .ok (.iload_n 1, 1) := by decide +kernel
theorem dX8_night_15 : decode cX8_night 15 = .ok (.invokevirtual 71, 3) := by decide +kernel
theorem dX8_night_18 : decode cX8_night 18 = .ok (.astore_n 3, 1) := by decide +kernel
theorem dX8_night_19 : decode cX8_night 19 = .ok (.aload_n 3, 1) := by decide +kernel
theorem dX8_night_20 : decode cX8_night 20 = .ok (.ifnonnull 8, 3) := by decide +kernel
theorem dX8_night_23 : decode cX8_night 23 = .ok (.bipush (-3), 2) := by decide +kernel
theorem dX8_night_25 : decode cX8_night 25 = .ok (.goto 8, 3) := by decide +kernel
theorem dX8_night_28 : decode cX8_night 28 = .ok (.aload_n 3, 1) := by decide +kernel
theorem dX8_night_29 : decode cX8_night 29 = .ok (.iload_n 2, 1) := by decide +kernel
theorem dX8_night_30 : decode cX8_night 30 = .ok (.invokevirtual 113, 3) := by decide +kernel
theorem dX8_night_33 : decode cX8_night 33 = .ok (.ireturn, 1) := by decide +kernel
theorem dX8_can_0 : decode cX8_can 0 = .ok (.aload_n 0, 1) := by decide +kernel
theorem dX8_can_1 : decode cX8_can 1 = .ok (.iload_n 1, 1) := by decide +kernel
theorem dX8_can_2 : decode cX8_can 2 = .ok (.iload_n 2, 1) := by decide +kernel
theorem dX8_can_3 : decode cX8_can 3 = .ok (.iload_n 3, 1) := by decide +kernel
theorem dX8_can_4 : decode cX8_can 4 = .ok (.iload 4, 2) := by decide +kernel
theorem dX8_can_6 : decode cX8_can 6 = .ok (.iconst (-1), 1) := by decide +kernel
theorem dX8_can_7 : decode cX8_can 7 = .ok (.invokevirtual 116, 3) := by decide +kernel
theorem dX8_can_10 : decode cX8_can 10 = .ok (.ireturn, 1) := by decide +kernel
theorem dX8_promise_0 : decode cX8_promise 0 = .ok (.aload_n 0, 1) := by decide +kernel
theorem dX8_promise_1 : decode cX8_promise 1 = .ok (.iload_n 1, 1) := by decide +kernel
theorem dX8_promise_2 : decode cX8_promise 2 = .ok (.iload_n 2, 1) := by decide +kernel
theorem dX8_promise_3 : decode cX8_promise 3 = .ok (.iload_n 3, 1) := by decide +kernel
theorem dX8_promise_4 : decode cX8_promise 4 = .ok (.iload 4, 2) := by decide +kernel
theorem dX8_promise_6 : decode cX8_promise 6 = .ok (.iconst (-1), 1) := by decide +kernel
theorem dX8_promise_7 : decode cX8_promise 7 = .ok (.invokevirtual 116, 3) := by decide +kernel
theorem dX8_promise_10 : decode cX8_promise 10 = .ok (.istore 6, 2) := by decide +kernel
theorem dX8_promise_12 : decode cX8_promise 12 = .ok (.iload 6, 2) := by decide +kernel
theorem dX8_promise_14 : decode cX8_promise 14 = .ok (.ifCond .ne 21, 3) := by decide +kernel
theorem dX8_promise_17 : decode cX8_promise 17 = .ok (.iload 5, 2) := by decide +kernel
theorem dX8_promise_19 : decode cX8_promise 19 = .ok (.iconst (-1), 1) := by decide +kernel
theorem dX8_promise_20 : decode cX8_promise 20 = .ok (.if_icmp .eq 15, 3) := by decide +kernel
theorem dX8_promise_23 : decode cX8_promise 23 = .ok (.iload 5, 2) := by decide +kernel
theorem dX8_promise_25 : decode cX8_promise 25 = .ok (.aload_n 0, 1) := by decide +kernel
theorem dX8_promise_26 : decode cX8_promise 26 = .ok (.getfield 120, 3) := by decide +kernel
theorem dX8_promise_29 : decode cX8_promise 29 = .ok (.if_icmp .ge 6, 3) := by decide +kernel
theorem dX8_promise_32 : decode cX8_promise 32 = .ok (.iconst 5, 1) := by decide +kernel
theorem dX8_promise_33 : decode cX8_promise 33 = .ok (.istore 6, 2) := by decide +kernel
theorem dX8_promise_35 : decode cX8_promise 35 = .ok (.iload 6, 2) := by decide +kernel
theorem dX8_promise_37 : decode cX8_promise 37 = .ok (.ifCond .eq 8, 3) := by decide +kernel
theorem dX8_promise_40 : decode cX8_promise 40 = .ok (.iconst (-1), 1) := by decide +kernel
theorem dX8_promise_41 : decode cX8_promise 41 = .ok (.iload 6, 2) := by decide +kernel
theorem dX8_promise_43 : decode cX8_promise 43 = .ok (.isub, 1) := by decide +kernel
theorem dX8_promise_44 : decode cX8_promise 44 = .ok (.ireturn, 1) := by decide +kernel
theorem dX8_promise_45 : decode cX8_promise 45 = .ok (.new 123, 3) := by decide +kernel
theorem dX8_promise_48 : decode cX8_promise 48 = .ok (.dup, 1) := by decide +kernel
theorem dX8_promise_49 : decode cX8_promise 49 = .ok (.iload_n 1, 1) := by decide +kernel
theorem dX8_promise_50 : decode cX8_promise 50 = .ok (.iload_n 2, 1) := by decide +kernel
theorem dX8_promise_51 : decode cX8_promise 51 = .ok (.iload 5, 2) := by decide +kernel
theorem dX8_promise_53 : decode cX8_promise 53 = .ok (.invokespecial 125, 3) := by decide +kernel
theorem dX8_promise_56 : decode cX8_promise 56 = .ok (.astore 7, 2) := by decide +kernel
theorem dX8_promise_58 : decode cX8_promise 58 = .ok (.aload 7, 2) := by decide +kernel
theorem dX8_promise_60 : decode cX8_promise 60 = .ok (.iload_n 3, 1) := by decide +kernel
theorem dX8_promise_61 : decode cX8_promise 61 = .ok (.iload 4, 2) := by decide +kernel
theorem dX8_promise_63 : decode cX8_promise 63 = .ok (.aload_n 0, 1) := by decide +kernel
theorem dX8_promise_64 : decode cX8_promise 64 = .ok (.getfield 44, 3) := by decide +kernel
theorem dX8_promise_67 : decode cX8_promise 67 = .ok (.iload_n 1, 1) := by decide +kernel
theorem dX8_promise_68 : decode cX8_promise 68 = .ok (.iload_n 3, 1) := by decide +kernel
theorem dX8_promise_69 : decode cX8_promise 69 = .ok (.iload 4, 2) := by decide +kernel
theorem dX8_promise_71 : decode cX8_promise 71 = .ok (.aload_n 0, 1) := by decide +kernel
theorem dX8_promise_72 : decode cX8_promise 72 = .ok (.getfield 120, 3) := by decide +kernel
theorem dX8_promise_75 : decode cX8_promise 75 = .ok (.invokevirtual 128, 3) := by decide +kernel
theorem dX8_promise_78 : decode cX8_promise 78 = .ok (.invokevirtual 132, 3) := by decide +kernel
theorem dX8_promise_81 : decode cX8_promise 81 = .ok (.aload_n 0, 1) := by decide +kernel
theorem dX8_promise_82 : decode cX8_promise 82 = .ok (.iload_n 3, 1) := by decide +kernel
theorem dX8_promise_83 : decode cX8_promise 83 = .ok (.invokevirtual 61, 3) := by decide +kernel
theorem dX8_promise_86 : decode cX8_promise 86 = .ok (.aload_n 0, 1) := by decide +kernel
theorem dX8_promise_87 : decode cX8_promise 87 = .ok (.getfield 19, 3) := by decide +kernel
theorem dX8_promise_90 : decode cX8_promise 90 = .ok (.aload 7, 2) := by decide +kernel
theorem dX8_promise_92 : decode cX8_promise 92 = .ok (.invokevirtual 136, 3) := by decide +kernel
theorem dX8_promise_95 : decode cX8_promise 95 = .ok (.ireturn, 1) := by decide +kernel
theorem dX8_firm_0 : decode cX8_firm 0 = .ok (.aload_n 0, 1) := by decide +kernel
theorem dX8_firm_1 : decode cX8_firm 1 = .ok (.getfield 19, 3) := by decide +kernel
theorem dX8_firm_4 : decode cX8_firm 4 = .ok (.iload_n 1, 1) := by decide +kernel
theorem dX8_firm_5 : decode cX8_firm 5 = .ok (.invokevirtual 140, 3) := by decide +kernel
theorem dX8_firm_8 : decode cX8_firm 8 = .ok (.astore_n 2, 1) := by decide +kernel
theorem dX8_firm_9 : decode cX8_firm 9 = .ok (.aload_n 2, 1) := by decide +kernel
theorem dX8_firm_10 : decode cX8_firm 10 = .ok (.ifnull 10, 3) := by decide +kernel
theorem dX8_firm_13 : decode cX8_firm 13 = .ok (.aload_n 2, 1) := by decide +kernel
theorem dX8_firm_14 : decode cX8_firm 14 = .ok (.getfield 144, 3) := by decide +kernel
theorem dX8_firm_17 : decode cX8_firm 17 = .ok (.ifCond .eq 5, 3) := by decide +kernel
theorem dX8_firm_20 : decode cX8_firm 20 = .ok (.iconst 0, 1) := by decide +kernel
theorem dX8_firm_21 : decode cX8_firm 21 = .ok (.ireturn, 1) := by decide +kernel
theorem dX8_firm_22 : decode cX8_firm 22 = .ok (.aload_n 0, 1) := by decide +kernel
theorem dX8_firm_23 : decode cX8_firm 23 = .ok (.aload_n 2, 1) := by decide +kernel
theorem dX8_firm_24 : decode cX8_firm 24 = .ok (.iconst 1, 1) := by decide +kernel
theorem dX8_firm_25 : decode cX8_firm 25 = .ok (.invokevirtual 147, 3) := by decide +kernel
theorem dX8_firm_28 : decode cX8_firm 28 = .ok (.iconst 1, 1) := by decide +kernel
theorem dX8_firm_29 : decode cX8_firm 29 = .ok (.ireturn, 1) := by decide +kernel
theorem dX8_cancel_0 : decode cX8_cancel 0 = .ok (.aload_n 0, 1) := by decide +kernel
theorem dX8_cancel_1 : decode cX8_cancel 1 = .ok (.getfield 19, 3) := by decide +kernel
theorem dX8_cancel_4 : decode cX8_cancel 4 = .ok (.iload_n 1, 1) := by decide +kernel
theorem dX8_cancel_5 : decode cX8_cancel 5 = .ok (.invokevirtual 140, 3) := by decide +kernel
theorem dX8_cancel_8 : decode cX8_cancel 8 = .ok (.astore_n 2, 1) := by decide +kernel
theorem dX8_cancel_9 : decode cX8_cancel 9 = .ok (.aload_n 2, 1) := by decide +kernel
theorem dX8_cancel_10 : decode cX8_cancel 10 = .ok (.ifnull 10, 3) := by decide +kernel
theorem dX8_cancel_13 : decode cX8_cancel 13 = .ok (.aload_n 2, 1) := by decide +kernel
theorem dX8_cancel_14 : decode cX8_cancel 14 = .ok (.invokevirtual 151, 3) := by decide +kernel
theorem dX8_cancel_17 : decode cX8_cancel 17 = .ok (.ifCond .ne 5, 3) := by decide +kernel
theorem dX8_cancel_20 : decode cX8_cancel 20 = .ok (.iconst 0, 1) := by decide +kernel
theorem dX8_cancel_21 : decode cX8_cancel 21 = .ok (.ireturn, 1) := by decide +kernel
theorem dX8_cancel_22 : decode cX8_cancel 22 = .ok (.aload_n 0, 1) := by decide +kernel
theorem dX8_cancel_23 : decode cX8_cancel 23 = .ok (.aload_n 2, 1) := by decide +kernel
theorem dX8_cancel_24 : decode cX8_cancel 24 = .ok (.iconst 4, 1) := by decide +kernel
theorem dX8_cancel_25 : decode cX8_cancel 25 = .ok (.invokevirtual 147, 3) := by decide +kernel
theorem dX8_cancel_28 : decode cX8_cancel 28 = .ok (.iconst 1, 1) := by decide +kernel
theorem dX8_cancel_29 : decode cX8_cancel 29 = .ok (.ireturn, 1) := by decide +kernel
theorem dX8_change_0 : decode cX8_change 0 = .ok (.aload_n 0, 1) := by decide +kernel
theorem dX8_change_1 : decode cX8_change 1 = .ok (.getfield 19, 3) := by decide +kernel
theorem dX8_change_4 : decode cX8_change 4 = .ok (.iload_n 1, 1) := by decide +kernel
theorem dX8_change_5 : decode cX8_change 5 = .ok (.invokevirtual 140, 3) := by decide +kernel
theorem dX8_change_8 : decode cX8_change 8 = .ok (.astore 4, 2) := by decide +kernel
theorem dX8_change_10 : decode cX8_change 10 = .ok (.aload 4, 2) := by decide +kernel
theorem dX8_change_12 : decode cX8_change 12 = .ok (.ifnull 11, 3) := by decide +kernel
theorem dX8_change_15 : decode cX8_change 15 = .ok (.aload 4, 2) := by decide +kernel
theorem dX8_change_17 : decode cX8_change 17 = .ok (.invokevirtual 151, 3) := by decide +kernel
theorem dX8_change_20 : decode cX8_change 20 = .ok (.ifCond .ne 6, 3) := by decide +kernel
theorem dX8_change_23 : decode cX8_change 23 = .ok (.bipush 6, 2) := by decide +kernel
theorem dX8_change_25 : decode cX8_change 25 = .ok (.ireturn, 1) := by decide +kernel
theorem dX8_change_26 : decode cX8_change 26 = .ok (.aload_n 0, 1) := by decide +kernel
theorem dX8_change_27 : decode cX8_change 27 = .ok (.aload 4, 2) := by decide +kernel
theorem dX8_change_29 : decode cX8_change 29 = .ok (.getfield 155, 3) := by decide +kernel
theorem dX8_change_32 : decode cX8_change 32 = .ok (.aload 4, 2) := by decide +kernel
theorem dX8_change_34 : decode cX8_change 34 = .ok (.getfield 158, 3) := by decide +kernel
theorem dX8_change_37 : decode cX8_change 37 = .ok (.iload_n 2, 1) := by decide +kernel
theorem dX8_change_38 : decode cX8_change 38 = .ok (.iload_n 3, 1) := by decide +kernel
theorem dX8_change_39 : decode cX8_change 39 = .ok (.iload_n 1, 1) := by decide +kernel
theorem dX8_change_40 : decode cX8_change 40 = .ok (.invokevirtual 116, 3) := by decide +kernel
theorem dX8_change_43 : decode cX8_change 43 = .ok (.istore 5, 2) := by decide +kernel
theorem dX8_change_45 : decode cX8_change 45 = .ok (.iload 5, 2) := by decide +kernel
theorem dX8_change_47 : decode cX8_change 47 = .ok (.ifCond .eq 6, 3) := by decide +kernel
theorem dX8_change_50 : decode cX8_change 50 = .ok (.iload 5, 2) := by decide +kernel
theorem dX8_change_52 : decode cX8_change 52 = .ok (.ireturn, 1) := by decide +kernel
theorem dX8_change_53 : decode cX8_change 53 = .ok (.aload_n 0, 1) := by decide +kernel
theorem dX8_change_54 : decode cX8_change 54 = .ok (.aload 4, 2) := by decide +kernel
theorem dX8_change_56 : decode cX8_change 56 = .ok (.getfield 161, 3) := by decide +kernel
theorem dX8_change_59 : decode cX8_change 59 = .ok (.invokevirtual 61, 3) := by decide +kernel
theorem dX8_change_62 : decode cX8_change 62 = .ok (.aload_n 0, 1) := by decide +kernel
theorem dX8_change_63 : decode cX8_change 63 = .ok (.iload_n 2, 1) := by decide +kernel
theorem dX8_change_64 : decode cX8_change 64 = .ok (.invokevirtual 61, 3) := by decide +kernel
theorem dX8_change_67 : decode cX8_change 67 = .ok (.aload 4, 2) := by decide +kernel
theorem dX8_change_69 : decode cX8_change 69 = .ok (.iload_n 2, 1) := by decide +kernel
theorem dX8_change_70 : decode cX8_change 70 = .ok (.iload_n 3, 1) := by decide +kernel
theorem dX8_change_71 : decode cX8_change 71 = .ok (.aload_n 0, 1) := by decide +kernel
theorem dX8_change_72 : decode cX8_change 72 = .ok (.getfield 44, 3) := by decide +kernel
theorem dX8_change_75 : decode cX8_change 75 = .ok (.aload 4, 2) := by decide +kernel
theorem dX8_change_77 : decode cX8_change 77 = .ok (.getfield 155, 3) := by decide +kernel
theorem dX8_change_80 : decode cX8_change 80 = .ok (.iload_n 2, 1) := by decide +kernel
theorem dX8_change_81 : decode cX8_change 81 = .ok (.iload_n 3, 1) := by decide +kernel
theorem dX8_change_82 : decode cX8_change 82 = .ok (.aload_n 0, 1) := by decide +kernel
theorem dX8_change_83 : decode cX8_change 83 = .ok (.getfield 120, 3) := by decide +kernel
theorem dX8_change_86 : decode cX8_change 86 = .ok (.invokevirtual 128, 3) := by decide +kernel
theorem dX8_change_89 : decode cX8_change 89 = .ok (.invokevirtual 132, 3) := by decide +kernel
theorem dX8_change_92 : decode cX8_change 92 = .ok (.iconst 0, 1) := by decide +kernel
theorem dX8_change_93 : decode cX8_change 93 = .ok (.ireturn, 1) := by decide +kernel
theorem dX8_come_0 : decode cX8_come 0 = .ok (.aload_n 0, 1) := by decide +kernel
theorem dX8_come_1 : decode cX8_come 1 = .ok (.getfield 19, 3) := by decide +kernel
theorem dX8_come_4 : decode cX8_come 4 = .ok (.iload_n 1, 1) := by decide +kernel
theorem dX8_come_5 : decode cX8_come 5 = .ok (.invokevirtual 140, 3) := by decide +kernel
theorem dX8_come_8 : decode cX8_come 8 = .ok (.astore_n 2, 1) := by decide +kernel
theorem dX8_come_9 : decode cX8_come 9 = .ok (.aload_n 2, 1) := by decide +kernel
theorem dX8_come_10 : decode cX8_come 10 = .ok (.ifnull 21, 3) := by decide +kernel
theorem dX8_come_13 : decode cX8_come 13 = .ok (.aload_n 2, 1) := by decide +kernel
theorem dX8_come_14 : decode cX8_come 14 = .ok (.invokevirtual 151, 3) := by decide +kernel
theorem dX8_come_17 : decode cX8_come 17 = .ok (.ifCond .eq 14, 3) := by decide +kernel
theorem dX8_come_20 : decode cX8_come 20 = .ok (.aload_n 2, 1) := by decide +kernel
theorem dX8_come_21 : decode cX8_come 21 = .ok (.getfield 161, 3) := by decide +kernel
theorem dX8_come_24 : decode cX8_come 24 = .ok (.aload_n 0, 1) := by decide +kernel
theorem dX8_come_25 : decode cX8_come 25 = .ok (.getfield 120, 3) := by decide +kernel
theorem dX8_come_28 : decode cX8_come 28 = .ok (.if_icmp .eq 5, 3) := by decide +kernel
theorem dX8_come_31 : decode cX8_come 31 = .ok (.iconst 0, 1) := by decide +kernel
theorem dX8_come_32 : decode cX8_come 32 = .ok (.ireturn, 1) := by decide +kernel
theorem dX8_come_33 : decode cX8_come 33 = .ok (.aload_n 0, 1) := by decide +kernel
theorem dX8_come_34 : decode cX8_come 34 = .ok (.aload_n 2, 1) := by decide +kernel
theorem dX8_come_35 : decode cX8_come 35 = .ok (.iconst 2, 1) := by decide +kernel
theorem dX8_come_36 : decode cX8_come 36 = .ok (.invokevirtual 147, 3) := by decide +kernel
theorem dX8_come_39 : decode cX8_come 39 = .ok (.iconst 1, 1) := by decide +kernel
theorem dX8_come_40 : decode cX8_come 40 = .ok (.ireturn, 1) := by decide +kernel
theorem dX8_next_0 : decode cX8_next 0 = .ok (.aload_n 0, 1) := by decide +kernel
theorem dX8_next_1 : decode cX8_next 1 = .ok (.getfield 120, 3) := by decide +kernel
theorem dX8_next_4 : decode cX8_next 4 = .ok (.bipush 59, 2) := by decide +kernel
theorem dX8_next_6 : decode cX8_next 6 = .ok (.if_icmp .lt 5, 3) := by decide +kernel
theorem dX8_next_9 : decode cX8_next 9 = .ok (.iconst (-1), 1) := by decide +kernel
theorem dX8_next_10 : decode cX8_next 10 = .ok (.ireturn, 1) := by decide +kernel
theorem dX8_next_11 : decode cX8_next 11 = .ok (.aload_n 0, 1) := by decide +kernel
theorem dX8_next_12 : decode cX8_next 12 = .ok (.getfield 19, 3) := by decide +kernel
theorem dX8_next_15 : decode cX8_next 15 = .ok (.aload_n 0, 1) := by decide +kernel
theorem dX8_next_16 : decode cX8_next 16 = .ok (.getfield 120, 3) := by decide +kernel
theorem dX8_next_19 : decode cX8_next 19 = .ok (.invokevirtual 164, 3) := by decide +kernel
theorem dX8_next_22 : decode cX8_next 22 = .ok (.aload_n 0, 1) := by decide +kernel
theorem dX8_next_23 : decode cX8_next 23 = .ok (.aload_n 0, 1) := by decide +kernel
theorem dX8_next_24 : decode cX8_next 24 = .ok (.getfield 120, 3) := by decide +kernel
theorem dX8_next_27 : decode cX8_next 27 = .ok (.invokevirtual 61, 3) := by decide +kernel
theorem dX8_next_30 : decode cX8_next 30 = .ok (.aload_n 0, 1) := by decide +kernel
theorem dX8_next_31 : decode cX8_next 31 = .ok (.aload_n 0, 1) := by decide +kernel
theorem dX8_next_32 : decode cX8_next 32 = .ok (.getfield 120, 3) := by decide +kernel
theorem dX8_next_35 : decode cX8_next 35 = .ok (.invokevirtual 167, 3) := by decide +kernel
theorem dX8_next_38 : decode cX8_next 38 = .ok (.aload_n 0, 1) := by decide +kernel
theorem dX8_next_39 : decode cX8_next 39 = .ok (.getfield 19, 3) := by decide +kernel
theorem dX8_next_42 : decode cX8_next 42 = .ok (.aload_n 0, 1) := by decide +kernel
theorem dX8_next_43 : decode cX8_next 43 = .ok (.getfield 120, 3) := by decide +kernel
theorem dX8_next_46 : decode cX8_next 46 = .ok (.invokevirtual 170, 3) := by decide +kernel
theorem dX8_next_49 : decode cX8_next 49 = .ok (.istore_n 1, 1) := by decide +kernel
theorem dX8_next_50 : decode cX8_next 50 = .ok (.aload_n 0, 1) := by decide +kernel
theorem dX8_next_51 : decode cX8_next 51 = .ok (.dup, 1) := by decide +kernel
theorem dX8_next_52 : decode cX8_next 52 = .ok (.getfield 120, 3) := by decide +kernel
theorem dX8_next_55 : decode cX8_next 55 = .ok (.iconst 1, 1) := by decide +kernel
theorem dX8_next_56 : decode cX8_next 56 = .ok (.iadd, 1) := by decide +kernel
theorem dX8_next_57 : decode cX8_next 57 = .ok (.putfield 120, 3) := by decide +kernel
theorem dX8_next_60 : decode cX8_next 60 = .ok (.aload_n 0, 1) := by decide +kernel
theorem dX8_next_61 : decode cX8_next 61 = .ok (.getfield 19, 3) := by decide +kernel
theorem dX8_next_64 : decode cX8_next 64 = .ok (.aload_n 0, 1) := by decide +kernel
theorem dX8_next_65 : decode cX8_next 65 = .ok (.getfield 120, 3) := by decide +kernel
theorem dX8_next_68 : decode cX8_next 68 = .ok (.invokevirtual 173, 3) := by decide +kernel
theorem dX8_next_71 : decode cX8_next 71 = .ok (.aload_n 0, 1) := by decide +kernel
theorem dX8_next_72 : decode cX8_next 72 = .ok (.aload_n 0, 1) := by decide +kernel
theorem dX8_next_73 : decode cX8_next 73 = .ok (.getfield 120, 3) := by decide +kernel
theorem dX8_next_76 : decode cX8_next 76 = .ok (.putfield 176, 3) := by decide +kernel
theorem dX8_next_79 : decode cX8_next 79 = .ok (.iload_n 1, 1) := by decide +kernel
theorem dX8_next_80 : decode cX8_next 80 = .ok (.ireturn, 1) := by decide +kernel
theorem dX8_promised_0 : decode cX8_promised 0 = .ok (.aload_n 0, 1) := by decide +kernel
theorem dX8_promised_1 : decode cX8_promised 1 = .ok (.getfield 19, 3) := by decide +kernel
theorem dX8_promised_4 : decode cX8_promised 4 = .ok (.iload_n 1, 1) := by decide +kernel
theorem dX8_promised_5 : decode cX8_promised 5 = .ok (.invokevirtual 140, 3) := by decide +kernel
theorem dX8_promised_8 : decode cX8_promised 8 = .ok (.astore_n 3, 1) := by decide +kernel
theorem dX8_promised_9 : decode cX8_promised 9 = .ok (.aload_n 3, 1) := by decide +kernel
theorem dX8_promised_10 : decode cX8_promised 10 = .ok (.ifnonnull 13, 3) := by decide +kernel
theorem dX8_promised_13 : decode cX8_promised 13 = .ok (.new 179, 3) := by decide +kernel
theorem dX8_promised_16 : decode cX8_promised 16 = .ok (.dup, 1) := by decide +kernel
theorem dX8_promised_17 : decode cX8_promised 17 = .ok (.ldc 181, 2) := by decide +kernel
theorem dX8_promised_19 : decode cX8_promised 19 = .ok (.invokespecial 183, 3) := by decide +kernel
theorem dX8_promised_22 : decode cX8_promised 22 = .ok (.athrow, 1) := by decide +kernel
theorem dX8_promised_23 : decode cX8_promised 23 = .ok (.iload_n 2, 1) := by decide +kernel
theorem dX8_promised_24 : decode cX8_promised 24 = .ok (.tableswitch 114 0 8 #[52, 58, 64, 70, 76, 82, 88, 93, 103], 52) := by decide +kernel
theorem dX8_promised_76 : decode cX8_promised 76 = .ok (.aload_n 3, 1) := by decide +kernel
theorem dX8_promised_77 : decode cX8_promised 77 = .ok (.getfield 144, 3) := by decide +kernel
theorem dX8_promised_80 : decode cX8_promised 80 = .ok (.i2l, 1) := by decide +kernel
theorem dX8_promised_81 : decode cX8_promised 81 = .ok (.lreturn, 1) := by decide +kernel
theorem dX8_promised_82 : decode cX8_promised 82 = .ok (.aload_n 3, 1) := by decide +kernel
theorem dX8_promised_83 : decode cX8_promised 83 = .ok (.getfield 155, 3) := by decide +kernel
theorem dX8_promised_86 : decode cX8_promised 86 = .ok (.i2l, 1) := by decide +kernel
theorem dX8_promised_87 : decode cX8_promised 87 = .ok (.lreturn, 1) := by decide +kernel
theorem dX8_promised_88 : decode cX8_promised 88 = .ok (.aload_n 3, 1) := by decide +kernel
theorem dX8_promised_89 : decode cX8_promised 89 = .ok (.getfield 158, 3) := by decide +kernel
theorem dX8_promised_92 : decode cX8_promised 92 = .ok (.i2l, 1) := by decide +kernel
theorem dX8_promised_93 : decode cX8_promised 93 = .ok (.lreturn, 1) := by decide +kernel
theorem dX8_promised_94 : decode cX8_promised 94 = .ok (.aload_n 3, 1) := by decide +kernel
theorem dX8_promised_95 : decode cX8_promised 95 = .ok (.getfield 161, 3) := by decide +kernel
theorem dX8_promised_98 : decode cX8_promised 98 = .ok (.i2l, 1) := by decide +kernel
theorem dX8_promised_99 : decode cX8_promised 99 = .ok (.lreturn, 1) := by decide +kernel
theorem dX8_promised_100 : decode cX8_promised 100 = .ok (.aload_n 3, 1) := by decide +kernel
theorem dX8_promised_101 : decode cX8_promised 101 = .ok (.getfield 186, 3) := by decide +kernel
theorem dX8_promised_104 : decode cX8_promised 104 = .ok (.i2l, 1) := by decide +kernel
theorem dX8_promised_105 : decode cX8_promised 105 = .ok (.lreturn, 1) := by decide +kernel
theorem dX8_promised_106 : decode cX8_promised 106 = .ok (.aload_n 3, 1) := by decide +kernel
theorem dX8_promised_107 : decode cX8_promised 107 = .ok (.getfield 189, 3) := by decide +kernel
theorem dX8_promised_110 : decode cX8_promised 110 = .ok (.i2l, 1) := by decide +kernel
theorem dX8_promised_111 : decode cX8_promised 111 = .ok (.lreturn, 1) := by decide +kernel
theorem dX8_promised_112 : decode cX8_promised 112 = .ok (.aload_n 3, 1) := by decide +kernel
theorem dX8_promised_113 : decode cX8_promised 113 = .ok (.getfield 192, 3) := by decide +kernel
theorem dX8_promised_116 : decode cX8_promised 116 = .ok (.lreturn, 1) := by decide +kernel
theorem dX8_promised_117 : decode cX8_promised 117 = .ok (.aload_n 3, 1) := by decide +kernel
theorem dX8_promised_118 : decode cX8_promised 118 = .ok (.aload_n 0, 1) := by decide +kernel
theorem dX8_promised_119 : decode cX8_promised 119 = .ok (.getfield 120, 3) := by decide +kernel
theorem dX8_promised_122 : decode cX8_promised 122 = .ok (.invokevirtual 196, 3) := by decide +kernel
theorem dX8_promised_125 : decode cX8_promised 125 = .ok (.i2l, 1) := by decide +kernel
theorem dX8_promised_126 : decode cX8_promised 126 = .ok (.lreturn, 1) := by decide +kernel
theorem dX8_promised_127 : decode cX8_promised 127 = .ok (.aload_n 3, 1) := by decide +kernel
theorem dX8_promised_128 : decode cX8_promised 128 = .ok (.iconst 0, 1) := by decide +kernel
theorem dX8_promised_129 : decode cX8_promised 129 = .ok (.aload_n 0, 1) := by decide +kernel
theorem dX8_promised_130 : decode cX8_promised 130 = .ok (.getfield 120, 3) := by decide +kernel
theorem dX8_promised_133 : decode cX8_promised 133 = .ok (.invokevirtual 199, 3) := by decide +kernel
theorem dX8_promised_136 : decode cX8_promised 136 = .ok (.i2l, 1) := by decide +kernel
theorem dX8_promised_137 : decode cX8_promised 137 = .ok (.lreturn, 1) := by decide +kernel
theorem dX8_promised_138 : decode cX8_promised 138 = .ok (.new 179, 3) := by decide +kernel
theorem dX8_promised_141 : decode cX8_promised 141 = .ok (.dup, 1) := by decide +kernel
theorem dX8_promised_142 : decode cX8_promised 142 = .ok (.ldc 203, 2) := by decide +kernel
theorem dX8_promised_144 : decode cX8_promised 144 = .ok (.invokespecial 183, 3) := by decide +kernel
theorem dX8_promised_147 : decode cX8_promised 147 = .ok (.athrow, 1) := by decide +kernel
theorem dX8_spot_0 : decode cX8_spot 0 = .ok (.aload_n 0, 1) := by decide +kernel
theorem dX8_spot_1 : decode cX8_spot 1 = .ok (.getfield 19, 3) := by decide +kernel
theorem dX8_spot_4 : decode cX8_spot 4 = .ok (.iload_n 1, 1) := by decide +kernel
theorem dX8_spot_5 : decode cX8_spot 5 = .ok (.invokevirtual 140, 3) := by decide +kernel
theorem dX8_spot_8 : decode cX8_spot 8 = .ok (.astore_n 3, 1) := by decide +kernel
theorem dX8_spot_9 : decode cX8_spot 9 = .ok (.aload_n 3, 1) := by decide +kernel
theorem dX8_spot_10 : decode cX8_spot 10 = .ok (.ifnull 10, 3) := by decide +kernel
theorem dX8_spot_13 : decode cX8_spot 13 = .ok (.iload_n 2, 1) := by decide +kernel
theorem dX8_spot_14 : decode cX8_spot 14 = .ok (.invokestatic 110, 3) := by decide +kernel
theorem dX8_spot_17 : decode cX8_spot 17 = .ok (.ifCond .ne 5, 3) := by decide +kernel
theorem dX8_spot_20 : decode cX8_spot 20 = .ok (.iconst (-1), 1) := by decide +kernel
theorem dX8_spot_21 : decode cX8_spot 21 = .ok (.ireturn, 1) := by decide +kernel
theorem dX8_spot_22 : decode cX8_spot 22 = .ok (.aload_n 0, 1) := by decide +kernel
theorem dX8_spot_23 : decode cX8_spot 23 = .ok (.iload_n 2, 1) := by decide +kernel
theorem dX8_spot_24 : decode cX8_spot 24 = .ok (.invokevirtual 167, 3) := by decide +kernel
theorem dX8_spot_27 : decode cX8_spot 27 = .ok (.aload_n 3, 1) := by decide +kernel
theorem dX8_spot_28 : decode cX8_spot 28 = .ok (.iload_n 2, 1) := by decide +kernel
theorem dX8_spot_29 : decode cX8_spot 29 = .ok (.invokevirtual 205, 3) := by decide +kernel
theorem dX8_spot_32 : decode cX8_spot 32 = .ok (.ireturn, 1) := by decide +kernel
theorem dX8_moves_0 : decode cX8_moves 0 = .ok (.aload_n 0, 1) := by decide +kernel
theorem dX8_moves_1 : decode cX8_moves 1 = .ok (.bipush 59, 2) := by decide +kernel
theorem dX8_moves_3 : decode cX8_moves 3 = .ok (.invokevirtual 167, 3) := by decide +kernel
theorem dX8_moves_6 : decode cX8_moves 6 = .ok (.iconst 0, 1) := by decide +kernel
theorem dX8_moves_7 : decode cX8_moves 7 = .ok (.istore_n 1, 1) := by decide +kernel
theorem dX8_moves_8 : decode cX8_moves 8 = .ok (.iconst 0, 1) := by decide +kernel
theorem dX8_moves_9 : decode cX8_moves 9 = .ok (.istore_n 2, 1) := by decide +kernel
theorem dX8_moves_10 : decode cX8_moves 10 = .ok (.iload_n 2, 1) := by decide +kernel
theorem dX8_moves_11 : decode cX8_moves 11 = .ok (.aload_n 0, 1) := by decide +kernel
theorem dX8_moves_12 : decode cX8_moves 12 = .ok (.getfield 19, 3) := by decide +kernel
theorem dX8_moves_15 : decode cX8_moves 15 = .ok (.getfield 208, 3) := by decide +kernel
theorem dX8_moves_18 : decode cX8_moves 18 = .ok (.if_icmp .ge 35, 3) := by decide +kernel
theorem dX8_moves_21 : decode cX8_moves 21 = .ok (.aload_n 0, 1) := by decide +kernel
theorem dX8_moves_22 : decode cX8_moves 22 = .ok (.getfield 19, 3) := by decide +kernel
theorem dX8_moves_25 : decode cX8_moves 25 = .ok (.iload_n 2, 1) := by decide +kernel
theorem dX8_moves_26 : decode cX8_moves 26 = .ok (.invokevirtual 140, 3) := by decide +kernel
theorem dX8_moves_29 : decode cX8_moves 29 = .ok (.astore_n 3, 1) := by decide +kernel
theorem dX8_moves_30 : decode cX8_moves 30 = .ok (.aload_n 3, 1) := by decide +kernel
theorem dX8_moves_31 : decode cX8_moves 31 = .ok (.ifnull 16, 3) := by decide +kernel
theorem dX8_moves_34 : decode cX8_moves 34 = .ok (.iload_n 1, 1) := by decide +kernel
theorem dX8_moves_35 : decode cX8_moves 35 = .ok (.aload_n 3, 1) := by decide +kernel
theorem dX8_moves_36 : decode cX8_moves 36 = .ok (.aload_n 0, 1) := by decide +kernel
theorem dX8_moves_37 : decode cX8_moves 37 = .ok (.getfield 120, 3) := by decide +kernel
theorem dX8_moves_40 : decode cX8_moves 40 = .ok (.bipush 60, 2) := by decide +kernel
theorem dX8_moves_42 : decode cX8_moves 42 = .ok (.invokevirtual 199, 3) := by decide +kernel
theorem dX8_moves_45 : decode cX8_moves 45 = .ok (.iadd, 1) := by decide +kernel
theorem dX8_moves_46 : decode cX8_moves 46 = .ok (.istore_n 1, 1) := by decide +kernel
theorem dX8_moves_47 : decode cX8_moves 47 = .ok (.iinc 2 1, 3) := by decide +kernel
theorem dX8_moves_50 : decode cX8_moves 50 = .ok (.goto (-40), 3) := by decide +kernel
theorem dX8_moves_53 : decode cX8_moves 53 = .ok (.iload_n 1, 1) := by decide +kernel
theorem dX8_moves_54 : decode cX8_moves 54 = .ok (.ireturn, 1) := by decide +kernel
theorem dX8_floors_0 : decode cX8_floors 0 = .ok (.aload_n 0, 1) := by decide +kernel
theorem dX8_floors_1 : decode cX8_floors 1 = .ok (.iload_n 3, 1) := by decide +kernel
theorem dX8_floors_2 : decode cX8_floors 2 = .ok (.invokevirtual 167, 3) := by decide +kernel
theorem dX8_floors_5 : decode cX8_floors 5 = .ok (.iconst 0, 1) := by decide +kernel
theorem dX8_floors_6 : decode cX8_floors 6 = .ok (.istore 4, 2) := by decide +kernel
theorem dX8_floors_8 : decode cX8_floors 8 = .ok (.iload_n 1, 1) := by decide +kernel
theorem dX8_floors_9 : decode cX8_floors 9 = .ok (.iconst 0, 1) := by decide +kernel
theorem dX8_floors_10 : decode cX8_floors 10 = .ok (.invokestatic 211, 3) := by decide +kernel
theorem dX8_floors_13 : decode cX8_floors 13 = .ok (.istore 5, 2) := by decide +kernel
theorem dX8_floors_15 : decode cX8_floors 15 = .ok (.iload 5, 2) := by decide +kernel
theorem dX8_floors_17 : decode cX8_floors 17 = .ok (.iload_n 2, 1) := by decide +kernel
theorem dX8_floors_18 : decode cX8_floors 18 = .ok (.if_icmp .gt 76, 3) := by decide +kernel
theorem dX8_floors_21 : decode cX8_floors 21 = .ok (.iload 5, 2) := by decide +kernel
theorem dX8_floors_23 : decode cX8_floors 23 = .ok (.aload_n 0, 1) := by decide +kernel
theorem dX8_floors_24 : decode cX8_floors 24 = .ok (.getfield 19, 3) := by decide +kernel
theorem dX8_floors_27 : decode cX8_floors 27 = .ok (.getfield 208, 3) := by decide +kernel
theorem dX8_floors_30 : decode cX8_floors 30 = .ok (.if_icmp .ge 64, 3) := by decide +kernel
theorem dX8_floors_33 : decode cX8_floors 33 = .ok (.aload_n 0, 1) := by decide +kernel
theorem dX8_floors_34 : decode cX8_floors 34 = .ok (.getfield 19, 3) := by decide +kernel
theorem dX8_floors_37 : decode cX8_floors 37 = .ok (.iload 5, 2) := by decide +kernel
theorem dX8_floors_39 : decode cX8_floors 39 = .ok (.invokevirtual 140, 3) := by decide +kernel
theorem dX8_floors_42 : decode cX8_floors 42 = .ok (.astore 6, 2) := by decide +kernel
theorem dX8_floors_44 : decode cX8_floors 44 = .ok (.aload 6, 2) := by decide +kernel
theorem dX8_floors_46 : decode cX8_floors 46 = .ok (.ifnonnull 7, 3) := by decide +kernel
theorem dX8_floors_49 : decode cX8_floors 49 = .ok (.aconst_null, 1) := by decide +kernel
theorem dX8_floors_50 : decode cX8_floors 50 = .ok (.goto 19, 3) := by decide +kernel
theorem dX8_floors_53 : decode cX8_floors 53 = .ok (.aload_n 0, 1) := by decide +kernel
theorem dX8_floors_54 : decode cX8_floors 54 = .ok (.getfield 10, 3) := by decide +kernel
theorem dX8_floors_57 : decode cX8_floors 57 = .ok (.aload 6, 2) := by decide +kernel
theorem dX8_floors_59 : decode cX8_floors 59 = .ok (.iload_n 3, 1) := by decide +kernel
theorem dX8_floors_60 : decode cX8_floors 60 = .ok (.invokevirtual 205, 3) := by decide +kernel
theorem dX8_floors_63 : decode cX8_floors 63 = .ok (.invokestatic 216, 3) := by decide +kernel
theorem dX8_floors_66 : decode cX8_floors 66 = .ok (.invokevirtual 71, 3) := by decide +kernel
theorem dX8_floors_69 : decode cX8_floors 69 = .ok (.astore 7, 2) := by decide +kernel
theorem dX8_floors_71 : decode cX8_floors 71 = .ok (.aload 7, 2) := by decide +kernel
theorem dX8_floors_73 : decode cX8_floors 73 = .ok (.ifnull 15, 3) := by decide +kernel
theorem dX8_floors_76 : decode cX8_floors 76 = .ok (.iload 4, 2) := by decide +kernel
theorem dX8_floors_78 : decode cX8_floors 78 = .ok (.iconst 1, 1) := by decide +kernel
theorem dX8_floors_79 : decode cX8_floors 79 = .ok (.aload 7, 2) := by decide +kernel
theorem dX8_floors_81 : decode cX8_floors 81 = .ok (.getfield 100, 3) := by decide +kernel
theorem dX8_floors_84 : decode cX8_floors 84 = .ok (.ishl, 1) := by decide +kernel
theorem dX8_floors_85 : decode cX8_floors 85 = .ok (.ior, 1) := by decide +kernel
theorem dX8_floors_86 : decode cX8_floors 86 = .ok (.istore 4, 2) := by decide +kernel
theorem dX8_floors_88 : decode cX8_floors 88 = .ok (.iinc 5 1, 3) := by decide +kernel
theorem dX8_floors_91 : decode cX8_floors 91 = .ok (.goto (-76), 3) := by decide +kernel
theorem dX8_floors_94 : decode cX8_floors 94 = .ok (.iload 4, 2) := by decide +kernel
theorem dX8_floors_96 : decode cX8_floors 96 = .ok (.invokestatic 219, 3) := by decide +kernel
theorem dX8_floors_99 : decode cX8_floors 99 = .ok (.ireturn, 1) := by decide +kernel
theorem dX8_lacks_0 : decode cX8_lacks 0 = .ok (.iload_n 1, 1) := by decide +kernel
theorem dX8_lacks_1 : decode cX8_lacks 1 = .ok (.invokestatic 110, 3) := by decide +kernel
theorem dX8_lacks_4 : decode cX8_lacks 4 = .ok (.ifCond .eq 11, 3) := by decide +kernel
theorem dX8_lacks_7 : decode cX8_lacks 7 = .ok (.iload_n 1, 1) := by decide +kernel
theorem dX8_lacks_8 : decode cX8_lacks 8 = .ok (.aload_n 0, 1) := by decide +kernel
theorem dX8_lacks_9 : decode cX8_lacks 9 = .ok (.getfield 120, 3) := by decide +kernel
theorem dX8_lacks_12 : decode cX8_lacks 12 = .ok (.if_icmp .ge 5, 3) := by decide +kernel
theorem dX8_lacks_15 : decode cX8_lacks 15 = .ok (.iconst (-1), 1) := by decide +kernel
theorem dX8_lacks_16 : decode cX8_lacks 16 = .ok (.ireturn, 1) := by decide +kernel
theorem dX8_lacks_17 : decode cX8_lacks 17 = .ok (.aload_n 0, 1) := by decide +kernel
theorem dX8_lacks_18 : decode cX8_lacks 18 = .ok (.iload_n 1, 1) := by decide +kernel
theorem dX8_lacks_19 : decode cX8_lacks 19 = .ok (.iconst (-1), 1) := by decide +kernel
theorem dX8_lacks_20 : decode cX8_lacks 20 = .ok (.iconst (-1), 1) := by decide +kernel
theorem dX8_lacks_21 : decode cX8_lacks 21 = .ok (.invokevirtual 224, 3) := by decide +kernel
theorem dX8_lacks_24 : decode cX8_lacks 24 = .ok (.ireturn, 1) := by decide +kernel
theorem dX8_rooms_0 : decode cX8_rooms 0 = .ok (.iload_n 1, 1) := by decide +kernel
theorem dX8_rooms_1 : decode cX8_rooms 1 = .ok (.ifCond .lt 15, 3) := by decide +kernel
theorem dX8_rooms_4 : decode cX8_rooms 4 = .ok (.iload_n 1, 1) := by decide +kernel
theorem dX8_rooms_5 : decode cX8_rooms 5 = .ok (.iconst 4, 1) := by decide +kernel
theorem dX8_rooms_6 : decode cX8_rooms 6 = .ok (.if_icmp .ge 10, 3) := by decide +kernel
theorem dX8_rooms_9 : decode cX8_rooms 9 = .ok (.iload_n 2, 1) := by decide +kernel
theorem dX8_rooms_10 : decode cX8_rooms 10 = .ok (.invokestatic 110, 3) := by decide +kernel
theorem dX8_rooms_13 : decode cX8_rooms 13 = .ok (.ifCond .ne 5, 3) := by decide +kernel
theorem dX8_rooms_16 : decode cX8_rooms 16 = .ok (.iconst (-1), 1) := by decide +kernel
theorem dX8_rooms_17 : decode cX8_rooms 17 = .ok (.ireturn, 1) := by decide +kernel
theorem dX8_rooms_18 : decode cX8_rooms 18 = .ok (.iload_n 3, 1) := by decide +kernel
theorem dX8_rooms_19 : decode cX8_rooms 19 = .ok (.lookupswitch 47 #[(0, 25), (1, 35)], 25) := by decide +kernel
theorem dX8_rooms_44 : decode cX8_rooms 44 = .ok (.aload_n 0, 1) := by decide +kernel
theorem dX8_rooms_45 : decode cX8_rooms 45 = .ok (.getfield 10, 3) := by decide +kernel
theorem dX8_rooms_48 : decode cX8_rooms 48 = .ok (.iload_n 1, 1) := by decide +kernel
theorem dX8_rooms_49 : decode cX8_rooms 49 = .ok (.iload_n 2, 1) := by decide +kernel
theorem dX8_rooms_50 : decode cX8_rooms 50 = .ok (.invokevirtual 228, 3) := by decide +kernel
theorem dX8_rooms_53 : decode cX8_rooms 53 = .ok (.ireturn, 1) := by decide +kernel
theorem dX8_rooms_54 : decode cX8_rooms 54 = .ok (.aload_n 0, 1) := by decide +kernel
theorem dX8_rooms_55 : decode cX8_rooms 55 = .ok (.iload_n 2, 1) := by decide +kernel
theorem dX8_rooms_56 : decode cX8_rooms 56 = .ok (.invokevirtual 167, 3) := by decide +kernel
theorem dX8_rooms_59 : decode cX8_rooms 59 = .ok (.aload_n 0, 1) := by decide +kernel
theorem dX8_rooms_60 : decode cX8_rooms 60 = .ok (.iload_n 1, 1) := by decide +kernel
theorem dX8_rooms_61 : decode cX8_rooms 61 = .ok (.iload_n 2, 1) := by decide +kernel
theorem dX8_rooms_62 : decode cX8_rooms 62 = .ok (.invokevirtual 231, 3) := by decide +kernel
theorem dX8_rooms_65 : decode cX8_rooms 65 = .ok (.ireturn, 1) := by decide +kernel
theorem dX8_rooms_66 : decode cX8_rooms 66 = .ok (.iconst (-1), 1) := by decide +kernel
theorem dX8_rooms_67 : decode cX8_rooms 67 = .ok (.ireturn, 1) := by decide +kernel
theorem dX8_over_0 : decode cX8_over 0 = .ok (.iload_n 1, 1) := by decide +kernel
theorem dX8_over_1 : decode cX8_over 1 = .ok (.ifCond .lt 9, 3) := by decide +kernel
theorem dX8_over_4 : decode cX8_over 4 = .ok (.iload_n 1, 1) := by decide +kernel
theorem dX8_over_5 : decode cX8_over 5 = .ok (.bipush 40, 2) := by decide +kernel
theorem dX8_over_7 : decode cX8_over 7 = .ok (.if_icmp .le 5, 3) := by decide +kernel
theorem dX8_over_10 : decode cX8_over 10 = .ok (.iconst 0, 1) := by decide +kernel
theorem dX8_over_11 : decode cX8_over 11 = .ok (.ireturn, 1) := by decide +kernel
theorem dX8_over_12 : decode cX8_over 12 = .ok (.aload_n 0, 1) := by decide +kernel
theorem dX8_over_13 : decode cX8_over 13 = .ok (.iload_n 1, 1) := by decide +kernel
theorem dX8_over_14 : decode cX8_over 14 = .ok (.putfield 234, 3) := by decide +kernel
theorem dX8_over_17 : decode cX8_over 17 = .ok (.iconst 1, 1) := by decide +kernel
theorem dX8_over_18 : decode cX8_over 18 = .ok (.ireturn, 1) := by decide +kernel
theorem dX8_price_0 : decode cX8_price 0 = .ok (.iload_n 1, 1) := by decide +kernel
theorem dX8_price_1 : decode cX8_price 1 = .ok (.invokestatic 237, 3) := by decide +kernel
theorem dX8_price_4 : decode cX8_price 4 = .ok (.ifCond .eq 23, 3) := by decide +kernel
theorem dX8_price_7 : decode cX8_price 7 = .ok (.iload_n 2, 1) := by decide +kernel
theorem dX8_price_8 : decode cX8_price 8 = .ok (.iload_n 3, 1) := by decide +kernel
theorem dX8_price_9 : decode cX8_price 9 = .ok (.invokestatic 79, 3) := by decide +kernel
theorem dX8_price_12 : decode cX8_price 12 = .ok (.ifCond .eq 15, 3) := by decide +kernel
theorem dX8_price_15 : decode cX8_price 15 = .ok (.iload 4, 2) := by decide +kernel
theorem dX8_price_17 : decode cX8_price 17 = .ok (.ifCond .lt 10, 3) := by decide +kernel
theorem dX8_price_20 : decode cX8_price 20 = .ok (.iload 4, 2) := by decide +kernel
theorem dX8_price_22 : decode cX8_price 22 = .ok (.ldc 240, 2) := by decide +kernel
theorem dX8_price_24 : decode cX8_price 24 = .ok (.if_icmp .le 5, 3) := by decide +kernel
theorem dX8_price_27 : decode cX8_price 27 = .ok (.iconst 0, 1) := by decide +kernel
theorem dX8_price_28 : decode cX8_price 28 = .ok (.ireturn, 1) := by decide +kernel
theorem dX8_price_29 : decode cX8_price 29 = .ok (.aload_n 0, 1) := by decide +kernel
theorem dX8_price_30 : decode cX8_price 30 = .ok (.getfield 44, 3) := by decide +kernel
theorem dX8_price_33 : decode cX8_price 33 = .ok (.iload_n 1, 1) := by decide +kernel
theorem dX8_price_34 : decode cX8_price 34 = .ok (.iload_n 2, 1) := by decide +kernel
theorem dX8_price_35 : decode cX8_price 35 = .ok (.iload_n 3, 1) := by decide +kernel
theorem dX8_price_36 : decode cX8_price 36 = .ok (.iload 4, 2) := by decide +kernel
theorem dX8_price_38 : decode cX8_price 38 = .ok (.invokevirtual 241, 3) := by decide +kernel
theorem dX8_price_41 : decode cX8_price 41 = .ok (.iconst 1, 1) := by decide +kernel
theorem dX8_price_42 : decode cX8_price 42 = .ok (.ireturn, 1) := by decide +kernel
theorem dX8_rule_0 : decode cX8_rule 0 = .ok (.aload_n 0, 1) := by decide +kernel
theorem dX8_rule_1 : decode cX8_rule 1 = .ok (.getfield 44, 3) := by decide +kernel
theorem dX8_rule_4 : decode cX8_rule 4 = .ok (.iload_n 1, 1) := by decide +kernel
theorem dX8_rule_5 : decode cX8_rule 5 = .ok (.iload_n 2, 1) := by decide +kernel
theorem dX8_rule_6 : decode cX8_rule 6 = .ok (.iload_n 3, 1) := by decide +kernel
theorem dX8_rule_7 : decode cX8_rule 7 = .ok (.invokevirtual 244, 3) := by decide +kernel
theorem dX8_rule_10 : decode cX8_rule 10 = .ok (.ireturn, 1) := by decide +kernel
theorem dX8_drop_0 : decode cX8_drop 0 = .ok (.aload_n 0, 1) := by decide +kernel
theorem dX8_drop_1 : decode cX8_drop 1 = .ok (.getfield 44, 3) := by decide +kernel
theorem dX8_drop_4 : decode cX8_drop 4 = .ok (.iload_n 1, 1) := by decide +kernel
theorem dX8_drop_5 : decode cX8_drop 5 = .ok (.invokevirtual 247, 3) := by decide +kernel
theorem dX8_drop_8 : decode cX8_drop 8 = .ok (.ireturn, 1) := by decide +kernel
theorem dX8_cost_0 : decode cX8_cost 0 = .ok (.aload_n 0, 1) := by decide +kernel
theorem dX8_cost_1 : decode cX8_cost 1 = .ok (.iload_n 1, 1) := by decide +kernel
theorem dX8_cost_2 : decode cX8_cost 2 = .ok (.iload_n 2, 1) := by decide +kernel
theorem dX8_cost_3 : decode cX8_cost 3 = .ok (.iload_n 3, 1) := by decide +kernel
theorem dX8_cost_4 : decode cX8_cost 4 = .ok (.invokevirtual 250, 3) := by decide +kernel
theorem dX8_cost_7 : decode cX8_cost 7 = .ok (.ifCond .eq 20, 3) := by decide +kernel
theorem dX8_cost_10 : decode cX8_cost 10 = .ok (.aload_n 0, 1) := by decide +kernel
theorem dX8_cost_11 : decode cX8_cost 11 = .ok (.getfield 44, 3) := by decide +kernel
theorem dX8_cost_14 : decode cX8_cost 14 = .ok (.iload_n 1, 1) := by decide +kernel
theorem dX8_cost_15 : decode cX8_cost 15 = .ok (.iload_n 2, 1) := by decide +kernel
theorem dX8_cost_16 : decode cX8_cost 16 = .ok (.iload_n 3, 1) := by decide +kernel
theorem dX8_cost_17 : decode cX8_cost 17 = .ok (.aload_n 0, 1) := by decide +kernel
theorem dX8_cost_18 : decode cX8_cost 18 = .ok (.getfield 120, 3) := by decide +kernel
theorem dX8_cost_21 : decode cX8_cost 21 = .ok (.invokevirtual 254, 3) := by decide +kernel
theorem dX8_cost_24 : decode cX8_cost 24 = .ok (.goto 6, 3) := by decide +kernel
theorem dX8_cost_27 : decode cX8_cost 27 = .ok (.ldc2_w 257, 3) := by decide +kernel
theorem dX8_cost_30 : decode cX8_cost 30 = .ok (.lreturn, 1) := by decide +kernel
theorem dX8_least_0 : decode cX8_least 0 = .ok (.aload_n 0, 1) := by decide +kernel
theorem dX8_least_1 : decode cX8_least 1 = .ok (.iload_n 1, 1) := by decide +kernel
theorem dX8_least_2 : decode cX8_least 2 = .ok (.iload_n 2, 1) := by decide +kernel
theorem dX8_least_3 : decode cX8_least 3 = .ok (.iload_n 3, 1) := by decide +kernel
theorem dX8_least_4 : decode cX8_least 4 = .ok (.invokevirtual 250, 3) := by decide +kernel
theorem dX8_least_7 : decode cX8_least 7 = .ok (.ifCond .ne 7, 3) := by decide +kernel
theorem dX8_least_10 : decode cX8_least 10 = .ok (.ldc2_w 257, 3) := by decide +kernel
theorem dX8_least_13 : decode cX8_least 13 = .ok (.lreturn, 1) := by decide +kernel
theorem dX8_least_14 : decode cX8_least 14 = .ok (.iload 4, 2) := by decide +kernel
theorem dX8_least_16 : decode cX8_least 16 = .ok (.lookupswitch 59 #[(0, 28), (1, 43)], 28) := by decide +kernel
theorem dX8_least_44 : decode cX8_least 44 = .ok (.aload_n 0, 1) := by decide +kernel
theorem dX8_least_45 : decode cX8_least 45 = .ok (.getfield 44, 3) := by decide +kernel
theorem dX8_least_48 : decode cX8_least 48 = .ok (.iload_n 1, 1) := by decide +kernel
theorem dX8_least_49 : decode cX8_least 49 = .ok (.iload_n 2, 1) := by decide +kernel
theorem dX8_least_50 : decode cX8_least 50 = .ok (.iload_n 3, 1) := by decide +kernel
theorem dX8_least_51 : decode cX8_least 51 = .ok (.aload_n 0, 1) := by decide +kernel
theorem dX8_least_52 : decode cX8_least 52 = .ok (.getfield 120, 3) := by decide +kernel
theorem dX8_least_55 : decode cX8_least 55 = .ok (.invokevirtual 128, 3) := by decide +kernel
theorem dX8_least_58 : decode cX8_least 58 = .ok (.lreturn, 1) := by decide +kernel
theorem dX8_least_59 : decode cX8_least 59 = .ok (.aload_n 0, 1) := by decide +kernel
theorem dX8_least_60 : decode cX8_least 60 = .ok (.getfield 44, 3) := by decide +kernel
theorem dX8_least_63 : decode cX8_least 63 = .ok (.iload_n 1, 1) := by decide +kernel
theorem dX8_least_64 : decode cX8_least 64 = .ok (.iload_n 2, 1) := by decide +kernel
theorem dX8_least_65 : decode cX8_least 65 = .ok (.iload_n 3, 1) := by decide +kernel
theorem dX8_least_66 : decode cX8_least 66 = .ok (.aload_n 0, 1) := by decide +kernel
theorem dX8_least_67 : decode cX8_least 67 = .ok (.getfield 120, 3) := by decide +kernel
theorem dX8_least_70 : decode cX8_least 70 = .ok (.invokevirtual 259, 3) := by decide +kernel
theorem dX8_least_73 : decode cX8_least 73 = .ok (.i2l, 1) := by decide +kernel
theorem dX8_least_74 : decode cX8_least 74 = .ok (.lreturn, 1) := by decide +kernel
theorem dX8_least_75 : decode cX8_least 75 = .ok (.ldc2_w 257, 3) := by decide +kernel
theorem dX8_least_78 : decode cX8_least 78 = .ok (.lreturn, 1) := by decide +kernel
theorem dX8_count_0 : decode cX8_count 0 = .ok (.iload_n 1, 1) := by decide +kernel
theorem dX8_count_1 : decode cX8_count 1 = .ok (.tableswitch 105 0 7 #[47, 52, 60, 68, 76, 84, 92, 97], 47) := by decide +kernel
theorem dX8_count_48 : decode cX8_count 48 = .ok (.aload_n 0, 1) := by decide +kernel
theorem dX8_count_49 : decode cX8_count 49 = .ok (.getfield 120, 3) := by decide +kernel
theorem dX8_count_52 : decode cX8_count 52 = .ok (.ireturn, 1) := by decide +kernel
theorem dX8_count_53 : decode cX8_count 53 = .ok (.aload_n 0, 1) := by decide +kernel
theorem dX8_count_54 : decode cX8_count 54 = .ok (.getfield 10, 3) := by decide +kernel
theorem dX8_count_57 : decode cX8_count 57 = .ok (.invokevirtual 263, 3) := by decide +kernel
theorem dX8_count_60 : decode cX8_count 60 = .ok (.ireturn, 1) := by decide +kernel
theorem dX8_count_61 : decode cX8_count 61 = .ok (.aload_n 0, 1) := by decide +kernel
theorem dX8_count_62 : decode cX8_count 62 = .ok (.getfield 10, 3) := by decide +kernel
theorem dX8_count_65 : decode cX8_count 65 = .ok (.invokevirtual 267, 3) := by decide +kernel
theorem dX8_count_68 : decode cX8_count 68 = .ok (.ireturn, 1) := by decide +kernel
theorem dX8_count_69 : decode cX8_count 69 = .ok (.aload_n 0, 1) := by decide +kernel
theorem dX8_count_70 : decode cX8_count 70 = .ok (.getfield 10, 3) := by decide +kernel
theorem dX8_count_73 : decode cX8_count 73 = .ok (.invokevirtual 270, 3) := by decide +kernel
theorem dX8_count_76 : decode cX8_count 76 = .ok (.ireturn, 1) := by decide +kernel
theorem dX8_count_77 : decode cX8_count 77 = .ok (.aload_n 0, 1) := by decide +kernel
theorem dX8_count_78 : decode cX8_count 78 = .ok (.getfield 19, 3) := by decide +kernel
theorem dX8_count_81 : decode cX8_count 81 = .ok (.getfield 208, 3) := by decide +kernel
theorem dX8_count_84 : decode cX8_count 84 = .ok (.ireturn, 1) := by decide +kernel
theorem dX8_count_85 : decode cX8_count 85 = .ok (.aload_n 0, 1) := by decide +kernel
theorem dX8_count_86 : decode cX8_count 86 = .ok (.getfield 19, 3) := by decide +kernel
theorem dX8_count_89 : decode cX8_count 89 = .ok (.invokevirtual 273, 3) := by decide +kernel
theorem dX8_count_92 : decode cX8_count 92 = .ok (.ireturn, 1) := by decide +kernel
theorem dX8_count_93 : decode cX8_count 93 = .ok (.aload_n 0, 1) := by decide +kernel
theorem dX8_count_94 : decode cX8_count 94 = .ok (.getfield 234, 3) := by decide +kernel
theorem dX8_count_97 : decode cX8_count 97 = .ok (.ireturn, 1) := by decide +kernel
theorem dX8_count_98 : decode cX8_count 98 = .ok (.aload_n 0, 1) := by decide +kernel
theorem dX8_count_99 : decode cX8_count 99 = .ok (.getfield 44, 3) := by decide +kernel
theorem dX8_count_102 : decode cX8_count 102 = .ok (.invokevirtual 276, 3) := by decide +kernel
theorem dX8_count_105 : decode cX8_count 105 = .ok (.ireturn, 1) := by decide +kernel
theorem dX8_count_106 : decode cX8_count 106 = .ok (.iconst (-1), 1) := by decide +kernel
theorem dX8_count_107 : decode cX8_count 107 = .ok (.ireturn, 1) := by decide +kernel
theorem dX8_isPlace_0 : decode cX8_isPlace 0 = .ok (.iload_n 0, 1) := by decide +kernel
theorem dX8_isPlace_1 : decode cX8_isPlace 1 = .ok (.ifCond .lt 13, 3) := by decide +kernel
theorem dX8_isPlace_4 : decode cX8_isPlace 4 = .ok (.iload_n 0, 1) := by decide +kernel
theorem dX8_isPlace_5 : decode cX8_isPlace 5 = .ok (.bipush 16, 2) := by decide +kernel
theorem dX8_isPlace_7 : decode cX8_isPlace 7 = .ok (.if_icmp .ge 7, 3) := by decide +kernel
theorem dX8_isPlace_10 : decode cX8_isPlace 10 = .ok (.iconst 1, 1) := by decide +kernel
theorem dX8_isPlace_11 : decode cX8_isPlace 11 = .ok (.goto 4, 3) := by decide +kernel
theorem dX8_isPlace_14 : decode cX8_isPlace 14 = .ok (.iconst 0, 1) := by decide +kernel
theorem dX8_isPlace_15 : decode cX8_isPlace 15 = .ok (.ireturn, 1) := by decide +kernel
theorem dX8_isNight_0 : decode cX8_isNight 0 = .ok (.iload_n 0, 1) := by decide +kernel
theorem dX8_isNight_1 : decode cX8_isNight 1 = .ok (.ifCond .lt 13, 3) := by decide +kernel
theorem dX8_isNight_4 : decode cX8_isNight 4 = .ok (.iload_n 0, 1) := by decide +kernel
theorem dX8_isNight_5 : decode cX8_isNight 5 = .ok (.bipush 60, 2) := by decide +kernel
theorem dX8_isNight_7 : decode cX8_isNight 7 = .ok (.if_icmp .ge 7, 3) := by decide +kernel
theorem dX8_isNight_10 : decode cX8_isNight 10 = .ok (.iconst 1, 1) := by decide +kernel
theorem dX8_isNight_11 : decode cX8_isNight 11 = .ok (.goto 4, 3) := by decide +kernel
theorem dX8_isNight_14 : decode cX8_isNight 14 = .ok (.iconst 0, 1) := by decide +kernel
theorem dX8_isNight_15 : decode cX8_isNight 15 = .ok (.ireturn, 1) := by decide +kernel
theorem dX8_isSpan_0 : decode cX8_isSpan 0 = .ok (.iconst 0, 1) := by decide +kernel
theorem dX8_isSpan_1 : decode cX8_isSpan 1 = .ok (.iload_n 0, 1) := by decide +kernel
theorem dX8_isSpan_2 : decode cX8_isSpan 2 = .ok (.if_icmp .gt 18, 3) := by decide +kernel
theorem dX8_isSpan_5 : decode cX8_isSpan 5 = .ok (.iload_n 0, 1) := by decide +kernel
theorem dX8_isSpan_6 : decode cX8_isSpan 6 = .ok (.iload_n 1, 1) := by decide +kernel
theorem dX8_isSpan_7 : decode cX8_isSpan 7 = .ok (.if_icmp .gt 13, 3) := by decide +kernel
theorem dX8_isSpan_10 : decode cX8_isSpan 10 = .ok (.iload_n 1, 1) := by decide +kernel
theorem dX8_isSpan_11 : decode cX8_isSpan 11 = .ok (.bipush 60, 2) := by decide +kernel
theorem dX8_isSpan_13 : decode cX8_isSpan 13 = .ok (.if_icmp .gt 7, 3) := by decide +kernel
theorem dX8_isSpan_16 : decode cX8_isSpan 16 = .ok (.iconst 1, 1) := by decide +kernel
theorem dX8_isSpan_17 : decode cX8_isSpan 17 = .ok (.goto 4, 3) := by decide +kernel
theorem dX8_isSpan_20 : decode cX8_isSpan 20 = .ok (.iconst 0, 1) := by decide +kernel
theorem dX8_isSpan_21 : decode cX8_isSpan 21 = .ok (.ireturn, 1) := by decide +kernel
theorem dX8_isWant_0 : decode cX8_isWant 0 = .ok (.iload_n 0, 1) := by decide +kernel
theorem dX8_isWant_1 : decode cX8_isWant 1 = .ok (.ifCond .lt 12, 3) := by decide +kernel
theorem dX8_isWant_4 : decode cX8_isWant 4 = .ok (.iload_n 0, 1) := by decide +kernel
theorem dX8_isWant_5 : decode cX8_isWant 5 = .ok (.iconst 5, 1) := by decide +kernel
theorem dX8_isWant_6 : decode cX8_isWant 6 = .ok (.if_icmp .ge 7, 3) := by decide +kernel
theorem dX8_isWant_9 : decode cX8_isWant 9 = .ok (.iconst 1, 1) := by decide +kernel
theorem dX8_isWant_10 : decode cX8_isWant 10 = .ok (.goto 4, 3) := by decide +kernel
theorem dX8_isWant_13 : decode cX8_isWant 13 = .ok (.iconst 0, 1) := by decide +kernel
theorem dX8_isWant_14 : decode cX8_isWant 14 = .ok (.ireturn, 1) := by decide +kernel
theorem dX8_mostPeople_0 : decode cX8_mostPeople 0 = .ok (.iload_n 0, 1) := by decide +kernel
theorem dX8_mostPeople_1 : decode cX8_mostPeople 1 = .ok (.tableswitch 41 0 4 #[35, 35, 37, 37, 39], 35) := by decide +kernel
theorem dX8_mostPeople_36 : decode cX8_mostPeople 36 = .ok (.iconst 1, 1) := by decide +kernel
theorem dX8_mostPeople_37 : decode cX8_mostPeople 37 = .ok (.ireturn, 1) := by decide +kernel
theorem dX8_mostPeople_38 : decode cX8_mostPeople 38 = .ok (.iconst 2, 1) := by decide +kernel
theorem dX8_mostPeople_39 : decode cX8_mostPeople 39 = .ok (.ireturn, 1) := by decide +kernel
theorem dX8_mostPeople_40 : decode cX8_mostPeople 40 = .ok (.iconst 4, 1) := by decide +kernel
theorem dX8_mostPeople_41 : decode cX8_mostPeople 41 = .ok (.ireturn, 1) := by decide +kernel
theorem dX8_mostPeople_42 : decode cX8_mostPeople 42 = .ok (.iconst 0, 1) := by decide +kernel
theorem dX8_mostPeople_43 : decode cX8_mostPeople 43 = .ok (.ireturn, 1) := by decide +kernel
theorem dX8_spotCode_0 : decode cX8_spotCode 0 = .ok (.bipush 32, 2) := by decide +kernel
theorem dX8_spotCode_2 : decode cX8_spotCode 2 = .ok (.iload_n 0, 1) := by decide +kernel
theorem dX8_spotCode_3 : decode cX8_spotCode 3 = .ok (.imul, 1) := by decide +kernel
theorem dX8_spotCode_4 : decode cX8_spotCode 4 = .ok (.iconst 4, 1) := by decide +kernel
theorem dX8_spotCode_5 : decode cX8_spotCode 5 = .ok (.iload_n 1, 1) := by decide +kernel
theorem dX8_spotCode_6 : decode cX8_spotCode 6 = .ok (.imul, 1) := by decide +kernel
theorem dX8_spotCode_7 : decode cX8_spotCode 7 = .ok (.iadd, 1) := by decide +kernel
theorem dX8_spotCode_8 : decode cX8_spotCode 8 = .ok (.iload_n 2, 1) := by decide +kernel
theorem dX8_spotCode_9 : decode cX8_spotCode 9 = .ok (.ifCond .eq 7, 3) := by decide +kernel
theorem dX8_spotCode_12 : decode cX8_spotCode 12 = .ok (.iconst 1, 1) := by decide +kernel
theorem dX8_spotCode_13 : decode cX8_spotCode 13 = .ok (.goto 4, 3) := by decide +kernel
theorem dX8_spotCode_16 : decode cX8_spotCode 16 = .ok (.iconst 0, 1) := by decide +kernel
theorem dX8_spotCode_17 : decode cX8_spotCode 17 = .ok (.iadd, 1) := by decide +kernel
theorem dX8_spotCode_18 : decode cX8_spotCode 18 = .ok (.ireturn, 1) := by decide +kernel
theorem dX8_placeOf_0 : decode cX8_placeOf 0 = .ok (.iload_n 0, 1) := by decide +kernel
theorem dX8_placeOf_1 : decode cX8_placeOf 1 = .ok (.iconst 5, 1) := by decide +kernel
theorem dX8_placeOf_2 : decode cX8_placeOf 2 = .ok (.ishr, 1) := by decide +kernel
theorem dX8_placeOf_3 : decode cX8_placeOf 3 = .ok (.ireturn, 1) := by decide +kernel
theorem dX8_bedOf_0 : decode cX8_bedOf 0 = .ok (.iload_n 0, 1) := by decide +kernel
theorem dX8_bedOf_1 : decode cX8_bedOf 1 = .ok (.iconst 2, 1) := by decide +kernel
theorem dX8_bedOf_2 : decode cX8_bedOf 2 = .ok (.ishr, 1) := by decide +kernel
theorem dX8_bedOf_3 : decode cX8_bedOf 3 = .ok (.bipush 7, 2) := by decide +kernel
theorem dX8_bedOf_5 : decode cX8_bedOf 5 = .ok (.iand, 1) := by decide +kernel
theorem dX8_bedOf_6 : decode cX8_bedOf 6 = .ok (.ireturn, 1) := by decide +kernel
theorem dX8_isSuite_0 : decode cX8_isSuite 0 = .ok (.iload_n 0, 1) := by decide +kernel
theorem dX8_isSuite_1 : decode cX8_isSuite 1 = .ok (.ifCond .lt 14, 3) := by decide +kernel
theorem dX8_isSuite_4 : decode cX8_isSuite 4 = .ok (.iload_n 0, 1) := by decide +kernel
theorem dX8_isSuite_5 : decode cX8_isSuite 5 = .ok (.iconst 1, 1) := by decide +kernel
theorem dX8_isSuite_6 : decode cX8_isSuite 6 = .ok (.iand, 1) := by decide +kernel
theorem dX8_isSuite_7 : decode cX8_isSuite 7 = .ok (.iconst 1, 1) := by decide +kernel
theorem dX8_isSuite_8 : decode cX8_isSuite 8 = .ok (.if_icmp .ne 7, 3) := by decide +kernel
theorem dX8_isSuite_11 : decode cX8_isSuite 11 = .ok (.iconst 1, 1) := by decide +kernel
theorem dX8_isSuite_12 : decode cX8_isSuite 12 = .ok (.goto 4, 3) := by decide +kernel
theorem dX8_isSuite_15 : decode cX8_isSuite 15 = .ok (.iconst 0, 1) := by decide +kernel
theorem dX8_isSuite_16 : decode cX8_isSuite 16 = .ok (.ireturn, 1) := by decide +kernel
theorem dX8_isWish_0 : decode cX8_isWish 0 = .ok (.iload_n 1, 1) := by decide +kernel
theorem dX8_isWish_1 : decode cX8_isWish 1 = .ok (.invokestatic 237, 3) := by decide +kernel
theorem dX8_isWish_4 : decode cX8_isWish 4 = .ok (.ifCond .eq 26, 3) := by decide +kernel
theorem dX8_isWish_7 : decode cX8_isWish 7 = .ok (.iload_n 2, 1) := by decide +kernel
theorem dX8_isWish_8 : decode cX8_isWish 8 = .ok (.aload_n 0, 1) := by decide +kernel
theorem dX8_isWish_9 : decode cX8_isWish 9 = .ok (.getfield 120, 3) := by decide +kernel
theorem dX8_isWish_12 : decode cX8_isWish 12 = .ok (.if_icmp .lt 18, 3) := by decide +kernel
theorem dX8_isWish_15 : decode cX8_isWish 15 = .ok (.iload_n 2, 1) := by decide +kernel
theorem dX8_isWish_16 : decode cX8_isWish 16 = .ok (.iload_n 3, 1) := by decide +kernel
theorem dX8_isWish_17 : decode cX8_isWish 17 = .ok (.if_icmp .ge 13, 3) := by decide +kernel
theorem dX8_isWish_20 : decode cX8_isWish 20 = .ok (.iload_n 3, 1) := by decide +kernel
theorem dX8_isWish_21 : decode cX8_isWish 21 = .ok (.bipush 60, 2) := by decide +kernel
theorem dX8_isWish_23 : decode cX8_isWish 23 = .ok (.if_icmp .gt 7, 3) := by decide +kernel
theorem dX8_isWish_26 : decode cX8_isWish 26 = .ok (.iconst 1, 1) := by decide +kernel
theorem dX8_isWish_27 : decode cX8_isWish 27 = .ok (.goto 4, 3) := by decide +kernel
theorem dX8_isWish_30 : decode cX8_isWish 30 = .ok (.iconst 0, 1) := by decide +kernel
theorem dX8_isWish_31 : decode cX8_isWish 31 = .ok (.ireturn, 1) := by decide +kernel
theorem dX8_refusalOf_0 : decode cX8_refusalOf 0 = .ok (.aload_n 0, 1) := by decide +kernel
theorem dX8_refusalOf_1 : decode cX8_refusalOf 1 = .ok (.iload_n 1, 1) := by decide +kernel
theorem dX8_refusalOf_2 : decode cX8_refusalOf 2 = .ok (.iload_n 3, 1) := by decide +kernel
theorem dX8_refusalOf_3 : decode cX8_refusalOf 3 = .ok (.iload 4, 2) := by decide +kernel
theorem dX8_refusalOf_5 : decode cX8_refusalOf 5 = .ok (.invokevirtual 250, 3) := by decide +kernel
theorem dX8_refusalOf_8 : decode cX8_refusalOf 8 = .ok (.ifCond .eq 16, 3) := by decide +kernel
theorem dX8_refusalOf_11 : decode cX8_refusalOf 11 = .ok (.iload_n 2, 1) := by decide +kernel
theorem dX8_refusalOf_12 : decode cX8_refusalOf 12 = .ok (.iconst 1, 1) := by decide +kernel
theorem dX8_refusalOf_13 : decode cX8_refusalOf 13 = .ok (.if_icmp .lt 11, 3) := by decide +kernel
theorem dX8_refusalOf_16 : decode cX8_refusalOf 16 = .ok (.iload_n 2, 1) := by decide +kernel
theorem dX8_refusalOf_17 : decode cX8_refusalOf 17 = .ok (.iload_n 1, 1) := by decide +kernel
theorem dX8_refusalOf_18 : decode cX8_refusalOf 18 = .ok (.invokestatic 279, 3) := by decide +kernel
theorem dX8_refusalOf_21 : decode cX8_refusalOf 21 = .ok (.if_icmp .le 5, 3) := by decide +kernel
theorem dX8_refusalOf_24 : decode cX8_refusalOf 24 = .ok (.iconst 1, 1) := by decide +kernel
theorem dX8_refusalOf_25 : decode cX8_refusalOf 25 = .ok (.ireturn, 1) := by decide +kernel
theorem dX8_refusalOf_26 : decode cX8_refusalOf 26 = .ok (.aload_n 0, 1) := by decide +kernel
theorem dX8_refusalOf_27 : decode cX8_refusalOf 27 = .ok (.getfield 44, 3) := by decide +kernel
theorem dX8_refusalOf_30 : decode cX8_refusalOf 30 = .ok (.iload_n 1, 1) := by decide +kernel
theorem dX8_refusalOf_31 : decode cX8_refusalOf 31 = .ok (.iload_n 3, 1) := by decide +kernel
theorem dX8_refusalOf_32 : decode cX8_refusalOf 32 = .ok (.iload 4, 2) := by decide +kernel
theorem dX8_refusalOf_34 : decode cX8_refusalOf 34 = .ok (.aload_n 0, 1) := by decide +kernel
theorem dX8_refusalOf_35 : decode cX8_refusalOf 35 = .ok (.getfield 120, 3) := by decide +kernel
theorem dX8_refusalOf_38 : decode cX8_refusalOf 38 = .ok (.invokevirtual 128, 3) := by decide +kernel
theorem dX8_refusalOf_41 : decode cX8_refusalOf 41 = .ok (.ldc2_w 257, 3) := by decide +kernel
theorem dX8_refusalOf_44 : decode cX8_refusalOf 44 = .ok (.lcmp, 1) := by decide +kernel
theorem dX8_refusalOf_45 : decode cX8_refusalOf 45 = .ok (.ifCond .ne 5, 3) := by decide +kernel
theorem dX8_refusalOf_48 : decode cX8_refusalOf 48 = .ok (.iconst 2, 1) := by decide +kernel
theorem dX8_refusalOf_49 : decode cX8_refusalOf 49 = .ok (.ireturn, 1) := by decide +kernel
theorem dX8_refusalOf_50 : decode cX8_refusalOf 50 = .ok (.iload_n 3, 1) := by decide +kernel
theorem dX8_refusalOf_51 : decode cX8_refusalOf 51 = .ok (.istore 6, 2) := by decide +kernel
theorem dX8_refusalOf_53 : decode cX8_refusalOf 53 = .ok (.iload 6, 2) := by decide +kernel
theorem dX8_refusalOf_55 : decode cX8_refusalOf 55 = .ok (.iload 4, 2) := by decide +kernel
theorem dX8_refusalOf_57 : decode cX8_refusalOf 57 = .ok (.if_icmp .ge 27, 3) := by decide +kernel
theorem dX8_refusalOf_60 : decode cX8_refusalOf 60 = .ok (.aload_n 0, 1) := by decide +kernel
theorem dX8_refusalOf_61 : decode cX8_refusalOf 61 = .ok (.iload 6, 2) := by decide +kernel
theorem dX8_refusalOf_63 : decode cX8_refusalOf 63 = .ok (.iload_n 1, 1) := by decide +kernel
theorem dX8_refusalOf_64 : decode cX8_refusalOf 64 = .ok (.iload 5, 2) := by decide +kernel
theorem dX8_refusalOf_66 : decode cX8_refusalOf 66 = .ok (.invokevirtual 224, 3) := by decide +kernel
theorem dX8_refusalOf_69 : decode cX8_refusalOf 69 = .ok (.aload_n 0, 1) := by decide +kernel
theorem dX8_refusalOf_70 : decode cX8_refusalOf 70 = .ok (.getfield 234, 3) := by decide +kernel
theorem dX8_refusalOf_73 : decode cX8_refusalOf 73 = .ok (.if_icmp .le 5, 3) := by decide +kernel
theorem dX8_refusalOf_76 : decode cX8_refusalOf 76 = .ok (.iconst 3, 1) := by decide +kernel
theorem dX8_refusalOf_77 : decode cX8_refusalOf 77 = .ok (.ireturn, 1) := by decide +kernel
theorem dX8_refusalOf_78 : decode cX8_refusalOf 78 = .ok (.iinc 6 1, 3) := by decide +kernel
theorem dX8_refusalOf_81 : decode cX8_refusalOf 81 = .ok (.goto (-28), 3) := by decide +kernel
theorem dX8_refusalOf_84 : decode cX8_refusalOf 84 = .ok (.iload 5, 2) := by decide +kernel
theorem dX8_refusalOf_86 : decode cX8_refusalOf 86 = .ok (.iconst (-1), 1) := by decide +kernel
theorem dX8_refusalOf_87 : decode cX8_refusalOf 87 = .ok (.if_icmp .ne 17, 3) := by decide +kernel
theorem dX8_refusalOf_90 : decode cX8_refusalOf 90 = .ok (.aload_n 0, 1) := by decide +kernel
theorem dX8_refusalOf_91 : decode cX8_refusalOf 91 = .ok (.getfield 19, 3) := by decide +kernel
theorem dX8_refusalOf_94 : decode cX8_refusalOf 94 = .ok (.invokevirtual 282, 3) := by decide +kernel
theorem dX8_refusalOf_97 : decode cX8_refusalOf 97 = .ok (.ifCond .eq 7, 3) := by decide +kernel
theorem dX8_refusalOf_100 : decode cX8_refusalOf 100 = .ok (.iconst 4, 1) := by decide +kernel
theorem dX8_refusalOf_101 : decode cX8_refusalOf 101 = .ok (.goto 4, 3) := by decide +kernel
theorem dX8_refusalOf_104 : decode cX8_refusalOf 104 = .ok (.iconst 0, 1) := by decide +kernel
theorem dX8_refusalOf_105 : decode cX8_refusalOf 105 = .ok (.ireturn, 1) := by decide +kernel
theorem dX8_shortOf_0 : decode cX8_shortOf 0 = .ok (.aload_n 0, 1) := by decide +kernel
theorem dX8_shortOf_1 : decode cX8_shortOf 1 = .ok (.getfield 28, 3) := by decide +kernel
theorem dX8_shortOf_4 : decode cX8_shortOf 4 = .ok (.iload_n 1, 1) := by decide +kernel
theorem dX8_shortOf_5 : decode cX8_shortOf 5 = .ok (.invokevirtual 285, 3) := by decide +kernel
theorem dX8_shortOf_8 : decode cX8_shortOf 8 = .ok (.iconst 0, 1) := by decide +kernel
theorem dX8_shortOf_9 : decode cX8_shortOf 9 = .ok (.istore 4, 2) := by decide +kernel
theorem dX8_shortOf_11 : decode cX8_shortOf 11 = .ok (.iload 4, 2) := by decide +kernel
theorem dX8_shortOf_13 : decode cX8_shortOf 13 = .ok (.aload_n 0, 1) := by decide +kernel
theorem dX8_shortOf_14 : decode cX8_shortOf 14 = .ok (.getfield 19, 3) := by decide +kernel
theorem dX8_shortOf_17 : decode cX8_shortOf 17 = .ok (.getfield 208, 3) := by decide +kernel
theorem dX8_shortOf_20 : decode cX8_shortOf 20 = .ok (.if_icmp .ge 60, 3) := by decide +kernel
theorem dX8_shortOf_23 : decode cX8_shortOf 23 = .ok (.aload_n 0, 1) := by decide +kernel
theorem dX8_shortOf_24 : decode cX8_shortOf 24 = .ok (.getfield 19, 3) := by decide +kernel
theorem dX8_shortOf_27 : decode cX8_shortOf 27 = .ok (.iload 4, 2) := by decide +kernel
theorem dX8_shortOf_29 : decode cX8_shortOf 29 = .ok (.invokevirtual 140, 3) := by decide +kernel
theorem dX8_shortOf_32 : decode cX8_shortOf 32 = .ok (.astore 5, 2) := by decide +kernel
theorem dX8_shortOf_34 : decode cX8_shortOf 34 = .ok (.aload 5, 2) := by decide +kernel
theorem dX8_shortOf_36 : decode cX8_shortOf 36 = .ok (.ifnull 38, 3) := by decide +kernel
theorem dX8_shortOf_39 : decode cX8_shortOf 39 = .ok (.iload 4, 2) := by decide +kernel
theorem dX8_shortOf_41 : decode cX8_shortOf 41 = .ok (.iload_n 3, 1) := by decide +kernel
theorem dX8_shortOf_42 : decode cX8_shortOf 42 = .ok (.if_icmp .eq 32, 3) := by decide +kernel
theorem dX8_shortOf_45 : decode cX8_shortOf 45 = .ok (.aload 5, 2) := by decide +kernel
theorem dX8_shortOf_47 : decode cX8_shortOf 47 = .ok (.invokevirtual 288, 3) := by decide +kernel
theorem dX8_shortOf_50 : decode cX8_shortOf 50 = .ok (.ifCond .eq 24, 3) := by decide +kernel
theorem dX8_shortOf_53 : decode cX8_shortOf 53 = .ok (.aload 5, 2) := by decide +kernel
theorem dX8_shortOf_55 : decode cX8_shortOf 55 = .ok (.iload_n 1, 1) := by decide +kernel
theorem dX8_shortOf_56 : decode cX8_shortOf 56 = .ok (.invokevirtual 291, 3) := by decide +kernel
theorem dX8_shortOf_59 : decode cX8_shortOf 59 = .ok (.ifCond .eq 15, 3) := by decide +kernel
theorem dX8_shortOf_62 : decode cX8_shortOf 62 = .ok (.aload_n 0, 1) := by decide +kernel
theorem dX8_shortOf_63 : decode cX8_shortOf 63 = .ok (.getfield 28, 3) := by decide +kernel
theorem dX8_shortOf_66 : decode cX8_shortOf 66 = .ok (.aload 5, 2) := by decide +kernel
theorem dX8_shortOf_68 : decode cX8_shortOf 68 = .ok (.getfield 155, 3) := by decide +kernel
theorem dX8_shortOf_71 : decode cX8_shortOf 71 = .ok (.invokevirtual 294, 3) := by decide +kernel
theorem dX8_shortOf_74 : decode cX8_shortOf 74 = .ok (.iinc 4 1, 3) := by decide +kernel
theorem dX8_shortOf_77 : decode cX8_shortOf 77 = .ok (.goto (-66), 3) := by decide +kernel
theorem dX8_shortOf_80 : decode cX8_shortOf 80 = .ok (.aload_n 0, 1) := by decide +kernel
theorem dX8_shortOf_81 : decode cX8_shortOf 81 = .ok (.getfield 28, 3) := by decide +kernel
theorem dX8_shortOf_84 : decode cX8_shortOf 84 = .ok (.iload_n 2, 1) := by decide +kernel
theorem dX8_shortOf_85 : decode cX8_shortOf 85 = .ok (.invokevirtual 294, 3) := by decide +kernel
theorem dX8_shortOf_88 : decode cX8_shortOf 88 = .ok (.aload_n 0, 1) := by decide +kernel
theorem dX8_shortOf_89 : decode cX8_shortOf 89 = .ok (.getfield 28, 3) := by decide +kernel
theorem dX8_shortOf_92 : decode cX8_shortOf 92 = .ok (.invokevirtual 297, 3) := by decide +kernel
theorem dX8_shortOf_95 : decode cX8_shortOf 95 = .ok (.ireturn, 1) := by decide +kernel
theorem dX8_setState_0 : decode cX8_setState 0 = .ok (.aload_n 1, 1) := by decide +kernel
theorem dX8_setState_1 : decode cX8_setState 1 = .ok (.iload_n 2, 1) := by decide +kernel
theorem dX8_setState_2 : decode cX8_setState 2 = .ok (.putfield 144, 3) := by decide +kernel
theorem dX8_setState_5 : decode cX8_setState 5 = .ok (.aload_n 0, 1) := by decide +kernel
theorem dX8_setState_6 : decode cX8_setState 6 = .ok (.aload_n 1, 1) := by decide +kernel
theorem dX8_setState_7 : decode cX8_setState 7 = .ok (.getfield 161, 3) := by decide +kernel
theorem dX8_setState_10 : decode cX8_setState 10 = .ok (.invokevirtual 61, 3) := by decide +kernel
theorem dX8_setState_13 : decode cX8_setState 13 = .ok (.return_, 1) := by decide +kernel
theorem dX8_replanFrom_0 : decode cX8_replanFrom 0 = .ok (.aload_n 0, 1) := by decide +kernel
theorem dX8_replanFrom_1 : decode cX8_replanFrom 1 = .ok (.aload_n 0, 1) := by decide +kernel
theorem dX8_replanFrom_2 : decode cX8_replanFrom 2 = .ok (.getfield 120, 3) := by decide +kernel
theorem dX8_replanFrom_5 : decode cX8_replanFrom 5 = .ok (.aload_n 0, 1) := by decide +kernel
theorem dX8_replanFrom_6 : decode cX8_replanFrom 6 = .ok (.getfield 176, 3) := by decide +kernel
theorem dX8_replanFrom_9 : decode cX8_replanFrom 9 = .ok (.iload_n 1, 1) := by decide +kernel
theorem dX8_replanFrom_10 : decode cX8_replanFrom 10 = .ok (.invokestatic 300, 3) := by decide +kernel
theorem dX8_replanFrom_13 : decode cX8_replanFrom 13 = .ok (.invokestatic 211, 3) := by decide +kernel
theorem dX8_replanFrom_16 : decode cX8_replanFrom 16 = .ok (.putfield 176, 3) := by decide +kernel
theorem dX8_replanFrom_19 : decode cX8_replanFrom 19 = .ok (.return_, 1) := by decide +kernel
theorem dX8_planUpTo_0 : decode cX8_planUpTo 0 = .ok (.aload_n 0, 1) := by decide +kernel
theorem dX8_planUpTo_1 : decode cX8_planUpTo 1 = .ok (.getfield 176, 3) := by decide +kernel
theorem dX8_planUpTo_4 : decode cX8_planUpTo 4 = .ok (.istore_n 2, 1) := by decide +kernel
theorem dX8_planUpTo_5 : decode cX8_planUpTo 5 = .ok (.iload_n 2, 1) := by decide +kernel
theorem dX8_planUpTo_6 : decode cX8_planUpTo 6 = .ok (.iload_n 1, 1) := by decide +kernel
theorem dX8_planUpTo_7 : decode cX8_planUpTo 7 = .ok (.if_icmp .gt 30, 3) := by decide +kernel
theorem dX8_planUpTo_10 : decode cX8_planUpTo 10 = .ok (.iload_n 2, 1) := by decide +kernel
theorem dX8_planUpTo_11 : decode cX8_planUpTo 11 = .ok (.bipush 60, 2) := by decide +kernel
theorem dX8_planUpTo_13 : decode cX8_planUpTo 13 = .ok (.if_icmp .ge 24, 3) := by decide +kernel
theorem dX8_planUpTo_16 : decode cX8_planUpTo 16 = .ok (.aload_n 0, 1) := by decide +kernel
theorem dX8_planUpTo_17 : decode cX8_planUpTo 17 = .ok (.getfield 37, 3) := by decide +kernel
theorem dX8_planUpTo_20 : decode cX8_planUpTo 20 = .ok (.iload_n 2, 1) := by decide +kernel
theorem dX8_planUpTo_21 : decode cX8_planUpTo 21 = .ok (.invokevirtual 303, 3) := by decide +kernel
theorem dX8_planUpTo_24 : decode cX8_planUpTo 24 = .ok (.aload_n 0, 1) := by decide +kernel
theorem dX8_planUpTo_25 : decode cX8_planUpTo 25 = .ok (.iload_n 2, 1) := by decide +kernel
theorem dX8_planUpTo_26 : decode cX8_planUpTo 26 = .ok (.iconst 1, 1) := by decide +kernel
theorem dX8_planUpTo_27 : decode cX8_planUpTo 27 = .ok (.iadd, 1) := by decide +kernel
theorem dX8_planUpTo_28 : decode cX8_planUpTo 28 = .ok (.putfield 176, 3) := by decide +kernel
theorem dX8_planUpTo_31 : decode cX8_planUpTo 31 = .ok (.iinc 2 1, 3) := by decide +kernel
theorem dX8_planUpTo_34 : decode cX8_planUpTo 34 = .ok (.goto (-29), 3) := by decide +kernel
theorem dX8_planUpTo_37 : decode cX8_planUpTo 37 = .ok (.return_, 1) := by decide +kernel
theorem dX8_takenUnits_0 : decode cX8_takenUnits 0 = .ok (.iconst 0, 1) := by decide +kernel
theorem dX8_takenUnits_1 : decode cX8_takenUnits 1 = .ok (.istore_n 3, 1) := by decide +kernel
theorem dX8_takenUnits_2 : decode cX8_takenUnits 2 = .ok (.iconst 0, 1) := by decide +kernel
theorem dX8_takenUnits_3 : decode cX8_takenUnits 3 = .ok (.istore 4, 2) := by decide +kernel
theorem dX8_takenUnits_5 : decode cX8_takenUnits 5 = .ok (.iload 4, 2) := by decide +kernel
theorem dX8_takenUnits_7 : decode cX8_takenUnits 7 = .ok (.aload_n 0, 1) := by decide +kernel
theorem dX8_takenUnits_8 : decode cX8_takenUnits 8 = .ok (.getfield 19, 3) := by decide +kernel
theorem dX8_takenUnits_11 : decode cX8_takenUnits 11 = .ok (.getfield 208, 3) := by decide +kernel
theorem dX8_takenUnits_14 : decode cX8_takenUnits 14 = .ok (.if_icmp .ge 97, 3) := by decide +kernel
theorem dX8_takenUnits_17 : decode cX8_takenUnits 17 = .ok (.aload_n 0, 1) := by decide +kernel
theorem dX8_takenUnits_18 : decode cX8_takenUnits 18 = .ok (.getfield 19, 3) := by decide +kernel
theorem dX8_takenUnits_21 : decode cX8_takenUnits 21 = .ok (.iload 4, 2) := by decide +kernel
theorem dX8_takenUnits_23 : decode cX8_takenUnits 23 = .ok (.invokevirtual 140, 3) := by decide +kernel
theorem dX8_takenUnits_26 : decode cX8_takenUnits 26 = .ok (.astore 5, 2) := by decide +kernel
theorem dX8_takenUnits_28 : decode cX8_takenUnits 28 = .ok (.aload 5, 2) := by decide +kernel
theorem dX8_takenUnits_30 : decode cX8_takenUnits 30 = .ok (.ifnonnull 7, 3) := by decide +kernel
theorem dX8_takenUnits_33 : decode cX8_takenUnits 33 = .ok (.iconst (-1), 1) := by decide +kernel
theorem dX8_takenUnits_34 : decode cX8_takenUnits 34 = .ok (.goto 9, 3) := by decide +kernel
theorem dX8_takenUnits_37 : decode cX8_takenUnits 37 = .ok (.aload 5, 2) := by decide +kernel
theorem dX8_takenUnits_39 : decode cX8_takenUnits 39 = .ok (.iload_n 2, 1) := by decide +kernel
theorem dX8_takenUnits_40 : decode cX8_takenUnits 40 = .ok (.invokevirtual 205, 3) := by decide +kernel
theorem dX8_takenUnits_43 : decode cX8_takenUnits 43 = .ok (.istore 6, 2) := by decide +kernel
theorem dX8_takenUnits_45 : decode cX8_takenUnits 45 = .ok (.iload_n 3, 1) := by decide +kernel
theorem dX8_takenUnits_46 : decode cX8_takenUnits 46 = .ok (.aload_n 0, 1) := by decide +kernel
theorem dX8_takenUnits_47 : decode cX8_takenUnits 47 = .ok (.getfield 10, 3) := by decide +kernel
theorem dX8_takenUnits_50 : decode cX8_takenUnits 50 = .ok (.iload 6, 2) := by decide +kernel
theorem dX8_takenUnits_52 : decode cX8_takenUnits 52 = .ok (.invokestatic 216, 3) := by decide +kernel
theorem dX8_takenUnits_55 : decode cX8_takenUnits 55 = .ok (.iload_n 1, 1) := by decide +kernel
theorem dX8_takenUnits_56 : decode cX8_takenUnits 56 = .ok (.iload_n 2, 1) := by decide +kernel
theorem dX8_takenUnits_57 : decode cX8_takenUnits 57 = .ok (.invokevirtual 306, 3) := by decide +kernel
theorem dX8_takenUnits_60 : decode cX8_takenUnits 60 = .ok (.ifCond .eq 7, 3) := by decide +kernel
theorem dX8_takenUnits_63 : decode cX8_takenUnits 63 = .ok (.iconst 1, 1) := by decide +kernel
theorem dX8_takenUnits_64 : decode cX8_takenUnits 64 = .ok (.goto 4, 3) := by decide +kernel
theorem dX8_takenUnits_67 : decode cX8_takenUnits 67 = .ok (.iconst 0, 1) := by decide +kernel
theorem dX8_takenUnits_68 : decode cX8_takenUnits 68 = .ok (.iadd, 1) := by decide +kernel
theorem dX8_takenUnits_69 : decode cX8_takenUnits 69 = .ok (.istore_n 3, 1) := by decide +kernel
theorem dX8_takenUnits_70 : decode cX8_takenUnits 70 = .ok (.iload 6, 2) := by decide +kernel
theorem dX8_takenUnits_72 : decode cX8_takenUnits 72 = .ok (.invokestatic 309, 3) := by decide +kernel
theorem dX8_takenUnits_75 : decode cX8_takenUnits 75 = .ok (.ifCond .eq 30, 3) := by decide +kernel
theorem dX8_takenUnits_78 : decode cX8_takenUnits 78 = .ok (.iload_n 3, 1) := by decide +kernel
theorem dX8_takenUnits_79 : decode cX8_takenUnits 79 = .ok (.aload_n 0, 1) := by decide +kernel
theorem dX8_takenUnits_80 : decode cX8_takenUnits 80 = .ok (.getfield 10, 3) := by decide +kernel
theorem dX8_takenUnits_83 : decode cX8_takenUnits 83 = .ok (.iload 6, 2) := by decide +kernel
theorem dX8_takenUnits_85 : decode cX8_takenUnits 85 = .ok (.invokestatic 216, 3) := by decide +kernel
theorem dX8_takenUnits_88 : decode cX8_takenUnits 88 = .ok (.iconst 1, 1) := by decide +kernel
theorem dX8_takenUnits_89 : decode cX8_takenUnits 89 = .ok (.iadd, 1) := by decide +kernel
theorem dX8_takenUnits_90 : decode cX8_takenUnits 90 = .ok (.iload_n 1, 1) := by decide +kernel
theorem dX8_takenUnits_91 : decode cX8_takenUnits 91 = .ok (.iload_n 2, 1) := by decide +kernel
theorem dX8_takenUnits_92 : decode cX8_takenUnits 92 = .ok (.invokevirtual 306, 3) := by decide +kernel
theorem dX8_takenUnits_95 : decode cX8_takenUnits 95 = .ok (.ifCond .eq 7, 3) := by decide +kernel
theorem dX8_takenUnits_98 : decode cX8_takenUnits 98 = .ok (.iconst 1, 1) := by decide +kernel
theorem dX8_takenUnits_99 : decode cX8_takenUnits 99 = .ok (.goto 4, 3) := by decide +kernel
theorem dX8_takenUnits_102 : decode cX8_takenUnits 102 = .ok (.iconst 0, 1) := by decide +kernel
theorem dX8_takenUnits_103 : decode cX8_takenUnits 103 = .ok (.iadd, 1) := by decide +kernel
theorem dX8_takenUnits_104 : decode cX8_takenUnits 104 = .ok (.istore_n 3, 1) := by decide +kernel
theorem dX8_takenUnits_105 : decode cX8_takenUnits 105 = .ok (.iinc 4 1, 3) := by decide +kernel
theorem dX8_takenUnits_108 : decode cX8_takenUnits 108 = .ok (.goto (-103), 3) := by decide +kernel
theorem dX8_takenUnits_111 : decode cX8_takenUnits 111 = .ok (.iload_n 3, 1) := by decide +kernel
theorem dX8_takenUnits_112 : decode cX8_takenUnits 112 = .ok (.ireturn, 1) := by decide +kernel
theorem dJ6_bitCount_0f7a4_0 : decode cJ6_bitCount_0f7a4 0 = .ok (.iload_n 0, 1) := by decide +kernel
theorem dJ6_bitCount_0f7a4_1 : decode cJ6_bitCount_0f7a4 1 = .ok (.iload_n 0, 1) := by decide +kernel
theorem dJ6_bitCount_0f7a4_2 : decode cJ6_bitCount_0f7a4 2 = .ok (.iconst 1, 1) := by decide +kernel
theorem dJ6_bitCount_0f7a4_3 : decode cJ6_bitCount_0f7a4 3 = .ok (.iushr, 1) := by decide +kernel
theorem dJ6_bitCount_0f7a4_4 : decode cJ6_bitCount_0f7a4 4 = .ok (.ldc_w 265, 3) := by decide +kernel
theorem dJ6_bitCount_0f7a4_7 : decode cJ6_bitCount_0f7a4 7 = .ok (.iand, 1) := by decide +kernel
theorem dJ6_bitCount_0f7a4_8 : decode cJ6_bitCount_0f7a4 8 = .ok (.isub, 1) := by decide +kernel
theorem dJ6_bitCount_0f7a4_9 : decode cJ6_bitCount_0f7a4 9 = .ok (.istore_n 0, 1) := by decide +kernel
theorem dJ6_bitCount_0f7a4_10 : decode cJ6_bitCount_0f7a4 10 = .ok (.iload_n 0, 1) := by decide +kernel
theorem dJ6_bitCount_0f7a4_11 : decode cJ6_bitCount_0f7a4 11 = .ok (.ldc_w 266, 3) := by decide +kernel
theorem dJ6_bitCount_0f7a4_14 : decode cJ6_bitCount_0f7a4 14 = .ok (.iand, 1) := by decide +kernel
theorem dJ6_bitCount_0f7a4_15 : decode cJ6_bitCount_0f7a4 15 = .ok (.iload_n 0, 1) := by decide +kernel
theorem dJ6_bitCount_0f7a4_16 : decode cJ6_bitCount_0f7a4 16 = .ok (.iconst 2, 1) := by decide +kernel
theorem dJ6_bitCount_0f7a4_17 : decode cJ6_bitCount_0f7a4 17 = .ok (.iushr, 1) := by decide +kernel
theorem dJ6_bitCount_0f7a4_18 : decode cJ6_bitCount_0f7a4 18 = .ok (.ldc_w 266, 3) := by decide +kernel
theorem dJ6_bitCount_0f7a4_21 : decode cJ6_bitCount_0f7a4 21 = .ok (.iand, 1) := by decide +kernel
theorem dJ6_bitCount_0f7a4_22 : decode cJ6_bitCount_0f7a4 22 = .ok (.iadd, 1) := by decide +kernel
theorem dJ6_bitCount_0f7a4_23 : decode cJ6_bitCount_0f7a4 23 = .ok (.istore_n 0, 1) := by decide +kernel
theorem dJ6_bitCount_0f7a4_24 : decode cJ6_bitCount_0f7a4 24 = .ok (.iload_n 0, 1) := by decide +kernel
theorem dJ6_bitCount_0f7a4_25 : decode cJ6_bitCount_0f7a4 25 = .ok (.iload_n 0, 1) := by decide +kernel
theorem dJ6_bitCount_0f7a4_26 : decode cJ6_bitCount_0f7a4 26 = .ok (.iconst 4, 1) := by decide +kernel
theorem dJ6_bitCount_0f7a4_27 : decode cJ6_bitCount_0f7a4 27 = .ok (.iushr, 1) := by decide +kernel
theorem dJ6_bitCount_0f7a4_28 : decode cJ6_bitCount_0f7a4 28 = .ok (.iadd, 1) := by decide +kernel
theorem dJ6_bitCount_0f7a4_29 : decode cJ6_bitCount_0f7a4 29 = .ok (.ldc_w 267, 3) := by decide +kernel
theorem dJ6_bitCount_0f7a4_32 : decode cJ6_bitCount_0f7a4 32 = .ok (.iand, 1) := by decide +kernel
theorem dJ6_bitCount_0f7a4_33 : decode cJ6_bitCount_0f7a4 33 = .ok (.istore_n 0, 1) := by decide +kernel
theorem dJ6_bitCount_0f7a4_34 : decode cJ6_bitCount_0f7a4 34 = .ok (.iload_n 0, 1) := by decide +kernel
theorem dJ6_bitCount_0f7a4_35 : decode cJ6_bitCount_0f7a4 35 = .ok (.iload_n 0, 1) := by decide +kernel
theorem dJ6_bitCount_0f7a4_36 : decode cJ6_bitCount_0f7a4 36 = .ok (.bipush 8, 2) := by decide +kernel
theorem dJ6_bitCount_0f7a4_38 : decode cJ6_bitCount_0f7a4 38 = .ok (.iushr, 1) := by decide +kernel
theorem dJ6_bitCount_0f7a4_39 : decode cJ6_bitCount_0f7a4 39 = .ok (.iadd, 1) := by decide +kernel
theorem dJ6_bitCount_0f7a4_40 : decode cJ6_bitCount_0f7a4 40 = .ok (.istore_n 0, 1) := by decide +kernel
theorem dJ6_bitCount_0f7a4_41 : decode cJ6_bitCount_0f7a4 41 = .ok (.iload_n 0, 1) := by decide +kernel
theorem dJ6_bitCount_0f7a4_42 : decode cJ6_bitCount_0f7a4 42 = .ok (.iload_n 0, 1) := by decide +kernel
theorem dJ6_bitCount_0f7a4_43 : decode cJ6_bitCount_0f7a4 43 = .ok (.bipush 16, 2) := by decide +kernel
theorem dJ6_bitCount_0f7a4_45 : decode cJ6_bitCount_0f7a4 45 = .ok (.iushr, 1) := by decide +kernel
theorem dJ6_bitCount_0f7a4_46 : decode cJ6_bitCount_0f7a4 46 = .ok (.iadd, 1) := by decide +kernel
theorem dJ6_bitCount_0f7a4_47 : decode cJ6_bitCount_0f7a4 47 = .ok (.istore_n 0, 1) := by decide +kernel
theorem dJ6_bitCount_0f7a4_48 : decode cJ6_bitCount_0f7a4 48 = .ok (.iload_n 0, 1) := by decide +kernel
theorem dJ6_bitCount_0f7a4_49 : decode cJ6_bitCount_0f7a4 49 = .ok (.bipush 63, 2) := by decide +kernel
theorem dJ6_bitCount_0f7a4_51 : decode cJ6_bitCount_0f7a4 51 = .ok (.iand, 1) := by decide +kernel
theorem dJ6_bitCount_0f7a4_52 : decode cJ6_bitCount_0f7a4 52 = .ok (.ireturn, 1) := by decide +kernel
theorem dJ13_bitCount_95d88_0 : decode cJ13_bitCount_95d88 0 = .ok (.lload_n 0, 1) := by decide +kernel
theorem dJ13_bitCount_95d88_1 : decode cJ13_bitCount_95d88 1 = .ok (.lload_n 0, 1) := by decide +kernel
theorem dJ13_bitCount_95d88_2 : decode cJ13_bitCount_95d88 2 = .ok (.iconst 1, 1) := by decide +kernel
theorem dJ13_bitCount_95d88_3 : decode cJ13_bitCount_95d88 3 = .ok (.lushr, 1) := by decide +kernel
theorem dJ13_bitCount_95d88_4 : decode cJ13_bitCount_95d88 4 = .ok (.ldc2_w 314, 3) := by decide +kernel
theorem dJ13_bitCount_95d88_7 : decode cJ13_bitCount_95d88 7 = .ok (.land, 1) := by decide +kernel
theorem dJ13_bitCount_95d88_8 : decode cJ13_bitCount_95d88 8 = .ok (.lsub, 1) := by decide +kernel
theorem dJ13_bitCount_95d88_9 : decode cJ13_bitCount_95d88 9 = .ok (.lstore_n 0, 1) := by decide +kernel
theorem dJ13_bitCount_95d88_10 : decode cJ13_bitCount_95d88 10 = .ok (.lload_n 0, 1) := by decide +kernel
theorem dJ13_bitCount_95d88_11 : decode cJ13_bitCount_95d88 11 = .ok (.ldc2_w 316, 3) := by decide +kernel
theorem dJ13_bitCount_95d88_14 : decode cJ13_bitCount_95d88 14 = .ok (.land, 1) := by decide +kernel
theorem dJ13_bitCount_95d88_15 : decode cJ13_bitCount_95d88 15 = .ok (.lload_n 0, 1) := by decide +kernel
theorem dJ13_bitCount_95d88_16 : decode cJ13_bitCount_95d88 16 = .ok (.iconst 2, 1) := by decide +kernel
theorem dJ13_bitCount_95d88_17 : decode cJ13_bitCount_95d88 17 = .ok (.lushr, 1) := by decide +kernel
theorem dJ13_bitCount_95d88_18 : decode cJ13_bitCount_95d88 18 = .ok (.ldc2_w 316, 3) := by decide +kernel
theorem dJ13_bitCount_95d88_21 : decode cJ13_bitCount_95d88 21 = .ok (.land, 1) := by decide +kernel
theorem dJ13_bitCount_95d88_22 : decode cJ13_bitCount_95d88 22 = .ok (.ladd, 1) := by decide +kernel
theorem dJ13_bitCount_95d88_23 : decode cJ13_bitCount_95d88 23 = .ok (.lstore_n 0, 1) := by decide +kernel
theorem dJ13_bitCount_95d88_24 : decode cJ13_bitCount_95d88 24 = .ok (.lload_n 0, 1) := by decide +kernel
theorem dJ13_bitCount_95d88_25 : decode cJ13_bitCount_95d88 25 = .ok (.lload_n 0, 1) := by decide +kernel
theorem dJ13_bitCount_95d88_26 : decode cJ13_bitCount_95d88 26 = .ok (.iconst 4, 1) := by decide +kernel
theorem dJ13_bitCount_95d88_27 : decode cJ13_bitCount_95d88 27 = .ok (.lushr, 1) := by decide +kernel
theorem dJ13_bitCount_95d88_28 : decode cJ13_bitCount_95d88 28 = .ok (.ladd, 1) := by decide +kernel
theorem dJ13_bitCount_95d88_29 : decode cJ13_bitCount_95d88 29 = .ok (.ldc2_w 318, 3) := by decide +kernel
theorem dJ13_bitCount_95d88_32 : decode cJ13_bitCount_95d88 32 = .ok (.land, 1) := by decide +kernel
theorem dJ13_bitCount_95d88_33 : decode cJ13_bitCount_95d88 33 = .ok (.lstore_n 0, 1) := by decide +kernel
theorem dJ13_bitCount_95d88_34 : decode cJ13_bitCount_95d88 34 = .ok (.lload_n 0, 1) := by decide +kernel
theorem dJ13_bitCount_95d88_35 : decode cJ13_bitCount_95d88 35 = .ok (.lload_n 0, 1) := by decide +kernel
theorem dJ13_bitCount_95d88_36 : decode cJ13_bitCount_95d88 36 = .ok (.bipush 8, 2) := by decide +kernel
theorem dJ13_bitCount_95d88_38 : decode cJ13_bitCount_95d88 38 = .ok (.lushr, 1) := by decide +kernel
theorem dJ13_bitCount_95d88_39 : decode cJ13_bitCount_95d88 39 = .ok (.ladd, 1) := by decide +kernel
theorem dJ13_bitCount_95d88_40 : decode cJ13_bitCount_95d88 40 = .ok (.lstore_n 0, 1) := by decide +kernel
theorem dJ13_bitCount_95d88_41 : decode cJ13_bitCount_95d88 41 = .ok (.lload_n 0, 1) := by decide +kernel
theorem dJ13_bitCount_95d88_42 : decode cJ13_bitCount_95d88 42 = .ok (.lload_n 0, 1) := by decide +kernel
theorem dJ13_bitCount_95d88_43 : decode cJ13_bitCount_95d88 43 = .ok (.bipush 16, 2) := by decide +kernel
theorem dJ13_bitCount_95d88_45 : decode cJ13_bitCount_95d88 45 = .ok (.lushr, 1) := by decide +kernel
theorem dJ13_bitCount_95d88_46 : decode cJ13_bitCount_95d88 46 = .ok (.ladd, 1) := by decide +kernel
theorem dJ13_bitCount_95d88_47 : decode cJ13_bitCount_95d88 47 = .ok (.lstore_n 0, 1) := by decide +kernel
theorem dJ13_bitCount_95d88_48 : decode cJ13_bitCount_95d88 48 = .ok (.lload_n 0, 1) := by decide +kernel
theorem dJ13_bitCount_95d88_49 : decode cJ13_bitCount_95d88 49 = .ok (.lload_n 0, 1) := by decide +kernel
theorem dJ13_bitCount_95d88_50 : decode cJ13_bitCount_95d88 50 = .ok (.bipush 32, 2) := by decide +kernel
theorem dJ13_bitCount_95d88_52 : decode cJ13_bitCount_95d88 52 = .ok (.lushr, 1) := by decide +kernel
theorem dJ13_bitCount_95d88_53 : decode cJ13_bitCount_95d88 53 = .ok (.ladd, 1) := by decide +kernel
theorem dJ13_bitCount_95d88_54 : decode cJ13_bitCount_95d88 54 = .ok (.lstore_n 0, 1) := by decide +kernel
theorem dJ13_bitCount_95d88_55 : decode cJ13_bitCount_95d88 55 = .ok (.lload_n 0, 1) := by decide +kernel
theorem dJ13_bitCount_95d88_56 : decode cJ13_bitCount_95d88 56 = .ok (.l2i, 1) := by decide +kernel
theorem dJ13_bitCount_95d88_57 : decode cJ13_bitCount_95d88 57 = .ok (.bipush 127, 2) := by decide +kernel
theorem dJ13_bitCount_95d88_59 : decode cJ13_bitCount_95d88 59 = .ok (.iand, 1) := by decide +kernel
theorem dJ13_bitCount_95d88_60 : decode cJ13_bitCount_95d88 60 = .ok (.ireturn, 1) := by decide +kernel
theorem dJ9_max_7cf53_0 : decode cJ9_max_7cf53 0 = .ok (.iload_n 0, 1) := by decide +kernel
theorem dJ9_max_7cf53_1 : decode cJ9_max_7cf53 1 = .ok (.iload_n 1, 1) := by decide +kernel
theorem dJ9_max_7cf53_2 : decode cJ9_max_7cf53 2 = .ok (.if_icmp .lt 7, 3) := by decide +kernel
theorem dJ9_max_7cf53_5 : decode cJ9_max_7cf53 5 = .ok (.iload_n 0, 1) := by decide +kernel
theorem dJ9_max_7cf53_6 : decode cJ9_max_7cf53 6 = .ok (.goto 4, 3) := by decide +kernel
theorem dJ9_max_7cf53_9 : decode cJ9_max_7cf53 9 = .ok (.iload_n 1, 1) := by decide +kernel
theorem dJ9_max_7cf53_10 : decode cJ9_max_7cf53 10 = .ok (.ireturn, 1) := by decide +kernel
theorem dJ9_min_7cf53_0 : decode cJ9_min_7cf53 0 = .ok (.iload_n 0, 1) := by decide +kernel
theorem dJ9_min_7cf53_1 : decode cJ9_min_7cf53 1 = .ok (.iload_n 1, 1) := by decide +kernel
theorem dJ9_min_7cf53_2 : decode cJ9_min_7cf53 2 = .ok (.if_icmp .gt 7, 3) := by decide +kernel
theorem dJ9_min_7cf53_5 : decode cJ9_min_7cf53 5 = .ok (.iload_n 0, 1) := by decide +kernel
theorem dJ9_min_7cf53_6 : decode cJ9_min_7cf53 6 = .ok (.goto 4, 3) := by decide +kernel
theorem dJ9_min_7cf53_9 : decode cJ9_min_7cf53 9 = .ok (.iload_n 1, 1) := by decide +kernel
theorem dJ9_min_7cf53_10 : decode cJ9_min_7cf53 10 = .ok (.ireturn, 1) := by decide +kernel
theorem dJ7_fill_53178_0 : decode cJ7_fill_53178 0 = .ok (.iconst 0, 1) := by decide +kernel
theorem dJ7_fill_53178_1 : decode cJ7_fill_53178 1 = .ok (.istore_n 2, 1) := by decide +kernel
theorem dJ7_fill_53178_2 : decode cJ7_fill_53178 2 = .ok (.aload_n 0, 1) := by decide +kernel
theorem dJ7_fill_53178_3 : decode cJ7_fill_53178 3 = .ok (.arraylength, 1) := by decide +kernel
theorem dJ7_fill_53178_4 : decode cJ7_fill_53178 4 = .ok (.istore_n 3, 1) := by decide +kernel
theorem dJ7_fill_53178_5 : decode cJ7_fill_53178 5 = .ok (.iload_n 2, 1) := by decide +kernel
theorem dJ7_fill_53178_6 : decode cJ7_fill_53178 6 = .ok (.iload_n 3, 1) := by decide +kernel
theorem dJ7_fill_53178_7 : decode cJ7_fill_53178 7 = .ok (.if_icmp .ge 13, 3) := by decide +kernel
theorem dJ7_fill_53178_10 : decode cJ7_fill_53178 10 = .ok (.aload_n 0, 1) := by decide +kernel
theorem dJ7_fill_53178_11 : decode cJ7_fill_53178 11 = .ok (.iload_n 2, 1) := by decide +kernel
theorem dJ7_fill_53178_12 : decode cJ7_fill_53178 12 = .ok (.iload_n 1, 1) := by decide +kernel
theorem dJ7_fill_53178_13 : decode cJ7_fill_53178 13 = .ok (.iastore, 1) := by decide +kernel
theorem dJ7_fill_53178_14 : decode cJ7_fill_53178 14 = .ok (.iinc 2 1, 3) := by decide +kernel
theorem dJ7_fill_53178_17 : decode cJ7_fill_53178 17 = .ok (.goto (-12), 3) := by decide +kernel
theorem dJ7_fill_53178_20 : decode cJ7_fill_53178 20 = .ok (.return_, 1) := by decide +kernel
