theorem dX0_around_0 : decode cX0_around 0 = .ok (.lload_n 0, 1) := by decide +kernel
theorem dX0_around_1 : decode cX0_around 1 = .ok (.ldc2_w 11, 3) := by decide +kernel
theorem dX0_around_4 : decode cX0_around 4 = .ok (.land, 1) := by decide +kernel
theorem dX0_around_5 : decode cX0_around 5 = .ok (.iconst 1, 1) := by decide +kernel
theorem dX0_around_6 : decode cX0_around 6 = .ok (.lshl, 1) := by decide +kernel
theorem dX0_around_7 : decode cX0_around 7 = .ok (.lload_n 0, 1) := by decide +kernel
theorem dX0_around_8 : decode cX0_around 8 = .ok (.ldc2_w 13, 3) := by decide +kernel
theorem dX0_around_11 : decode cX0_around 11 = .ok (.land, 1) := by decide +kernel
theorem dX0_around_12 : decode cX0_around 12 = .ok (.iconst 1, 1) := by decide +kernel
theorem dX0_around_13 : decode cX0_around 13 = .ok (.lushr, 1) := by decide +kernel
theorem dX0_around_14 : decode cX0_around 14 = .ok (.lor, 1) := by decide +kernel
theorem dX0_around_15 : decode cX0_around 15 = .ok (.lstore_n 2, 1) := by decide +kernel
theorem dX0_around_16 : decode cX0_around 16 = .ok (.lload_n 0, 1) := by decide +kernel
theorem dX0_around_17 : decode cX0_around 17 = .ok (.bipush 7, 2) := by decide +kernel
theorem dX0_around_19 : decode cX0_around 19 = .ok (.lshl, 1) := by decide +kernel
theorem dX0_around_20 : decode cX0_around 20 = .ok (.lload_n 0, 1) := by decide +kernel
theorem dX0_around_21 : decode cX0_around 21 = .ok (.bipush 7, 2) := by decide +kernel
theorem dX0_around_23 : decode cX0_around 23 = .ok (.lushr, 1) := by decide +kernel
theorem dX0_around_24 : decode cX0_around 24 = .ok (.lor, 1) := by decide +kernel
theorem dX0_around_25 : decode cX0_around 25 = .ok (.lload_n 2, 1) := by decide +kernel
theorem dX0_around_26 : decode cX0_around 26 = .ok (.lor, 1) := by decide +kernel
theorem dX0_around_27 : decode cX0_around 27 = .ok (.ldc2_w 15, 3) := by decide +kernel
theorem dX0_around_30 : decode cX0_around 30 = .ok (.land, 1) := by decide +kernel
theorem dX0_around_31 : decode cX0_around 31 = .ok (.lreturn, 1) := by decide +kernel
theorem dX0_flood_0 : decode cX0_flood 0 = .ok (.lload_n 0, 1) := by decide +kernel
theorem dX0_flood_1 : decode cX0_flood 1 = .ok (.lload_n 2, 1) := by decide +kernel
theorem dX0_flood_2 : decode cX0_flood 2 = .ok (.land, 1) := by decide +kernel
theorem dX0_flood_3 : decode cX0_flood 3 = .ok (.lstore 4, 2) := by decide +kernel
theorem dX0_flood_5 : decode cX0_flood 5 = .ok (.iconst 0, 1) := by decide +kernel
theorem dX0_flood_6 : decode cX0_flood 6 = .ok (.istore 6, 2) := by decide +kernel
theorem dX0_flood_8 : decode cX0_flood 8 = .ok (.iload 6, 2) := by decide +kernel
theorem dX0_flood_10 : decode cX0_flood 10 = .ok (.bipush 49, 2) := by decide +kernel
theorem dX0_flood_12 : decode cX0_flood 12 = .ok (.if_icmp .ge 36, 3) := by decide +kernel
theorem dX0_flood_15 : decode cX0_flood 15 = .ok (.lload 4, 2) := by decide +kernel
theorem dX0_flood_17 : decode cX0_flood 17 = .ok (.lload 4, 2) := by decide +kernel
theorem dX0_flood_19 : decode cX0_flood 19 = .ok (.invokestatic 17, 3) := by decide +kernel
theorem dX0_flood_22 : decode cX0_flood 22 = .ok (.lload_n 2, 1) := by decide +kernel
theorem dX0_flood_23 : decode cX0_flood 23 = .ok (.land, 1) := by decide +kernel
theorem dX0_flood_24 : decode cX0_flood 24 = .ok (.lor, 1) := by decide +kernel
theorem dX0_flood_25 : decode cX0_flood 25 = .ok (.lstore 7, 2) := by decide +kernel
theorem dX0_flood_27 : decode cX0_flood 27 = .ok (.lload 7, 2) := by decide +kernel
theorem dX0_flood_29 : decode cX0_flood 29 = .ok (.lload 4, 2) := by decide +kernel
theorem dX0_flood_31 : decode cX0_flood 31 = .ok (.lcmp, 1) := by decide +kernel
theorem dX0_flood_32 : decode cX0_flood 32 = .ok (.ifCond .ne 6, 3) := by decide +kernel
theorem dX0_flood_35 : decode cX0_flood 35 = .ok (.goto 13, 3) := by decide +kernel
theorem dX0_flood_38 : decode cX0_flood 38 = .ok (.lload 7, 2) := by decide +kernel
theorem dX0_flood_40 : decode cX0_flood 40 = .ok (.lstore 4, 2) := by decide +kernel
theorem dX0_flood_42 : decode cX0_flood 42 = .ok (.iinc 6 1, 3) := by decide +kernel
theorem dX0_flood_45 : decode cX0_flood 45 = .ok (.goto (-37), 3) := by decide +kernel
theorem dX0_flood_48 : decode cX0_flood 48 = .ok (.lload 4, 2) := by decide +kernel
theorem dX0_flood_50 : decode cX0_flood 50 = .ok (.lreturn, 1) := by decide +kernel
theorem dX0_libertiesOf_0 : decode cX0_libertiesOf 0 = .ok (.lload_n 0, 1) := by decide +kernel
theorem dX0_libertiesOf_1 : decode cX0_libertiesOf 1 = .ok (.invokestatic 17, 3) := by decide +kernel
theorem dX0_libertiesOf_4 : decode cX0_libertiesOf 4 = .ok (.lload_n 2, 1) := by decide +kernel
theorem dX0_libertiesOf_5 : decode cX0_libertiesOf 5 = .ok (.ldc2_w 21, 3) := by decide +kernel
theorem dX0_libertiesOf_8 : decode cX0_libertiesOf 8 = .ok (.lxor, 1) := by decide +kernel
theorem dX0_libertiesOf_9 : decode cX0_libertiesOf 9 = .ok (.land, 1) := by decide +kernel
theorem dX0_libertiesOf_10 : decode cX0_libertiesOf 10 = .ok (.lreturn, 1) := by decide +kernel
theorem dX0_leftBehind_0 : decode cX0_leftBehind 0 = .ok (.lload_n 0, 1) := by decide +kernel
theorem dX0_leftBehind_1 : decode cX0_leftBehind 1 = .ok (.lload_n 2, 1) := by decide +kernel
theorem dX0_leftBehind_2 : decode cX0_leftBehind 2 = .ok (.lor, 1) := by decide +kernel
theorem dX0_leftBehind_3 : decode cX0_leftBehind 3 = .ok (.lload 4, 2) := by decide +kernel
theorem dX0_leftBehind_5 : decode cX0_leftBehind 5 = .ok (.land, 1) := by decide +kernel
theorem dX0_leftBehind_6 : decode cX0_leftBehind 6 = .ok (.lconst 0, 1) := by decide +kernel
theorem dX0_leftBehind_7 : decode cX0_leftBehind 7 = .ok (.lcmp, 1) := by decide +kernel
theorem dX0_leftBehind_8 : decode cX0_leftBehind 8 = .ok (.ifCond .eq 7, 3) := by decide +kernel
theorem dX0_leftBehind_11 : decode cX0_leftBehind 11 = .ok (.ldc2_w 21, 3) := by decide +kernel
theorem dX0_leftBehind_14 : decode cX0_leftBehind 14 = .ok (.lreturn, 1) := by decide +kernel
theorem dX0_leftBehind_15 : decode cX0_leftBehind 15 = .ok (.lload_n 0, 1) := by decide +kernel
theorem dX0_leftBehind_16 : decode cX0_leftBehind 16 = .ok (.lload 4, 2) := by decide +kernel
theorem dX0_leftBehind_18 : decode cX0_leftBehind 18 = .ok (.lor, 1) := by decide +kernel
theorem dX0_leftBehind_19 : decode cX0_leftBehind 19 = .ok (.lstore 6, 2) := by decide +kernel
theorem dX0_leftBehind_21 : decode cX0_leftBehind 21 = .ok (.ldc2_w 15, 3) := by decide +kernel
theorem dX0_leftBehind_24 : decode cX0_leftBehind 24 = .ok (.lload 6, 2) := by decide +kernel
theorem dX0_leftBehind_26 : decode cX0_leftBehind 26 = .ok (.lload_n 2, 1) := by decide +kernel
theorem dX0_leftBehind_27 : decode cX0_leftBehind 27 = .ok (.lor, 1) := by decide +kernel
theorem dX0_leftBehind_28 : decode cX0_leftBehind 28 = .ok (.ldc2_w 21, 3) := by decide +kernel
theorem dX0_leftBehind_31 : decode cX0_leftBehind 31 = .ok (.lxor, 1) := by decide +kernel
theorem dX0_leftBehind_32 : decode cX0_leftBehind 32 = .ok (.land, 1) := by decide +kernel
theorem dX0_leftBehind_33 : decode cX0_leftBehind 33 = .ok (.invokestatic 17, 3) := by decide +kernel
theorem dX0_leftBehind_36 : decode cX0_leftBehind 36 = .ok (.lload_n 2, 1) := by decide +kernel
theorem dX0_leftBehind_37 : decode cX0_leftBehind 37 = .ok (.invokestatic 23, 3) := by decide +kernel
theorem dX0_leftBehind_40 : decode cX0_leftBehind 40 = .ok (.lstore 8, 2) := by decide +kernel
theorem dX0_leftBehind_42 : decode cX0_leftBehind 42 = .ok (.lload 4, 2) := by decide +kernel
theorem dX0_leftBehind_44 : decode cX0_leftBehind 44 = .ok (.lload 6, 2) := by decide +kernel
theorem dX0_leftBehind_46 : decode cX0_leftBehind 46 = .ok (.invokestatic 23, 3) := by decide +kernel
theorem dX0_leftBehind_49 : decode cX0_leftBehind 49 = .ok (.lstore 10, 2) := by decide +kernel
theorem dX0_leftBehind_51 : decode cX0_leftBehind 51 = .ok (.lload 10, 2) := by decide +kernel
theorem dX0_leftBehind_53 : decode cX0_leftBehind 53 = .ok (.lload 6, 2) := by decide +kernel
theorem dX0_leftBehind_55 : decode cX0_leftBehind 55 = .ok (.lload 8, 2) := by decide +kernel
theorem dX0_leftBehind_57 : decode cX0_leftBehind 57 = .ok (.lor, 1) := by decide +kernel
theorem dX0_leftBehind_58 : decode cX0_leftBehind 58 = .ok (.invokestatic 27, 3) := by decide +kernel
theorem dX0_leftBehind_61 : decode cX0_leftBehind 61 = .ok (.lconst 0, 1) := by decide +kernel
theorem dX0_leftBehind_62 : decode cX0_leftBehind 62 = .ok (.lcmp, 1) := by decide +kernel
theorem dX0_leftBehind_63 : decode cX0_leftBehind 63 = .ok (.ifCond .ne 9, 3) := by decide +kernel
theorem dX0_leftBehind_66 : decode cX0_leftBehind 66 = .ok (.ldc2_w 21, 3) := by decide +kernel
theorem dX0_leftBehind_69 : decode cX0_leftBehind 69 = .ok (.goto 5, 3) := by decide +kernel
theorem dX0_leftBehind_72 : decode cX0_leftBehind 72 = .ok (.lload 8, 2) := by decide +kernel
theorem dX0_leftBehind_74 : decode cX0_leftBehind 74 = .ok (.lreturn, 1) := by decide +kernel
theorem dX0_lead_0 : decode cX0_lead 0 = .ok (.ldc2_w 15, 3) := by decide +kernel
theorem dX0_lead_3 : decode cX0_lead 3 = .ok (.lload_n 0, 1) := by decide +kernel
theorem dX0_lead_4 : decode cX0_lead 4 = .ok (.lload_n 2, 1) := by decide +kernel
theorem dX0_lead_5 : decode cX0_lead 5 = .ok (.lor, 1) := by decide +kernel
theorem dX0_lead_6 : decode cX0_lead 6 = .ok (.ldc2_w 21, 3) := by decide +kernel
theorem dX0_lead_9 : decode cX0_lead 9 = .ok (.lxor, 1) := by decide +kernel
theorem dX0_lead_10 : decode cX0_lead 10 = .ok (.land, 1) := by decide +kernel
theorem dX0_lead_11 : decode cX0_lead 11 = .ok (.lstore 4, 2) := by decide +kernel
theorem dX0_lead_13 : decode cX0_lead 13 = .ok (.lload_n 0, 1) := by decide +kernel
theorem dX0_lead_14 : decode cX0_lead 14 = .ok (.invokestatic 17, 3) := by decide +kernel
theorem dX0_lead_17 : decode cX0_lead 17 = .ok (.lload 4, 2) := by decide +kernel
theorem dX0_lead_19 : decode cX0_lead 19 = .ok (.invokestatic 23, 3) := by decide +kernel
theorem dX0_lead_22 : decode cX0_lead 22 = .ok (.lstore 6, 2) := by decide +kernel
theorem dX0_lead_24 : decode cX0_lead 24 = .ok (.lload_n 2, 1) := by decide +kernel
theorem dX0_lead_25 : decode cX0_lead 25 = .ok (.invokestatic 17, 3) := by decide +kernel
theorem dX0_lead_28 : decode cX0_lead 28 = .ok (.lload 4, 2) := by decide +kernel
theorem dX0_lead_30 : decode cX0_lead 30 = .ok (.invokestatic 23, 3) := by decide +kernel
theorem dX0_lead_33 : decode cX0_lead 33 = .ok (.lstore 8, 2) := by decide +kernel
theorem dX0_lead_35 : decode cX0_lead 35 = .ok (.lload_n 0, 1) := by decide +kernel
theorem dX0_lead_36 : decode cX0_lead 36 = .ok (.lload 6, 2) := by decide +kernel
theorem dX0_lead_38 : decode cX0_lead 38 = .ok (.lload 8, 2) := by decide +kernel
theorem dX0_lead_40 : decode cX0_lead 40 = .ok (.ldc2_w 21, 3) := by decide +kernel
theorem dX0_lead_43 : decode cX0_lead 43 = .ok (.lxor, 1) := by decide +kernel
theorem dX0_lead_44 : decode cX0_lead 44 = .ok (.land, 1) := by decide +kernel
theorem dX0_lead_45 : decode cX0_lead 45 = .ok (.lor, 1) := by decide +kernel
theorem dX0_lead_46 : decode cX0_lead 46 = .ok (.invokestatic 30, 3) := by decide +kernel
theorem dX0_lead_49 : decode cX0_lead 49 = .ok (.lload_n 2, 1) := by decide +kernel
theorem dX0_lead_50 : decode cX0_lead 50 = .ok (.lload 8, 2) := by decide +kernel
theorem dX0_lead_52 : decode cX0_lead 52 = .ok (.lload 6, 2) := by decide +kernel
theorem dX0_lead_54 : decode cX0_lead 54 = .ok (.ldc2_w 21, 3) := by decide +kernel
theorem dX0_lead_57 : decode cX0_lead 57 = .ok (.lxor, 1) := by decide +kernel
theorem dX0_lead_58 : decode cX0_lead 58 = .ok (.land, 1) := by decide +kernel
theorem dX0_lead_59 : decode cX0_lead 59 = .ok (.lor, 1) := by decide +kernel
theorem dX0_lead_60 : decode cX0_lead 60 = .ok (.invokestatic 30, 3) := by decide +kernel
theorem dX0_lead_63 : decode cX0_lead 63 = .ok (.isub, 1) := by decide +kernel
theorem dX0_lead_64 : decode cX0_lead 64 = .ok (.ireturn, 1) := by decide +kernel
theorem dX1_init_0 : decode cX1_init 0 = .ok (.aload_n 0, 1) := by decide +kernel
theorem dX1_init_1 : decode cX1_init 1 = .ok (.invokespecial 1, 3) := by decide +kernel
theorem dX1_init_4 : decode cX1_init 4 = .ok (.aload_n 0, 1) := by decide +kernel
theorem dX1_init_5 : decode cX1_init 5 = .ok (.iload_n 1, 1) := by decide +kernel
theorem dX1_init_6 : decode cX1_init 6 = .ok (.putfield 7, 3) := by decide +kernel
theorem dX1_init_9 : decode cX1_init 9 = .ok (.aload_n 0, 1) := by decide +kernel
theorem dX1_init_10 : decode cX1_init 10 = .ok (.iload_n 2, 1) := by decide +kernel
theorem dX1_init_11 : decode cX1_init 11 = .ok (.putfield 13, 3) := by decide +kernel
theorem dX1_init_14 : decode cX1_init 14 = .ok (.aload_n 0, 1) := by decide +kernel
theorem dX1_init_15 : decode cX1_init 15 = .ok (.iload_n 3, 1) := by decide +kernel
theorem dX1_init_16 : decode cX1_init 16 = .ok (.putfield 16, 3) := by decide +kernel
theorem dX1_init_19 : decode cX1_init 19 = .ok (.return_, 1) := by decide +kernel
theorem dX1_take_0 : decode cX1_take 0 = .ok (.iload_n 1, 1) := by decide +kernel
theorem dX1_take_1 : decode cX1_take 1 = .ok (.aload_n 0, 1) := by decide +kernel
theorem dX1_take_2 : decode cX1_take 2 = .ok (.getfield 7, 3) := by decide +kernel
theorem dX1_take_5 : decode cX1_take 5 = .ok (.if_icmp .gt 15, 3) := by decide +kernel
theorem dX1_take_8 : decode cX1_take 8 = .ok (.aload_n 0, 1) := by decide +kernel
theorem dX1_take_9 : decode cX1_take 9 = .ok (.dup, 1) := by decide +kernel
theorem dX1_take_10 : decode cX1_take 10 = .ok (.getfield 7, 3) := by decide +kernel
theorem dX1_take_13 : decode cX1_take 13 = .ok (.iload_n 1, 1) := by decide +kernel
theorem dX1_take_14 : decode cX1_take 14 = .ok (.isub, 1) := by decide +kernel
theorem dX1_take_15 : decode cX1_take 15 = .ok (.putfield 7, 3) := by decide +kernel
theorem dX1_take_18 : decode cX1_take 18 = .ok (.iconst 1, 1) := by decide +kernel
theorem dX1_take_19 : decode cX1_take 19 = .ok (.ireturn, 1) := by decide +kernel
theorem dX1_take_20 : decode cX1_take 20 = .ok (.iload_n 1, 1) := by decide +kernel
theorem dX1_take_21 : decode cX1_take 21 = .ok (.aload_n 0, 1) := by decide +kernel
theorem dX1_take_22 : decode cX1_take 22 = .ok (.getfield 7, 3) := by decide +kernel
theorem dX1_take_25 : decode cX1_take 25 = .ok (.isub, 1) := by decide +kernel
theorem dX1_take_26 : decode cX1_take 26 = .ok (.istore_n 2, 1) := by decide +kernel
theorem dX1_take_27 : decode cX1_take 27 = .ok (.aload_n 0, 1) := by decide +kernel
theorem dX1_take_28 : decode cX1_take 28 = .ok (.iconst 0, 1) := by decide +kernel
theorem dX1_take_29 : decode cX1_take 29 = .ok (.putfield 7, 3) := by decide +kernel
theorem dX1_take_32 : decode cX1_take 32 = .ok (.aload_n 0, 1) := by decide +kernel
theorem dX1_take_33 : decode cX1_take 33 = .ok (.getfield 16, 3) := by decide +kernel
theorem dX1_take_36 : decode cX1_take 36 = .ok (.iconst 1, 1) := by decide +kernel
theorem dX1_take_37 : decode cX1_take 37 = .ok (.if_icmp .ge 10, 3) := by decide +kernel
theorem dX1_take_40 : decode cX1_take 40 = .ok (.aload_n 0, 1) := by decide +kernel
theorem dX1_take_41 : decode cX1_take 41 = .ok (.getfield 13, 3) := by decide +kernel
theorem dX1_take_44 : decode cX1_take 44 = .ok (.goto 11, 3) := by decide +kernel
theorem dX1_take_47 : decode cX1_take 47 = .ok (.iload_n 2, 1) := by decide +kernel
theorem dX1_take_48 : decode cX1_take 48 = .ok (.iconst 1, 1) := by decide +kernel
theorem dX1_take_49 : decode cX1_take 49 = .ok (.isub, 1) := by decide +kernel
theorem dX1_take_50 : decode cX1_take 50 = .ok (.aload_n 0, 1) := by decide +kernel
theorem dX1_take_51 : decode cX1_take 51 = .ok (.getfield 16, 3) := by decide +kernel
theorem dX1_take_54 : decode cX1_take 54 = .ok (.idiv, 1) := by decide +kernel
theorem dX1_take_55 : decode cX1_take 55 = .ok (.istore_n 3, 1) := by decide +kernel
theorem dX1_take_56 : decode cX1_take 56 = .ok (.aload_n 0, 1) := by decide +kernel
theorem dX1_take_57 : decode cX1_take 57 = .ok (.iconst 0, 1) := by decide +kernel
theorem dX1_take_58 : decode cX1_take 58 = .ok (.aload_n 0, 1) := by decide +kernel
theorem dX1_take_59 : decode cX1_take 59 = .ok (.getfield 13, 3) := by decide +kernel
theorem dX1_take_62 : decode cX1_take 62 = .ok (.iload_n 3, 1) := by decide +kernel
theorem dX1_take_63 : decode cX1_take 63 = .ok (.isub, 1) := by decide +kernel
theorem dX1_take_64 : decode cX1_take 64 = .ok (.invokestatic 19, 3) := by decide +kernel
theorem dX1_take_67 : decode cX1_take 67 = .ok (.putfield 13, 3) := by decide +kernel
theorem dX1_take_70 : decode cX1_take 70 = .ok (.aload_n 0, 1) := by decide +kernel
theorem dX1_take_71 : decode cX1_take 71 = .ok (.getfield 13, 3) := by decide +kernel
theorem dX1_take_74 : decode cX1_take 74 = .ok (.ifCond .le 7, 3) := by decide +kernel
theorem dX1_take_77 : decode cX1_take 77 = .ok (.iconst 1, 1) := by decide +kernel
theorem dX1_take_78 : decode cX1_take 78 = .ok (.goto 4, 3) := by decide +kernel
theorem dX1_take_81 : decode cX1_take 81 = .ok (.iconst 0, 1) := by decide +kernel
theorem dX1_take_82 : decode cX1_take 82 = .ok (.ireturn, 1) := by decide +kernel
theorem dX1_reading_0 : decode cX1_reading 0 = .ok (.bipush 10, 2) := by decide +kernel
theorem dX1_reading_2 : decode cX1_reading 2 = .ok (.aload_n 0, 1) := by decide +kernel
theorem dX1_reading_3 : decode cX1_reading 3 = .ok (.getfield 7, 3) := by decide +kernel
theorem dX1_reading_6 : decode cX1_reading 6 = .ok (.imul, 1) := by decide +kernel
theorem dX1_reading_7 : decode cX1_reading 7 = .ok (.aload_n 0, 1) := by decide +kernel
theorem dX1_reading_8 : decode cX1_reading 8 = .ok (.getfield 13, 3) := by decide +kernel
theorem dX1_reading_11 : decode cX1_reading 11 = .ok (.iadd, 1) := by decide +kernel
theorem dX1_reading_12 : decode cX1_reading 12 = .ok (.ireturn, 1) := by decide +kernel
theorem dX2_init_0 : decode cX2_init 0 = .ok (.aload_n 0, 1) := by decide +kernel
theorem dX2_init_1 : decode cX2_init 1 = .ok (.invokespecial 3, 3) := by decide +kernel
theorem dX2_init_4 : decode cX2_init 4 = .ok (.aload_n 0, 1) := by decide +kernel
theorem dX2_init_5 : decode cX2_init 5 = .ok (.bipush 8, 2) := by decide +kernel
theorem dX2_init_7 : decode cX2_init 7 = .ok (.newarray .int, 2) := by decide +kernel
theorem dX2_init_9 : decode cX2_init 9 = .ok (.putfield 9, 3) := by decide +kernel
theorem dX2_init_12 : decode cX2_init 12 = .ok (.aload_n 0, 1) := by decide +kernel
theorem dX2_init_13 : decode cX2_init 13 = .ok (.bipush 16, 2) := by decide +kernel
theorem dX2_init_15 : decode cX2_init 15 = .ok (.anewarray 15, 3) := by decide +kernel
theorem dX2_init_18 : decode cX2_init 18 = .ok (.putfield 17, 3) := by decide +kernel
theorem dX2_init_21 : decode cX2_init 21 = .ok (.aload_n 0, 1) := by decide +kernel
theorem dX2_init_22 : decode cX2_init 22 = .ok (.bipush 16, 2) := by decide +kernel
theorem dX2_init_24 : decode cX2_init 24 = .ok (.anewarray 15, 3) := by decide +kernel
theorem dX2_init_27 : decode cX2_init 27 = .ok (.putfield 21, 3) := by decide +kernel
theorem dX2_init_30 : decode cX2_init 30 = .ok (.return_, 1) := by decide +kernel
theorem dX2_hasPlayer_0 : decode cX2_hasPlayer 0 = .ok (.iload_n 1, 1) := by decide +kernel
theorem dX2_hasPlayer_1 : decode cX2_hasPlayer 1 = .ok (.ifCond .lt 15, 3) := by decide +kernel
theorem dX2_hasPlayer_4 : decode cX2_hasPlayer 4 = .ok (.iload_n 1, 1) := by decide +kernel
theorem dX2_hasPlayer_5 : decode cX2_hasPlayer 5 = .ok (.aload_n 0, 1) := by decide +kernel
theorem dX2_hasPlayer_6 : decode cX2_hasPlayer 6 = .ok (.getfield 24, 3) := by decide +kernel
theorem dX2_hasPlayer_9 : decode cX2_hasPlayer 9 = .ok (.if_icmp .ge 7, 3) := by decide +kernel
theorem dX2_hasPlayer_12 : decode cX2_hasPlayer 12 = .ok (.iconst 1, 1) := by decide +kernel
theorem dX2_hasPlayer_13 : decode cX2_hasPlayer 13 = .ok (.goto 4, 3) := by decide +kernel
theorem dX2_hasPlayer_16 : decode cX2_hasPlayer 16 = .ok (.iconst 0, 1) := by decide +kernel
theorem dX2_hasPlayer_17 : decode cX2_hasPlayer 17 = .ok (.ireturn, 1) := by decide +kernel
theorem dX2_enrol_0 : decode cX2_enrol 0 = .ok (.aload_n 0, 1) := by decide +kernel
theorem dX2_enrol_1 : decode cX2_enrol 1 = .ok (.getfield 24, 3) := by decide +kernel
theorem dX2_enrol_4 : decode cX2_enrol 4 = .ok (.ifCond .lt 15, 3) := by decide +kernel
theorem dX2_enrol_7 : decode cX2_enrol 7 = .ok (.aload_n 0, 1) := by decide +kernel
theorem dX2_enrol_8 : decode cX2_enrol 8 = .ok (.getfield 24, 3) := by decide +kernel
theorem dX2_enrol_11 : decode cX2_enrol 11 = .ok (.aload_n 0, 1) := by decide +kernel
theorem dX2_enrol_12 : decode cX2_enrol 12 = .ok (.getfield 9, 3) := by decide +kernel
theorem dX2_enrol_15 : decode cX2_enrol 15 = .ok (.arraylength, 1) := by decide +kernel
theorem dX2_enrol_16 : decode cX2_enrol 16 = .ok (.if_icmp .lt 5, 3) := by decide +kernel
theorem dX2_enrol_19 : decode cX2_enrol 19 = .ok (.iconst (-1), 1) := by decide +kernel
theorem dX2_enrol_20 : decode cX2_enrol 20 = .ok (.ireturn, 1) := by decide +kernel
theorem dX2_enrol_21 : decode cX2_enrol 21 = .ok (.aload_n 0, 1) := by decide +kernel
theorem dX2_enrol_22 : decode cX2_enrol 22 = .ok (.getfield 9, 3) := by decide +kernel
theorem dX2_enrol_25 : decode cX2_enrol 25 = .ok (.aload_n 0, 1) := by decide +kernel
theorem dX2_enrol_26 : decode cX2_enrol 26 = .ok (.getfield 24, 3) := by decide +kernel
theorem dX2_enrol_29 : decode cX2_enrol 29 = .ok (.iload_n 1, 1) := by decide +kernel
theorem dX2_enrol_30 : decode cX2_enrol 30 = .ok (.iastore, 1) := by decide +kernel
theorem dX2_enrol_31 : decode cX2_enrol 31 = .ok (.aload_n 0, 1) := by decide +kernel
theorem dX2_enrol_32 : decode cX2_enrol 32 = .ok (.dup, 1) := by decide +kernel
theorem dX2_enrol_33 : decode cX2_enrol 33 = .ok (.getfield 24, 3) := by decide +kernel
theorem dX2_enrol_36 : decode cX2_enrol 36 = .ok (.dup_x1, 1) := by decide +kernel
theorem dX2_enrol_37 : decode cX2_enrol 37 = .ok (.iconst 1, 1) := by decide +kernel
theorem dX2_enrol_38 : decode cX2_enrol 38 = .ok (.iadd, 1) := by decide +kernel
theorem dX2_enrol_39 : decode cX2_enrol 39 = .ok (.putfield 24, 3) := by decide +kernel
theorem dX2_enrol_42 : decode cX2_enrol 42 = .ok (.ireturn, 1) := by decide +kernel
theorem dX2_matchAt_0 : decode cX2_matchAt 0 = .ok (.iload_n 1, 1) := by decide +kernel
theorem dX2_matchAt_1 : decode cX2_matchAt 1 = .ok (.ifCond .lt 12, 3) := by decide +kernel
theorem dX2_matchAt_4 : decode cX2_matchAt 4 = .ok (.iload_n 1, 1) := by decide +kernel
theorem dX2_matchAt_5 : decode cX2_matchAt 5 = .ok (.aload_n 0, 1) := by decide +kernel
theorem dX2_matchAt_6 : decode cX2_matchAt 6 = .ok (.getfield 17, 3) := by decide +kernel
theorem dX2_matchAt_9 : decode cX2_matchAt 9 = .ok (.arraylength, 1) := by decide +kernel
theorem dX2_matchAt_10 : decode cX2_matchAt 10 = .ok (.if_icmp .lt 7, 3) := by decide +kernel
theorem dX2_matchAt_13 : decode cX2_matchAt 13 = .ok (.aconst_null, 1) := by decide +kernel
theorem dX2_matchAt_14 : decode cX2_matchAt 14 = .ok (.goto 9, 3) := by decide +kernel
theorem dX2_matchAt_17 : decode cX2_matchAt 17 = .ok (.aload_n 0, 1) := by decide +kernel
theorem dX2_matchAt_18 : decode cX2_matchAt 18 = .ok (.getfield 17, 3) := by decide +kernel
theorem dX2_matchAt_21 : decode cX2_matchAt 21 = .ok (.iload_n 1, 1) := by decide +kernel
theorem dX2_matchAt_22 : decode cX2_matchAt 22 = .ok (.aaload, 1) := by decide +kernel
theorem dX2_matchAt_23 : decode cX2_matchAt 23 = .ok (.areturn, 1) := by decide +kernel
theorem dX2_begin_0 : decode cX2_begin 0 = .ok (.aload_n 0, 1) := by decide +kernel
theorem dX2_begin_1 : decode cX2_begin 1 = .ok (.iload_n 1, 1) := by decide +kernel
theorem dX2_begin_2 : decode cX2_begin 2 = .ok (.invokevirtual 28, 3) := by decide +kernel
theorem dX2_begin_5 : decode cX2_begin 5 = .ok (.ifCond .ne 30, 3) := by decide +kernel
theorem dX2_begin_8 : decode cX2_begin 8 = .ok (.aload_n 0, 1) := by decide +kernel
theorem dX2_begin_9 : decode cX2_begin 9 = .ok (.iload_n 2, 1) := by decide +kernel
theorem dX2_begin_10 : decode cX2_begin 10 = .ok (.invokevirtual 28, 3) := by decide +kernel
theorem dX2_begin_13 : decode cX2_begin 13 = .ok (.ifCond .ne 22, 3) := by decide +kernel
theorem dX2_begin_16 : decode cX2_begin 16 = .ok (.aload_n 0, 1) := by decide +kernel
theorem dX2_begin_17 : decode cX2_begin 17 = .ok (.getfield 32, 3) := by decide +kernel
theorem dX2_begin_20 : decode cX2_begin 20 = .ok (.ifCond .lt 15, 3) := by decide +kernel
theorem dX2_begin_23 : decode cX2_begin 23 = .ok (.aload_n 0, 1) := by decide +kernel
theorem dX2_begin_24 : decode cX2_begin 24 = .ok (.getfield 32, 3) := by decide +kernel
theorem dX2_begin_27 : decode cX2_begin 27 = .ok (.aload_n 0, 1) := by decide +kernel
theorem dX2_begin_28 : decode cX2_begin 28 = .ok (.getfield 17, 3) := by decide +kernel
theorem dX2_begin_31 : decode cX2_begin 31 = .ok (.arraylength, 1) := by decide +kernel
theorem dX2_begin_32 : decode cX2_begin 32 = .ok (.if_icmp .lt 5, 3) := by decide +kernel
theorem dX2_begin_35 : decode cX2_begin 35 = .ok (.iconst (-1), 1) := by decide +kernel
theorem dX2_begin_36 : decode cX2_begin 36 = .ok (.ireturn, 1) := by decide +kernel
theorem dX2_begin_37 : decode cX2_begin 37 = .ok (.aload_n 0, 1) := by decide +kernel
theorem dX2_begin_38 : decode cX2_begin 38 = .ok (.iload_n 1, 1) := by decide +kernel
theorem dX2_begin_39 : decode cX2_begin 39 = .ok (.iload_n 2, 1) := by decide +kernel
theorem dX2_begin_40 : decode cX2_begin 40 = .ok (.aload_n 0, 1) := by decide +kernel
theorem dX2_begin_41 : decode cX2_begin 41 = .ok (.getfield 35, 3) := by decide +kernel
theorem dX2_begin_44 : decode cX2_begin 44 = .ok (.invokevirtual 38, 3) := by decide +kernel
theorem dX2_begin_47 : decode cX2_begin 47 = .ok (.istore 5, 2) := by decide +kernel
theorem dX2_begin_49 : decode cX2_begin 49 = .ok (.aload_n 0, 1) := by decide +kernel
theorem dX2_begin_50 : decode cX2_begin 50 = .ok (.getfield 17, 3) := by decide +kernel
theorem dX2_begin_53 : decode cX2_begin 53 = .ok (.aload_n 0, 1) := by decide +kernel
theorem dX2_begin_54 : decode cX2_begin 54 = .ok (.getfield 32, 3) := by decide +kernel
theorem dX2_begin_57 : decode cX2_begin 57 = .ok (.new 15, 3) := by decide +kernel
theorem dX2_begin_60 : decode cX2_begin 60 = .ok (.dup, 1) := by decide +kernel
theorem dX2_begin_61 : decode cX2_begin 61 = .ok (.iload_n 1, 1) := by decide +kernel
theorem dX2_begin_62 : decode cX2_begin 62 = .ok (.iload_n 2, 1) := by decide +kernel
theorem dX2_begin_63 : decode cX2_begin 63 = .ok (.iload 5, 2) := by decide +kernel
theorem dX2_begin_65 : decode cX2_begin 65 = .ok (.aload_n 0, 1) := by decide +kernel
theorem dX2_begin_66 : decode cX2_begin 66 = .ok (.getfield 35, 3) := by decide +kernel
theorem dX2_begin_69 : decode cX2_begin 69 = .ok (.aload_n 3, 1) := by decide +kernel
theorem dX2_begin_70 : decode cX2_begin 70 = .ok (.aload 4, 2) := by decide +kernel
theorem dX2_begin_72 : decode cX2_begin 72 = .ok (.invokespecial 42, 3) := by decide +kernel
theorem dX2_begin_75 : decode cX2_begin 75 = .ok (.aastore, 1) := by decide +kernel
theorem dX2_begin_76 : decode cX2_begin 76 = .ok (.aload_n 0, 1) := by decide +kernel
theorem dX2_begin_77 : decode cX2_begin 77 = .ok (.dup, 1) := by decide +kernel
theorem dX2_begin_78 : decode cX2_begin 78 = .ok (.getfield 32, 3) := by decide +kernel
theorem dX2_begin_81 : decode cX2_begin 81 = .ok (.dup_x1, 1) := by decide +kernel
theorem dX2_begin_82 : decode cX2_begin 82 = .ok (.iconst 1, 1) := by decide +kernel
theorem dX2_begin_83 : decode cX2_begin 83 = .ok (.iadd, 1) := by decide +kernel
theorem dX2_begin_84 : decode cX2_begin 84 = .ok (.putfield 32, 3) := by decide +kernel
theorem dX2_begin_87 : decode cX2_begin 87 = .ok (.ireturn, 1) := by decide +kernel
theorem dX2_isBusy_0 : decode cX2_isBusy 0 = .ok (.iconst 0, 1) := by decide +kernel
theorem dX2_isBusy_1 : decode cX2_isBusy 1 = .ok (.istore_n 2, 1) := by decide +kernel
theorem dX2_isBusy_2 : decode cX2_isBusy 2 = .ok (.iload_n 2, 1) := by decide +kernel
theorem dX2_isBusy_3 : decode cX2_isBusy 3 = .ok (.aload_n 0, 1) := by decide +kernel
theorem dX2_isBusy_4 : decode cX2_isBusy 4 = .ok (.getfield 17, 3) := by decide +kernel
theorem dX2_isBusy_7 : decode cX2_isBusy 7 = .ok (.arraylength, 1) := by decide +kernel
theorem dX2_isBusy_8 : decode cX2_isBusy 8 = .ok (.if_icmp .ge 37, 3) := by decide +kernel
theorem dX2_isBusy_11 : decode cX2_isBusy 11 = .ok (.aload_n 0, 1) := by decide +kernel
theorem dX2_isBusy_12 : decode cX2_isBusy 12 = .ok (.getfield 17, 3) := by decide +kernel
theorem dX2_isBusy_15 : decode cX2_isBusy 15 = .ok (.iload_n 2, 1) := by decide +kernel
theorem dX2_isBusy_16 : decode cX2_isBusy 16 = .ok (.aaload, 1) := by decide +kernel
theorem dX2_isBusy_17 : decode cX2_isBusy 17 = .ok (.astore_n 3, 1) := by decide +kernel
theorem dX2_isBusy_18 : decode cX2_isBusy 18 = .ok (.aload_n 3, 1) := by decide +kernel
theorem dX2_isBusy_19 : decode cX2_isBusy 19 = .ok (.ifnull 20, 3) := by decide +kernel
theorem dX2_isBusy_22 : decode cX2_isBusy 22 = .ok (.aload_n 3, 1) := by decide +kernel
theorem dX2_isBusy_23 : decode cX2_isBusy 23 = .ok (.invokevirtual 45, 3) := by decide +kernel
theorem dX2_isBusy_26 : decode cX2_isBusy 26 = .ok (.ifCond .eq 13, 3) := by decide +kernel
theorem dX2_isBusy_29 : decode cX2_isBusy 29 = .ok (.aload_n 3, 1) := by decide +kernel
theorem dX2_isBusy_30 : decode cX2_isBusy 30 = .ok (.iload_n 1, 1) := by decide +kernel
theorem dX2_isBusy_31 : decode cX2_isBusy 31 = .ok (.invokevirtual 49, 3) := by decide +kernel
theorem dX2_isBusy_34 : decode cX2_isBusy 34 = .ok (.ifCond .eq 5, 3) := by decide +kernel
theorem dX2_isBusy_37 : decode cX2_isBusy 37 = .ok (.iconst 1, 1) := by decide +kernel
theorem dX2_isBusy_38 : decode cX2_isBusy 38 = .ok (.ireturn, 1) := by decide +kernel
theorem dX2_isBusy_39 : decode cX2_isBusy 39 = .ok (.iinc 2 1, 3) := by decide +kernel
theorem dX2_isBusy_42 : decode cX2_isBusy 42 = .ok (.goto (-40), 3) := by decide +kernel
theorem dX2_isBusy_45 : decode cX2_isBusy 45 = .ok (.iconst 0, 1) := by decide +kernel
theorem dX2_isBusy_46 : decode cX2_isBusy 46 = .ok (.ireturn, 1) := by decide +kernel
theorem dX2_spend_0 : decode cX2_spend 0 = .ok (.aload_n 1, 1) := by decide +kernel
theorem dX2_spend_1 : decode cX2_spend 1 = .ok (.aload_n 1, 1) := by decide +kernel
theorem dX2_spend_2 : decode cX2_spend 2 = .ok (.getfield 52, 3) := by decide +kernel
theorem dX2_spend_5 : decode cX2_spend 5 = .ok (.getfield 56, 3) := by decide +kernel
theorem dX2_spend_8 : decode cX2_spend 8 = .ok (.invokevirtual 61, 3) := by decide +kernel
theorem dX2_spend_11 : decode cX2_spend 11 = .ok (.iload_n 2, 1) := by decide +kernel
theorem dX2_spend_12 : decode cX2_spend 12 = .ok (.invokevirtual 65, 3) := by decide +kernel
theorem dX2_spend_15 : decode cX2_spend 15 = .ok (.ifCond .eq 5, 3) := by decide +kernel
theorem dX2_spend_18 : decode cX2_spend 18 = .ok (.iconst 1, 1) := by decide +kernel
theorem dX2_spend_19 : decode cX2_spend 19 = .ok (.ireturn, 1) := by decide +kernel
theorem dX2_spend_20 : decode cX2_spend 20 = .ok (.aload_n 0, 1) := by decide +kernel
theorem dX2_spend_21 : decode cX2_spend 21 = .ok (.aload_n 1, 1) := by decide +kernel
theorem dX2_spend_22 : decode cX2_spend 22 = .ok (.aload_n 1, 1) := by decide +kernel
theorem dX2_spend_23 : decode cX2_spend 23 = .ok (.invokevirtual 70, 3) := by decide +kernel
theorem dX2_spend_26 : decode cX2_spend 26 = .ok (.invokevirtual 74, 3) := by decide +kernel
theorem dX2_spend_29 : decode cX2_spend 29 = .ok (.iconst 0, 1) := by decide +kernel
theorem dX2_spend_30 : decode cX2_spend 30 = .ok (.ireturn, 1) := by decide +kernel
theorem dX2_passIn_0 : decode cX2_passIn 0 = .ok (.aload_n 1, 1) := by decide +kernel
theorem dX2_passIn_1 : decode cX2_passIn 1 = .ok (.aload_n 1, 1) := by decide +kernel
theorem dX2_passIn_2 : decode cX2_passIn 2 = .ok (.getfield 52, 3) := by decide +kernel
theorem dX2_passIn_5 : decode cX2_passIn 5 = .ok (.invokevirtual 78, 3) := by decide +kernel
theorem dX2_passIn_8 : decode cX2_passIn 8 = .ok (.invokevirtual 82, 3) := by decide +kernel
theorem dX2_passIn_11 : decode cX2_passIn 11 = .ok (.pop, 1) := by decide +kernel
theorem dX2_passIn_12 : decode cX2_passIn 12 = .ok (.aload_n 1, 1) := by decide +kernel
theorem dX2_passIn_13 : decode cX2_passIn 13 = .ok (.getfield 52, 3) := by decide +kernel
theorem dX2_passIn_16 : decode cX2_passIn 16 = .ok (.getfield 86, 3) := by decide +kernel
theorem dX2_passIn_19 : decode cX2_passIn 19 = .ok (.iconst 2, 1) := by decide +kernel
theorem dX2_passIn_20 : decode cX2_passIn 20 = .ok (.if_icmp .lt 12, 3) := by decide +kernel
theorem dX2_passIn_23 : decode cX2_passIn 23 = .ok (.aload_n 0, 1) := by decide +kernel
theorem dX2_passIn_24 : decode cX2_passIn 24 = .ok (.aload_n 1, 1) := by decide +kernel
theorem dX2_passIn_25 : decode cX2_passIn 25 = .ok (.aload_n 1, 1) := by decide +kernel
theorem dX2_passIn_26 : decode cX2_passIn 26 = .ok (.invokevirtual 89, 3) := by decide +kernel
theorem dX2_passIn_29 : decode cX2_passIn 29 = .ok (.invokevirtual 74, 3) := by decide +kernel
theorem dX2_passIn_32 : decode cX2_passIn 32 = .ok (.return_, 1) := by decide +kernel
theorem dX2_end_0 : decode cX2_end 0 = .ok (.aload_n 1, 1) := by decide +kernel
theorem dX2_end_1 : decode cX2_end 1 = .ok (.iload_n 2, 1) := by decide +kernel
theorem dX2_end_2 : decode cX2_end 2 = .ok (.putfield 92, 3) := by decide +kernel
theorem dX2_end_5 : decode cX2_end 5 = .ok (.aload_n 0, 1) := by decide +kernel
theorem dX2_end_6 : decode cX2_end 6 = .ok (.getfield 35, 3) := by decide +kernel
theorem dX2_end_9 : decode cX2_end 9 = .ok (.ifCond .lt 35, 3) := by decide +kernel
theorem dX2_end_12 : decode cX2_end 12 = .ok (.aload_n 0, 1) := by decide +kernel
theorem dX2_end_13 : decode cX2_end 13 = .ok (.getfield 35, 3) := by decide +kernel
theorem dX2_end_16 : decode cX2_end 16 = .ok (.aload_n 0, 1) := by decide +kernel
theorem dX2_end_17 : decode cX2_end 17 = .ok (.getfield 21, 3) := by decide +kernel
theorem dX2_end_20 : decode cX2_end 20 = .ok (.arraylength, 1) := by decide +kernel
theorem dX2_end_21 : decode cX2_end 21 = .ok (.if_icmp .ge 23, 3) := by decide +kernel
theorem dX2_end_24 : decode cX2_end 24 = .ok (.aload_n 0, 1) := by decide +kernel
theorem dX2_end_25 : decode cX2_end 25 = .ok (.getfield 21, 3) := by decide +kernel
theorem dX2_end_28 : decode cX2_end 28 = .ok (.aload_n 0, 1) := by decide +kernel
theorem dX2_end_29 : decode cX2_end 29 = .ok (.getfield 35, 3) := by decide +kernel
theorem dX2_end_32 : decode cX2_end 32 = .ok (.aload_n 1, 1) := by decide +kernel
theorem dX2_end_33 : decode cX2_end 33 = .ok (.aastore, 1) := by decide +kernel
theorem dX2_end_34 : decode cX2_end 34 = .ok (.aload_n 0, 1) := by decide +kernel
theorem dX2_end_35 : decode cX2_end 35 = .ok (.dup, 1) := by decide +kernel
theorem dX2_end_36 : decode cX2_end 36 = .ok (.getfield 35, 3) := by decide +kernel
theorem dX2_end_39 : decode cX2_end 39 = .ok (.iconst 1, 1) := by decide +kernel
theorem dX2_end_40 : decode cX2_end 40 = .ok (.iadd, 1) := by decide +kernel
theorem dX2_end_41 : decode cX2_end 41 = .ok (.putfield 35, 3) := by decide +kernel
theorem dX2_end_44 : decode cX2_end 44 = .ok (.return_, 1) := by decide +kernel
theorem dX2_standing_0 : decode cX2_standing 0 = .ok (.iload_n 1, 1) := by decide +kernel
theorem dX2_standing_1 : decode cX2_standing 1 = .ok (.ifCond .lt 12, 3) := by decide +kernel
theorem dX2_standing_4 : decode cX2_standing 4 = .ok (.iload_n 1, 1) := by decide +kernel
theorem dX2_standing_5 : decode cX2_standing 5 = .ok (.aload_n 0, 1) := by decide +kernel
theorem dX2_standing_6 : decode cX2_standing 6 = .ok (.getfield 9, 3) := by decide +kernel
theorem dX2_standing_9 : decode cX2_standing 9 = .ok (.arraylength, 1) := by decide +kernel
theorem dX2_standing_10 : decode cX2_standing 10 = .ok (.if_icmp .lt 7, 3) := by decide +kernel
theorem dX2_standing_13 : decode cX2_standing 13 = .ok (.iconst 0, 1) := by decide +kernel
theorem dX2_standing_14 : decode cX2_standing 14 = .ok (.goto 9, 3) := by decide +kernel
theorem dX2_standing_17 : decode cX2_standing 17 = .ok (.aload_n 0, 1) := by decide +kernel
theorem dX2_standing_18 : decode cX2_standing 18 = .ok (.getfield 9, 3) := by decide +kernel
theorem dX2_standing_21 : decode cX2_standing 21 = .ok (.iload_n 1, 1) := by decide +kernel
theorem dX2_standing_22 : decode cX2_standing 22 = .ok (.iaload, 1) := by decide +kernel
theorem dX2_standing_23 : decode cX2_standing 23 = .ok (.istore_n 3, 1) := by decide +kernel
theorem dX2_standing_24 : decode cX2_standing 24 = .ok (.iconst 0, 1) := by decide +kernel
theorem dX2_standing_25 : decode cX2_standing 25 = .ok (.istore 4, 2) := by decide +kernel
theorem dX2_standing_27 : decode cX2_standing 27 = .ok (.iconst 0, 1) := by decide +kernel
theorem dX2_standing_28 : decode cX2_standing 28 = .ok (.istore 5, 2) := by decide +kernel
theorem dX2_standing_30 : decode cX2_standing 30 = .ok (.iload 5, 2) := by decide +kernel
theorem dX2_standing_32 : decode cX2_standing 32 = .ok (.iload_n 2, 1) := by decide +kernel
theorem dX2_standing_33 : decode cX2_standing 33 = .ok (.if_icmp .ge 115, 3) := by decide +kernel
theorem dX2_standing_36 : decode cX2_standing 36 = .ok (.iload 5, 2) := by decide +kernel
theorem dX2_standing_38 : decode cX2_standing 38 = .ok (.aload_n 0, 1) := by decide +kernel
theorem dX2_standing_39 : decode cX2_standing 39 = .ok (.getfield 21, 3) := by decide +kernel
theorem dX2_standing_42 : decode cX2_standing 42 = .ok (.arraylength, 1) := by decide +kernel
theorem dX2_standing_43 : decode cX2_standing 43 = .ok (.if_icmp .ge 105, 3) := by decide +kernel
theorem dX2_standing_46 : decode cX2_standing 46 = .ok (.aload_n 0, 1) := by decide +kernel
theorem dX2_standing_47 : decode cX2_standing 47 = .ok (.getfield 21, 3) := by decide +kernel
theorem dX2_standing_50 : decode cX2_standing 50 = .ok (.iload 5, 2) := by decide +kernel
theorem dX2_standing_52 : decode cX2_standing 52 = .ok (.aaload, 1) := by decide +kernel
theorem dX2_standing_53 : decode cX2_standing 53 = .ok (.astore 6, 2) := by decide +kernel
theorem dX2_standing_55 : decode cX2_standing 55 = .ok (.aload 6, 2) := by decide +kernel
theorem dX2_standing_57 : decode cX2_standing 57 = .ok (.ifnull 85, 3) := by decide +kernel
theorem dX2_standing_60 : decode cX2_standing 60 = .ok (.aload 6, 2) := by decide +kernel
theorem dX2_standing_62 : decode cX2_standing 62 = .ok (.getfield 95, 3) := by decide +kernel
theorem dX2_standing_65 : decode cX2_standing 65 = .ok (.ifCond .ne 77, 3) := by decide +kernel
theorem dX2_standing_68 : decode cX2_standing 68 = .ok (.aload 6, 2) := by decide +kernel
theorem dX2_standing_70 : decode cX2_standing 70 = .ok (.iload_n 1, 1) := by decide +kernel
theorem dX2_standing_71 : decode cX2_standing 71 = .ok (.invokevirtual 49, 3) := by decide +kernel
theorem dX2_standing_74 : decode cX2_standing 74 = .ok (.ifCond .ne 6, 3) := by decide +kernel
theorem dX2_standing_77 : decode cX2_standing 77 = .ok (.goto 65, 3) := by decide +kernel
theorem dX2_standing_80 : decode cX2_standing 80 = .ok (.aload 6, 2) := by decide +kernel
theorem dX2_standing_82 : decode cX2_standing 82 = .ok (.invokevirtual 99, 3) := by decide +kernel
theorem dX2_standing_85 : decode cX2_standing 85 = .ok (.iload_n 1, 1) := by decide +kernel
theorem dX2_standing_86 : decode cX2_standing 86 = .ok (.if_icmp .ne 14, 3) := by decide +kernel
theorem dX2_standing_89 : decode cX2_standing 89 = .ok (.iload 4, 2) := by decide +kernel
theorem dX2_standing_91 : decode cX2_standing 91 = .ok (.iconst 0, 1) := by decide +kernel
theorem dX2_standing_92 : decode cX2_standing 92 = .ok (.invokestatic 102, 3) := by decide +kernel
theorem dX2_standing_95 : decode cX2_standing 95 = .ok (.iconst 1, 1) := by decide +kernel
theorem dX2_standing_96 : decode cX2_standing 96 = .ok (.iadd, 1) := by decide +kernel
theorem dX2_standing_97 : decode cX2_standing 97 = .ok (.goto 11, 3) := by decide +kernel
theorem dX2_standing_100 : decode cX2_standing 100 = .ok (.iload 4, 2) := by decide +kernel
theorem dX2_standing_102 : decode cX2_standing 102 = .ok (.iconst 0, 1) := by decide +kernel
theorem dX2_standing_103 : decode cX2_standing 103 = .ok (.invokestatic 108, 3) := by decide +kernel
theorem dX2_standing_106 : decode cX2_standing 106 = .ok (.iconst 1, 1) := by decide +kernel
theorem dX2_standing_107 : decode cX2_standing 107 = .ok (.isub, 1) := by decide +kernel
theorem dX2_standing_108 : decode cX2_standing 108 = .ok (.istore 4, 2) := by decide +kernel
theorem dX2_standing_110 : decode cX2_standing 110 = .ok (.iload 4, 2) := by decide +kernel
theorem dX2_standing_112 : decode cX2_standing 112 = .ok (.iconst 3, 1) := by decide +kernel
theorem dX2_standing_113 : decode cX2_standing 113 = .ok (.if_icmp .eq 10, 3) := by decide +kernel
theorem dX2_standing_116 : decode cX2_standing 116 = .ok (.iload 4, 2) := by decide +kernel
theorem dX2_standing_118 : decode cX2_standing 118 = .ok (.bipush (-3), 2) := by decide +kernel
theorem dX2_standing_120 : decode cX2_standing 120 = .ok (.if_icmp .ne 22, 3) := by decide +kernel
theorem dX2_standing_123 : decode cX2_standing 123 = .ok (.iconst 0, 1) := by decide +kernel
theorem dX2_standing_124 : decode cX2_standing 124 = .ok (.bipush 20, 2) := by decide +kernel
theorem dX2_standing_126 : decode cX2_standing 126 = .ok (.iload_n 3, 1) := by decide +kernel
theorem dX2_standing_127 : decode cX2_standing 127 = .ok (.iload 4, 2) := by decide +kernel
theorem dX2_standing_129 : decode cX2_standing 129 = .ok (.iconst 3, 1) := by decide +kernel
theorem dX2_standing_130 : decode cX2_standing 130 = .ok (.idiv, 1) := by decide +kernel
theorem dX2_standing_131 : decode cX2_standing 131 = .ok (.iadd, 1) := by decide +kernel
theorem dX2_standing_132 : decode cX2_standing 132 = .ok (.invokestatic 108, 3) := by decide +kernel
theorem dX2_standing_135 : decode cX2_standing 135 = .ok (.invokestatic 102, 3) := by decide +kernel
theorem dX2_standing_138 : decode cX2_standing 138 = .ok (.istore_n 3, 1) := by decide +kernel
theorem dX2_standing_139 : decode cX2_standing 139 = .ok (.iconst 0, 1) := by decide +kernel
theorem dX2_standing_140 : decode cX2_standing 140 = .ok (.istore 4, 2) := by decide +kernel
theorem dX2_standing_142 : decode cX2_standing 142 = .ok (.iinc 5 1, 3) := by decide +kernel
theorem dX2_standing_145 : decode cX2_standing 145 = .ok (.goto (-115), 3) := by decide +kernel
theorem dX2_standing_148 : decode cX2_standing 148 = .ok (.bipush 10, 2) := by decide +kernel
theorem dX2_standing_150 : decode cX2_standing 150 = .ok (.iload_n 3, 1) := by decide +kernel
theorem dX2_standing_151 : decode cX2_standing 151 = .ok (.imul, 1) := by decide +kernel
theorem dX2_standing_152 : decode cX2_standing 152 = .ok (.iload 4, 2) := by decide +kernel
theorem dX2_standing_154 : decode cX2_standing 154 = .ok (.ifCond .ge 10, 3) := by decide +kernel
theorem dX2_standing_157 : decode cX2_standing 157 = .ok (.iconst 5, 1) := by decide +kernel
theorem dX2_standing_158 : decode cX2_standing 158 = .ok (.iload 4, 2) := by decide +kernel
theorem dX2_standing_160 : decode cX2_standing 160 = .ok (.isub, 1) := by decide +kernel
theorem dX2_standing_161 : decode cX2_standing 161 = .ok (.goto 5, 3) := by decide +kernel
theorem dX2_standing_164 : decode cX2_standing 164 = .ok (.iload 4, 2) := by decide +kernel
theorem dX2_standing_166 : decode cX2_standing 166 = .ok (.iadd, 1) := by decide +kernel
theorem dX2_standing_167 : decode cX2_standing 167 = .ok (.ireturn, 1) := by decide +kernel
theorem dX2_pairing_0 : decode cX2_pairing 0 = .ok (.aload_n 0, 1) := by decide +kernel
theorem dX2_pairing_1 : decode cX2_pairing 1 = .ok (.iload_n 1, 1) := by decide +kernel
theorem dX2_pairing_2 : decode cX2_pairing 2 = .ok (.iload_n 3, 1) := by decide +kernel
theorem dX2_pairing_3 : decode cX2_pairing 3 = .ok (.invokevirtual 111, 3) := by decide +kernel
theorem dX2_pairing_6 : decode cX2_pairing 6 = .ok (.bipush 10, 2) := by decide +kernel
theorem dX2_pairing_8 : decode cX2_pairing 8 = .ok (.idiv, 1) := by decide +kernel
theorem dX2_pairing_9 : decode cX2_pairing 9 = .ok (.istore 4, 2) := by decide +kernel
theorem dX2_pairing_11 : decode cX2_pairing 11 = .ok (.aload_n 0, 1) := by decide +kernel
theorem dX2_pairing_12 : decode cX2_pairing 12 = .ok (.iload_n 2, 1) := by decide +kernel
theorem dX2_pairing_13 : decode cX2_pairing 13 = .ok (.iload_n 3, 1) := by decide +kernel
theorem dX2_pairing_14 : decode cX2_pairing 14 = .ok (.invokevirtual 111, 3) := by decide +kernel
theorem dX2_pairing_17 : decode cX2_pairing 17 = .ok (.bipush 10, 2) := by decide +kernel
theorem dX2_pairing_19 : decode cX2_pairing 19 = .ok (.idiv, 1) := by decide +kernel
theorem dX2_pairing_20 : decode cX2_pairing 20 = .ok (.istore 5, 2) := by decide +kernel
theorem dX2_pairing_22 : decode cX2_pairing 22 = .ok (.iload 4, 2) := by decide +kernel
theorem dX2_pairing_24 : decode cX2_pairing 24 = .ok (.iload 5, 2) := by decide +kernel
theorem dX2_pairing_26 : decode cX2_pairing 26 = .ok (.if_icmp .gt 7, 3) := by decide +kernel
theorem dX2_pairing_29 : decode cX2_pairing 29 = .ok (.iconst 1, 1) := by decide +kernel
theorem dX2_pairing_30 : decode cX2_pairing 30 = .ok (.goto 4, 3) := by decide +kernel
theorem dX2_pairing_33 : decode cX2_pairing 33 = .ok (.iconst 0, 1) := by decide +kernel
theorem dX2_pairing_34 : decode cX2_pairing 34 = .ok (.istore 6, 2) := by decide +kernel
theorem dX2_pairing_36 : decode cX2_pairing 36 = .ok (.iload 6, 2) := by decide +kernel
theorem dX2_pairing_38 : decode cX2_pairing 38 = .ok (.ifCond .eq 7, 3) := by decide +kernel
theorem dX2_pairing_41 : decode cX2_pairing 41 = .ok (.iload_n 1, 1) := by decide +kernel
theorem dX2_pairing_42 : decode cX2_pairing 42 = .ok (.goto 4, 3) := by decide +kernel
theorem dX2_pairing_45 : decode cX2_pairing 45 = .ok (.iload_n 2, 1) := by decide +kernel
theorem dX2_pairing_46 : decode cX2_pairing 46 = .ok (.istore 7, 2) := by decide +kernel
theorem dX2_pairing_48 : decode cX2_pairing 48 = .ok (.iload 6, 2) := by decide +kernel
theorem dX2_pairing_50 : decode cX2_pairing 50 = .ok (.ifCond .eq 7, 3) := by decide +kernel
theorem dX2_pairing_53 : decode cX2_pairing 53 = .ok (.iload_n 2, 1) := by decide +kernel
theorem dX2_pairing_54 : decode cX2_pairing 54 = .ok (.goto 4, 3) := by decide +kernel
theorem dX2_pairing_57 : decode cX2_pairing 57 = .ok (.iload_n 1, 1) := by decide +kernel
theorem dX2_pairing_58 : decode cX2_pairing 58 = .ok (.istore 8, 2) := by decide +kernel
theorem dX2_pairing_60 : decode cX2_pairing 60 = .ok (.bipush 100, 2) := by decide +kernel
theorem dX2_pairing_62 : decode cX2_pairing 62 = .ok (.iload 7, 2) := by decide +kernel
theorem dX2_pairing_64 : decode cX2_pairing 64 = .ok (.imul, 1) := by decide +kernel
theorem dX2_pairing_65 : decode cX2_pairing 65 = .ok (.bipush 10, 2) := by decide +kernel
theorem dX2_pairing_67 : decode cX2_pairing 67 = .ok (.iload 8, 2) := by decide +kernel
theorem dX2_pairing_69 : decode cX2_pairing 69 = .ok (.imul, 1) := by decide +kernel
theorem dX2_pairing_70 : decode cX2_pairing 70 = .ok (.iadd, 1) := by decide +kernel
theorem dX2_pairing_71 : decode cX2_pairing 71 = .ok (.iconst 4, 1) := by decide +kernel
theorem dX2_pairing_72 : decode cX2_pairing 72 = .ok (.iload 4, 2) := by decide +kernel
theorem dX2_pairing_74 : decode cX2_pairing 74 = .ok (.iload 5, 2) := by decide +kernel
theorem dX2_pairing_76 : decode cX2_pairing 76 = .ok (.isub, 1) := by decide +kernel
theorem dX2_pairing_77 : decode cX2_pairing 77 = .ok (.invokestatic 114, 3) := by decide +kernel
theorem dX2_pairing_80 : decode cX2_pairing 80 = .ok (.invokestatic 108, 3) := by decide +kernel
theorem dX2_pairing_83 : decode cX2_pairing 83 = .ok (.iadd, 1) := by decide +kernel
theorem dX2_pairing_84 : decode cX2_pairing 84 = .ok (.ireturn, 1) := by decide +kernel
theorem dX2_duePairing_0 : decode cX2_duePairing 0 = .ok (.aload_n 0, 1) := by decide +kernel
theorem dX2_duePairing_1 : decode cX2_duePairing 1 = .ok (.aload_n 1, 1) := by decide +kernel
theorem dX2_duePairing_2 : decode cX2_duePairing 2 = .ok (.getfield 118, 3) := by decide +kernel
theorem dX2_duePairing_5 : decode cX2_duePairing 5 = .ok (.aload_n 1, 1) := by decide +kernel
theorem dX2_duePairing_6 : decode cX2_duePairing 6 = .ok (.getfield 121, 3) := by decide +kernel
theorem dX2_duePairing_9 : decode cX2_duePairing 9 = .ok (.aload_n 1, 1) := by decide +kernel
theorem dX2_duePairing_10 : decode cX2_duePairing 10 = .ok (.getfield 124, 3) := by decide +kernel
theorem dX2_duePairing_13 : decode cX2_duePairing 13 = .ok (.invokevirtual 38, 3) := by decide +kernel
theorem dX2_duePairing_16 : decode cX2_duePairing 16 = .ok (.ireturn, 1) := by decide +kernel
theorem dX2_isOff_0 : decode cX2_isOff 0 = .ok (.aload_n 1, 1) := by decide +kernel
theorem dX2_isOff_1 : decode cX2_isOff 1 = .ok (.getfield 95, 3) := by decide +kernel
theorem dX2_isOff_4 : decode cX2_isOff 4 = .ok (.ifCond .ne 19, 3) := by decide +kernel
theorem dX2_isOff_7 : decode cX2_isOff 7 = .ok (.aload_n 1, 1) := by decide +kernel
theorem dX2_isOff_8 : decode cX2_isOff 8 = .ok (.getfield 127, 3) := by decide +kernel
theorem dX2_isOff_11 : decode cX2_isOff 11 = .ok (.aload_n 0, 1) := by decide +kernel
theorem dX2_isOff_12 : decode cX2_isOff 12 = .ok (.aload_n 1, 1) := by decide +kernel
theorem dX2_isOff_13 : decode cX2_isOff 13 = .ok (.invokevirtual 129, 3) := by decide +kernel
theorem dX2_isOff_16 : decode cX2_isOff 16 = .ok (.if_icmp .eq 7, 3) := by decide +kernel
theorem dX2_isOff_19 : decode cX2_isOff 19 = .ok (.iconst 1, 1) := by decide +kernel
theorem dX2_isOff_20 : decode cX2_isOff 20 = .ok (.goto 4, 3) := by decide +kernel
theorem dX2_isOff_23 : decode cX2_isOff 23 = .ok (.iconst 0, 1) := by decide +kernel
theorem dX2_isOff_24 : decode cX2_isOff 24 = .ok (.ireturn, 1) := by decide +kernel
theorem dX2_offSet_0 : decode cX2_offSet 0 = .ok (.iconst 0, 1) := by decide +kernel
theorem dX2_offSet_1 : decode cX2_offSet 1 = .ok (.istore_n 1, 1) := by decide +kernel
theorem dX2_offSet_2 : decode cX2_offSet 2 = .ok (.iconst 0, 1) := by decide +kernel
theorem dX2_offSet_3 : decode cX2_offSet 3 = .ok (.istore_n 2, 1) := by decide +kernel
theorem dX2_offSet_4 : decode cX2_offSet 4 = .ok (.iload_n 2, 1) := by decide +kernel
theorem dX2_offSet_5 : decode cX2_offSet 5 = .ok (.aload_n 0, 1) := by decide +kernel
theorem dX2_offSet_6 : decode cX2_offSet 6 = .ok (.getfield 17, 3) := by decide +kernel
theorem dX2_offSet_9 : decode cX2_offSet 9 = .ok (.arraylength, 1) := by decide +kernel
theorem dX2_offSet_10 : decode cX2_offSet 10 = .ok (.if_icmp .ge 34, 3) := by decide +kernel
theorem dX2_offSet_13 : decode cX2_offSet 13 = .ok (.aload_n 0, 1) := by decide +kernel
theorem dX2_offSet_14 : decode cX2_offSet 14 = .ok (.getfield 17, 3) := by decide +kernel
theorem dX2_offSet_17 : decode cX2_offSet 17 = .ok (.iload_n 2, 1) := by decide +kernel
theorem dX2_offSet_18 : decode cX2_offSet 18 = .ok (.aaload, 1) := by decide +kernel
theorem dX2_offSet_19 : decode cX2_offSet 19 = .ok (.astore_n 3, 1) := by decide +kernel
theorem dX2_offSet_20 : decode cX2_offSet 20 = .ok (.aload_n 3, 1) := by decide +kernel
theorem dX2_offSet_21 : decode cX2_offSet 21 = .ok (.ifnull 17, 3) := by decide +kernel
theorem dX2_offSet_24 : decode cX2_offSet 24 = .ok (.aload_n 0, 1) := by decide +kernel
theorem dX2_offSet_25 : decode cX2_offSet 25 = .ok (.aload_n 3, 1) := by decide +kernel
theorem dX2_offSet_26 : decode cX2_offSet 26 = .ok (.invokevirtual 133, 3) := by decide +kernel
theorem dX2_offSet_29 : decode cX2_offSet 29 = .ok (.ifCond .eq 9, 3) := by decide +kernel
theorem dX2_offSet_32 : decode cX2_offSet 32 = .ok (.iload_n 1, 1) := by decide +kernel
theorem dX2_offSet_33 : decode cX2_offSet 33 = .ok (.iconst 1, 1) := by decide +kernel
theorem dX2_offSet_34 : decode cX2_offSet 34 = .ok (.iload_n 2, 1) := by decide +kernel
theorem dX2_offSet_35 : decode cX2_offSet 35 = .ok (.ishl, 1) := by decide +kernel
theorem dX2_offSet_36 : decode cX2_offSet 36 = .ok (.ior, 1) := by decide +kernel
theorem dX2_offSet_37 : decode cX2_offSet 37 = .ok (.istore_n 1, 1) := by decide +kernel
theorem dX2_offSet_38 : decode cX2_offSet 38 = .ok (.iinc 2 1, 3) := by decide +kernel
theorem dX2_offSet_41 : decode cX2_offSet 41 = .ok (.goto (-37), 3) := by decide +kernel
theorem dX2_offSet_44 : decode cX2_offSet 44 = .ok (.iload_n 1, 1) := by decide +kernel
theorem dX2_offSet_45 : decode cX2_offSet 45 = .ok (.ireturn, 1) := by decide +kernel
theorem dX2_lowestOff_0 : decode cX2_lowestOff 0 = .ok (.iconst 0, 1) := by decide +kernel
theorem dX2_lowestOff_1 : decode cX2_lowestOff 1 = .ok (.istore_n 1, 1) := by decide +kernel
theorem dX2_lowestOff_2 : decode cX2_lowestOff 2 = .ok (.iload_n 1, 1) := by decide +kernel
theorem dX2_lowestOff_3 : decode cX2_lowestOff 3 = .ok (.aload_n 0, 1) := by decide +kernel
theorem dX2_lowestOff_4 : decode cX2_lowestOff 4 = .ok (.getfield 17, 3) := by decide +kernel
theorem dX2_lowestOff_7 : decode cX2_lowestOff 7 = .ok (.arraylength, 1) := by decide +kernel
theorem dX2_lowestOff_8 : decode cX2_lowestOff 8 = .ok (.if_icmp .ge 30, 3) := by decide +kernel
theorem dX2_lowestOff_11 : decode cX2_lowestOff 11 = .ok (.aload_n 0, 1) := by decide +kernel
theorem dX2_lowestOff_12 : decode cX2_lowestOff 12 = .ok (.getfield 17, 3) := by decide +kernel
theorem dX2_lowestOff_15 : decode cX2_lowestOff 15 = .ok (.iload_n 1, 1) := by decide +kernel
theorem dX2_lowestOff_16 : decode cX2_lowestOff 16 = .ok (.aaload, 1) := by decide +kernel
theorem dX2_lowestOff_17 : decode cX2_lowestOff 17 = .ok (.astore_n 2, 1) := by decide +kernel
theorem dX2_lowestOff_18 : decode cX2_lowestOff 18 = .ok (.aload_n 2, 1) := by decide +kernel
theorem dX2_lowestOff_19 : decode cX2_lowestOff 19 = .ok (.ifnull 13, 3) := by decide +kernel
theorem dX2_lowestOff_22 : decode cX2_lowestOff 22 = .ok (.aload_n 0, 1) := by decide +kernel
theorem dX2_lowestOff_23 : decode cX2_lowestOff 23 = .ok (.aload_n 2, 1) := by decide +kernel
theorem dX2_lowestOff_24 : decode cX2_lowestOff 24 = .ok (.invokevirtual 133, 3) := by decide +kernel
theorem dX2_lowestOff_27 : decode cX2_lowestOff 27 = .ok (.ifCond .eq 5, 3) := by decide +kernel
theorem dX2_lowestOff_30 : decode cX2_lowestOff 30 = .ok (.aload_n 2, 1) := by decide +kernel
theorem dX2_lowestOff_31 : decode cX2_lowestOff 31 = .ok (.areturn, 1) := by decide +kernel
theorem dX2_lowestOff_32 : decode cX2_lowestOff 32 = .ok (.iinc 1 1, 3) := by decide +kernel
theorem dX2_lowestOff_35 : decode cX2_lowestOff 35 = .ok (.goto (-33), 3) := by decide +kernel
theorem dX2_lowestOff_38 : decode cX2_lowestOff 38 = .ok (.aconst_null, 1) := by decide +kernel
theorem dX2_lowestOff_39 : decode cX2_lowestOff 39 = .ok (.areturn, 1) := by decide +kernel
theorem dX2_annulWhileOff_0 : decode cX2_annulWhileOff 0 = .ok (.iconst 0, 1) := by decide +kernel
theorem dX2_annulWhileOff_1 : decode cX2_annulWhileOff 1 = .ok (.istore_n 1, 1) := by decide +kernel
theorem dX2_annulWhileOff_2 : decode cX2_annulWhileOff 2 = .ok (.iload_n 1, 1) := by decide +kernel
theorem dX2_annulWhileOff_3 : decode cX2_annulWhileOff 3 = .ok (.aload_n 0, 1) := by decide +kernel
theorem dX2_annulWhileOff_4 : decode cX2_annulWhileOff 4 = .ok (.getfield 17, 3) := by decide +kernel
theorem dX2_annulWhileOff_7 : decode cX2_annulWhileOff 7 = .ok (.arraylength, 1) := by decide +kernel
theorem dX2_annulWhileOff_8 : decode cX2_annulWhileOff 8 = .ok (.if_icmp .ge 24, 3) := by decide +kernel
theorem dX2_annulWhileOff_11 : decode cX2_annulWhileOff 11 = .ok (.aload_n 0, 1) := by decide +kernel
theorem dX2_annulWhileOff_12 : decode cX2_annulWhileOff 12 = .ok (.invokevirtual 137, 3) := by decide +kernel
theorem dX2_annulWhileOff_15 : decode cX2_annulWhileOff 15 = .ok (.astore_n 2, 1) := by decide +kernel
theorem dX2_annulWhileOff_16 : decode cX2_annulWhileOff 16 = .ok (.aload_n 2, 1) := by decide +kernel
theorem dX2_annulWhileOff_17 : decode cX2_annulWhileOff 17 = .ok (.ifnonnull 5, 3) := by decide +kernel
theorem dX2_annulWhileOff_20 : decode cX2_annulWhileOff 20 = .ok (.iload_n 1, 1) := by decide +kernel
theorem dX2_annulWhileOff_21 : decode cX2_annulWhileOff 21 = .ok (.ireturn, 1) := by decide +kernel
theorem dX2_annulWhileOff_22 : decode cX2_annulWhileOff 22 = .ok (.aload_n 2, 1) := by decide +kernel
theorem dX2_annulWhileOff_23 : decode cX2_annulWhileOff 23 = .ok (.invokevirtual 141, 3) := by decide +kernel
theorem dX2_annulWhileOff_26 : decode cX2_annulWhileOff 26 = .ok (.iinc 1 1, 3) := by decide +kernel
theorem dX2_annulWhileOff_29 : decode cX2_annulWhileOff 29 = .ok (.goto (-27), 3) := by decide +kernel
theorem dX2_annulWhileOff_32 : decode cX2_annulWhileOff 32 = .ok (.aload_n 0, 1) := by decide +kernel
theorem dX2_annulWhileOff_33 : decode cX2_annulWhileOff 33 = .ok (.getfield 17, 3) := by decide +kernel
theorem dX2_annulWhileOff_36 : decode cX2_annulWhileOff 36 = .ok (.arraylength, 1) := by decide +kernel
theorem dX2_annulWhileOff_37 : decode cX2_annulWhileOff 37 = .ok (.ireturn, 1) := by decide +kernel
theorem dX3_init_0 : decode cX3_init 0 = .ok (.aload_n 0, 1) := by decide +kernel
theorem dX3_init_1 : decode cX3_init 1 = .ok (.invokespecial 3, 3) := by decide +kernel
theorem dX3_init_4 : decode cX3_init 4 = .ok (.aload_n 0, 1) := by decide +kernel
theorem dX3_init_5 : decode cX3_init 5 = .ok (.bipush 49, 2) := by decide +kernel
theorem dX3_init_7 : decode cX3_init 7 = .ok (.newarray .int, 2) := by decide +kernel
theorem dX3_init_9 : decode cX3_init 9 = .ok (.putfield 9, 3) := by decide +kernel
theorem dX3_init_12 : decode cX3_init 12 = .ok (.aload_n 0, 1) := by decide +kernel
theorem dX3_init_13 : decode cX3_init 13 = .ok (.iconst 0, 1) := by decide +kernel
theorem dX3_init_14 : decode cX3_init 14 = .ok (.putfield 15, 3) := by decide +kernel
theorem dX3_init_17 : decode cX3_init 17 = .ok (.aload_n 0, 1) := by decide +kernel
theorem dX3_init_18 : decode cX3_init 18 = .ok (.iload_n 1, 1) := by decide +kernel
theorem dX3_init_19 : decode cX3_init 19 = .ok (.putfield 19, 3) := by decide +kernel
theorem dX3_init_22 : decode cX3_init 22 = .ok (.aload_n 0, 1) := by decide +kernel
theorem dX3_init_23 : decode cX3_init 23 = .ok (.iload_n 2, 1) := by decide +kernel
theorem dX3_init_24 : decode cX3_init 24 = .ok (.putfield 22, 3) := by decide +kernel
theorem dX3_init_27 : decode cX3_init 27 = .ok (.aload_n 0, 1) := by decide +kernel
theorem dX3_init_28 : decode cX3_init 28 = .ok (.iload_n 3, 1) := by decide +kernel
theorem dX3_init_29 : decode cX3_init 29 = .ok (.putfield 25, 3) := by decide +kernel
theorem dX3_init_32 : decode cX3_init 32 = .ok (.aload_n 0, 1) := by decide +kernel
theorem dX3_init_33 : decode cX3_init 33 = .ok (.iload 4, 2) := by decide +kernel
theorem dX3_init_35 : decode cX3_init 35 = .ok (.putfield 28, 3) := by decide +kernel
theorem dX3_init_38 : decode cX3_init 38 = .ok (.aload_n 0, 1) := by decide +kernel
theorem dX3_init_39 : decode cX3_init 39 = .ok (.aload 5, 2) := by decide +kernel
theorem dX3_init_41 : decode cX3_init 41 = .ok (.putfield 31, 3) := by decide +kernel
theorem dX3_init_44 : decode cX3_init 44 = .ok (.aload_n 0, 1) := by decide +kernel
theorem dX3_init_45 : decode cX3_init 45 = .ok (.aload 6, 2) := by decide +kernel
theorem dX3_init_47 : decode cX3_init 47 = .ok (.putfield 35, 3) := by decide +kernel
theorem dX3_init_50 : decode cX3_init 50 = .ok (.aload_n 0, 1) := by decide +kernel
theorem dX3_init_51 : decode cX3_init 51 = .ok (.iload_n 3, 1) := by decide +kernel
theorem dX3_init_52 : decode cX3_init 52 = .ok (.bipush 10, 2) := by decide +kernel
theorem dX3_init_54 : decode cX3_init 54 = .ok (.irem, 1) := by decide +kernel
theorem dX3_init_55 : decode cX3_init 55 = .ok (.invokestatic 38, 3) := by decide +kernel
theorem dX3_init_58 : decode cX3_init 58 = .ok (.putfield 44, 3) := by decide +kernel
theorem dX3_init_61 : decode cX3_init 61 = .ok (.aload_n 0, 1) := by decide +kernel
theorem dX3_init_62 : decode cX3_init 62 = .ok (.aload_n 0, 1) := by decide +kernel
theorem dX3_init_63 : decode cX3_init 63 = .ok (.getfield 44, 3) := by decide +kernel
theorem dX3_init_66 : decode cX3_init 66 = .ok (.invokevirtual 48, 3) := by decide +kernel
theorem dX3_init_69 : decode cX3_init 69 = .ok (.invokevirtual 52, 3) := by decide +kernel
theorem dX3_init_72 : decode cX3_init 72 = .ok (.return_, 1) := by decide +kernel
theorem dX3_goesOn_0 : decode cX3_goesOn 0 = .ok (.aload_n 0, 1) := by decide +kernel
theorem dX3_goesOn_1 : decode cX3_goesOn 1 = .ok (.getfield 15, 3) := by decide +kernel
theorem dX3_goesOn_4 : decode cX3_goesOn 4 = .ok (.ifCond .ne 7, 3) := by decide +kernel
theorem dX3_goesOn_7 : decode cX3_goesOn 7 = .ok (.iconst 1, 1) := by decide +kernel
theorem dX3_goesOn_8 : decode cX3_goesOn 8 = .ok (.goto 4, 3) := by decide +kernel
theorem dX3_goesOn_11 : decode cX3_goesOn 11 = .ok (.iconst 0, 1) := by decide +kernel
theorem dX3_goesOn_12 : decode cX3_goesOn 12 = .ok (.ireturn, 1) := by decide +kernel
theorem dX3_isPlayedBy_0 : decode cX3_isPlayedBy 0 = .ok (.aload_n 0, 1) := by decide +kernel
theorem dX3_isPlayedBy_1 : decode cX3_isPlayedBy 1 = .ok (.getfield 19, 3) := by decide +kernel
theorem dX3_isPlayedBy_4 : decode cX3_isPlayedBy 4 = .ok (.iload_n 1, 1) := by decide +kernel
theorem dX3_isPlayedBy_5 : decode cX3_isPlayedBy 5 = .ok (.if_icmp .eq 11, 3) := by decide +kernel
theorem dX3_isPlayedBy_8 : decode cX3_isPlayedBy 8 = .ok (.aload_n 0, 1) := by decide +kernel
theorem dX3_isPlayedBy_9 : decode cX3_isPlayedBy 9 = .ok (.getfield 22, 3) := by decide +kernel
theorem dX3_isPlayedBy_12 : decode cX3_isPlayedBy 12 = .ok (.iload_n 1, 1) := by decide +kernel
theorem dX3_isPlayedBy_13 : decode cX3_isPlayedBy 13 = .ok (.if_icmp .ne 7, 3) := by decide +kernel
theorem dX3_isPlayedBy_16 : decode cX3_isPlayedBy 16 = .ok (.iconst 1, 1) := by decide +kernel
theorem dX3_isPlayedBy_17 : decode cX3_isPlayedBy 17 = .ok (.goto 4, 3) := by decide +kernel
theorem dX3_isPlayedBy_20 : decode cX3_isPlayedBy 20 = .ok (.iconst 0, 1) := by decide +kernel
theorem dX3_isPlayedBy_21 : decode cX3_isPlayedBy 21 = .ok (.ireturn, 1) := by decide +kernel
theorem dX3_winner_0 : decode cX3_winner 0 = .ok (.aload_n 0, 1) := by decide +kernel
theorem dX3_winner_1 : decode cX3_winner 1 = .ok (.getfield 15, 3) := by decide +kernel
theorem dX3_winner_4 : decode cX3_winner 4 = .ok (.iconst 1, 1) := by decide +kernel
theorem dX3_winner_5 : decode cX3_winner 5 = .ok (.if_icmp .ne 13, 3) := by decide +kernel
theorem dX3_winner_8 : decode cX3_winner 8 = .ok (.aload_n 0, 1) := by decide +kernel
theorem dX3_winner_9 : decode cX3_winner 9 = .ok (.getfield 25, 3) := by decide +kernel
theorem dX3_winner_12 : decode cX3_winner 12 = .ok (.bipush 100, 2) := by decide +kernel
theorem dX3_winner_14 : decode cX3_winner 14 = .ok (.idiv, 1) := by decide +kernel
theorem dX3_winner_15 : decode cX3_winner 15 = .ok (.goto 13, 3) := by decide +kernel
theorem dX3_winner_18 : decode cX3_winner 18 = .ok (.aload_n 0, 1) := by decide +kernel
theorem dX3_winner_19 : decode cX3_winner 19 = .ok (.getfield 25, 3) := by decide +kernel
theorem dX3_winner_22 : decode cX3_winner 22 = .ok (.bipush 10, 2) := by decide +kernel
theorem dX3_winner_24 : decode cX3_winner 24 = .ok (.idiv, 1) := by decide +kernel
theorem dX3_winner_25 : decode cX3_winner 25 = .ok (.bipush 10, 2) := by decide +kernel
theorem dX3_winner_27 : decode cX3_winner 27 = .ok (.irem, 1) := by decide +kernel
theorem dX3_winner_28 : decode cX3_winner 28 = .ok (.ireturn, 1) := by decide +kernel
theorem dX3_told_0 : decode cX3_told 0 = .ok (.aload_n 0, 1) := by decide +kernel
theorem dX3_told_1 : decode cX3_told 1 = .ok (.getfield 56, 3) := by decide +kernel
theorem dX3_told_4 : decode cX3_told 4 = .ok (.ifCond .eq 13, 3) := by decide +kernel
theorem dX3_told_7 : decode cX3_told 7 = .ok (.aload_n 0, 1) := by decide +kernel
theorem dX3_told_8 : decode cX3_told 8 = .ok (.getfield 15, 3) := by decide +kernel
theorem dX3_told_11 : decode cX3_told 11 = .ok (.bipush 10, 2) := by decide +kernel
theorem dX3_told_13 : decode cX3_told 13 = .ok (.iadd, 1) := by decide +kernel
theorem dX3_told_14 : decode cX3_told 14 = .ok (.goto 7, 3) := by decide +kernel
theorem dX3_told_17 : decode cX3_told 17 = .ok (.aload_n 0, 1) := by decide +kernel
theorem dX3_told_18 : decode cX3_told 18 = .ok (.getfield 15, 3) := by decide +kernel
theorem dX3_told_21 : decode cX3_told 21 = .ok (.ireturn, 1) := by decide +kernel
theorem dX3_wonAgainstMover_0 : decode cX3_wonAgainstMover 0 = .ok (.aload_n 0, 1) := by decide +kernel
theorem dX3_wonAgainstMover_1 : decode cX3_wonAgainstMover 1 = .ok (.getfield 44, 3) := by decide +kernel
theorem dX3_wonAgainstMover_4 : decode cX3_wonAgainstMover 4 = .ok (.getfield 60, 3) := by decide +kernel
theorem dX3_wonAgainstMover_7 : decode cX3_wonAgainstMover 7 = .ok (.ifCond .ne 7, 3) := by decide +kernel
theorem dX3_wonAgainstMover_10 : decode cX3_wonAgainstMover 10 = .ok (.iconst 2, 1) := by decide +kernel
theorem dX3_wonAgainstMover_11 : decode cX3_wonAgainstMover 11 = .ok (.goto 4, 3) := by decide +kernel
theorem dX3_wonAgainstMover_14 : decode cX3_wonAgainstMover 14 = .ok (.iconst 1, 1) := by decide +kernel
theorem dX3_wonAgainstMover_15 : decode cX3_wonAgainstMover 15 = .ok (.ireturn, 1) := by decide +kernel
theorem dX3_wonByCounting_0 : decode cX3_wonByCounting 0 = .ok (.aload_n 0, 1) := by decide +kernel
theorem dX3_wonByCounting_1 : decode cX3_wonByCounting 1 = .ok (.invokevirtual 63, 3) := by decide +kernel
theorem dX3_wonByCounting_4 : decode cX3_wonByCounting 4 = .ok (.ifCond .le 7, 3) := by decide +kernel
theorem dX3_wonByCounting_7 : decode cX3_wonByCounting 7 = .ok (.iconst 1, 1) := by decide +kernel
theorem dX3_wonByCounting_8 : decode cX3_wonByCounting 8 = .ok (.goto 4, 3) := by decide +kernel
theorem dX3_wonByCounting_11 : decode cX3_wonByCounting 11 = .ok (.iconst 2, 1) := by decide +kernel
theorem dX3_wonByCounting_12 : decode cX3_wonByCounting 12 = .ok (.ireturn, 1) := by decide +kernel
theorem dX3_lead_0 : decode cX3_lead 0 = .ok (.aload_n 0, 1) := by decide +kernel
theorem dX3_lead_1 : decode cX3_lead 1 = .ok (.getfield 25, 3) := by decide +kernel
theorem dX3_lead_4 : decode cX3_lead 4 = .ok (.bipush 10, 2) := by decide +kernel
theorem dX3_lead_6 : decode cX3_lead 6 = .ok (.irem, 1) := by decide +kernel
theorem dX3_lead_7 : decode cX3_lead 7 = .ok (.ifCond .ne 8, 3) := by decide +kernel
theorem dX3_lead_10 : decode cX3_lead 10 = .ok (.bipush 6, 2) := by decide +kernel
theorem dX3_lead_12 : decode cX3_lead 12 = .ok (.goto 4, 3) := by decide +kernel
theorem dX3_lead_15 : decode cX3_lead 15 = .ok (.iconst 0, 1) := by decide +kernel
theorem dX3_lead_16 : decode cX3_lead 16 = .ok (.istore_n 1, 1) := by decide +kernel
theorem dX3_lead_17 : decode cX3_lead 17 = .ok (.aload_n 0, 1) := by decide +kernel
theorem dX3_lead_18 : decode cX3_lead 18 = .ok (.getfield 44, 3) := by decide +kernel
theorem dX3_lead_21 : decode cX3_lead 21 = .ok (.getfield 67, 3) := by decide +kernel
theorem dX3_lead_24 : decode cX3_lead 24 = .ok (.aload_n 0, 1) := by decide +kernel
theorem dX3_lead_25 : decode cX3_lead 25 = .ok (.getfield 44, 3) := by decide +kernel
theorem dX3_lead_28 : decode cX3_lead 28 = .ok (.getfield 71, 3) := by decide +kernel
theorem dX3_lead_31 : decode cX3_lead 31 = .ok (.invokestatic 74, 3) := by decide +kernel
theorem dX3_lead_34 : decode cX3_lead 34 = .ok (.iload_n 1, 1) := by decide +kernel
theorem dX3_lead_35 : decode cX3_lead 35 = .ok (.isub, 1) := by decide +kernel
theorem dX3_lead_36 : decode cX3_lead 36 = .ok (.ireturn, 1) := by decide +kernel
theorem dX3_clockOf_0 : decode cX3_clockOf 0 = .ok (.iload_n 1, 1) := by decide +kernel
theorem dX3_clockOf_1 : decode cX3_clockOf 1 = .ok (.ifCond .ne 10, 3) := by decide +kernel
theorem dX3_clockOf_4 : decode cX3_clockOf 4 = .ok (.aload_n 0, 1) := by decide +kernel
theorem dX3_clockOf_5 : decode cX3_clockOf 5 = .ok (.getfield 31, 3) := by decide +kernel
theorem dX3_clockOf_8 : decode cX3_clockOf 8 = .ok (.goto 7, 3) := by decide +kernel
theorem dX3_clockOf_11 : decode cX3_clockOf 11 = .ok (.aload_n 0, 1) := by decide +kernel
theorem dX3_clockOf_12 : decode cX3_clockOf 12 = .ok (.getfield 35, 3) := by decide +kernel
theorem dX3_clockOf_15 : decode cX3_clockOf 15 = .ok (.areturn, 1) := by decide +kernel
theorem dX3_advance_0 : decode cX3_advance 0 = .ok (.aload_n 0, 1) := by decide +kernel
theorem dX3_advance_1 : decode cX3_advance 1 = .ok (.getfield 44, 3) := by decide +kernel
theorem dX3_advance_4 : decode cX3_advance 4 = .ok (.invokevirtual 48, 3) := by decide +kernel
theorem dX3_advance_7 : decode cX3_advance 7 = .ok (.aload_n 1, 1) := by decide +kernel
theorem dX3_advance_8 : decode cX3_advance 8 = .ok (.invokevirtual 48, 3) := by decide +kernel
theorem dX3_advance_11 : decode cX3_advance 11 = .ok (.lxor, 1) := by decide +kernel
theorem dX3_advance_12 : decode cX3_advance 12 = .ok (.lstore_n 2, 1) := by decide +kernel
theorem dX3_advance_13 : decode cX3_advance 13 = .ok (.aload_n 1, 1) := by decide +kernel
theorem dX3_advance_14 : decode cX3_advance 14 = .ok (.invokevirtual 48, 3) := by decide +kernel
theorem dX3_advance_17 : decode cX3_advance 17 = .ok (.lload_n 2, 1) := by decide +kernel
theorem dX3_advance_18 : decode cX3_advance 18 = .ok (.land, 1) := by decide +kernel
theorem dX3_advance_19 : decode cX3_advance 19 = .ok (.invokestatic 79, 3) := by decide +kernel
theorem dX3_advance_22 : decode cX3_advance 22 = .ok (.istore 4, 2) := by decide +kernel
theorem dX3_advance_24 : decode cX3_advance 24 = .ok (.aload_n 0, 1) := by decide +kernel
theorem dX3_advance_25 : decode cX3_advance 25 = .ok (.aload_n 1, 1) := by decide +kernel
theorem dX3_advance_26 : decode cX3_advance 26 = .ok (.putfield 44, 3) := by decide +kernel
theorem dX3_advance_29 : decode cX3_advance 29 = .ok (.aload_n 0, 1) := by decide +kernel
theorem dX3_advance_30 : decode cX3_advance 30 = .ok (.lload_n 2, 1) := by decide +kernel
theorem dX3_advance_31 : decode cX3_advance 31 = .ok (.invokevirtual 52, 3) := by decide +kernel
theorem dX3_advance_34 : decode cX3_advance 34 = .ok (.lload_n 2, 1) := by decide +kernel
theorem dX3_advance_35 : decode cX3_advance 35 = .ok (.invokestatic 79, 3) := by decide +kernel
theorem dX3_advance_38 : decode cX3_advance 38 = .ok (.iload 4, 2) := by decide +kernel
theorem dX3_advance_40 : decode cX3_advance 40 = .ok (.isub, 1) := by decide +kernel
theorem dX3_advance_41 : decode cX3_advance 41 = .ok (.ireturn, 1) := by decide +kernel
theorem dX3_annul_0 : decode cX3_annul 0 = .ok (.aload_n 0, 1) := by decide +kernel
theorem dX3_annul_1 : decode cX3_annul 1 = .ok (.iconst 1, 1) := by decide +kernel
theorem dX3_annul_2 : decode cX3_annul 2 = .ok (.putfield 56, 3) := by decide +kernel
theorem dX3_annul_5 : decode cX3_annul 5 = .ok (.aload_n 0, 1) := by decide +kernel
theorem dX3_annul_6 : decode cX3_annul 6 = .ok (.getfield 15, 3) := by decide +kernel
theorem dX3_annul_9 : decode cX3_annul 9 = .ok (.ifCond .ne 8, 3) := by decide +kernel
theorem dX3_annul_12 : decode cX3_annul 12 = .ok (.aload_n 0, 1) := by decide +kernel
theorem dX3_annul_13 : decode cX3_annul 13 = .ok (.iconst 2, 1) := by decide +kernel
theorem dX3_annul_14 : decode cX3_annul 14 = .ok (.putfield 15, 3) := by decide +kernel
theorem dX3_annul_17 : decode cX3_annul 17 = .ok (.return_, 1) := by decide +kernel
theorem dX3_keptLiberties_0 : decode cX3_keptLiberties 0 = .ok (.iload_n 1, 1) := by decide +kernel
theorem dX3_keptLiberties_1 : decode cX3_keptLiberties 1 = .ok (.ifCond .lt 12, 3) := by decide +kernel
theorem dX3_keptLiberties_4 : decode cX3_keptLiberties 4 = .ok (.iload_n 1, 1) := by decide +kernel
theorem dX3_keptLiberties_5 : decode cX3_keptLiberties 5 = .ok (.aload_n 0, 1) := by decide +kernel
theorem dX3_keptLiberties_6 : decode cX3_keptLiberties 6 = .ok (.getfield 9, 3) := by decide +kernel
theorem dX3_keptLiberties_9 : decode cX3_keptLiberties 9 = .ok (.arraylength, 1) := by decide +kernel
theorem dX3_keptLiberties_10 : decode cX3_keptLiberties 10 = .ok (.if_icmp .lt 7, 3) := by decide +kernel
theorem dX3_keptLiberties_13 : decode cX3_keptLiberties 13 = .ok (.iconst 0, 1) := by decide +kernel
theorem dX3_keptLiberties_14 : decode cX3_keptLiberties 14 = .ok (.goto 9, 3) := by decide +kernel
theorem dX3_keptLiberties_17 : decode cX3_keptLiberties 17 = .ok (.aload_n 0, 1) := by decide +kernel
theorem dX3_keptLiberties_18 : decode cX3_keptLiberties 18 = .ok (.getfield 9, 3) := by decide +kernel
theorem dX3_keptLiberties_21 : decode cX3_keptLiberties 21 = .ok (.iload_n 1, 1) := by decide +kernel
theorem dX3_keptLiberties_22 : decode cX3_keptLiberties 22 = .ok (.iaload, 1) := by decide +kernel
theorem dX3_keptLiberties_23 : decode cX3_keptLiberties 23 = .ok (.ireturn, 1) := by decide +kernel
theorem dX3_keepLiberties_0 : decode cX3_keepLiberties 0 = .ok (.aload_n 0, 1) := by decide +kernel
theorem dX3_keepLiberties_1 : decode cX3_keepLiberties 1 = .ok (.lload_n 1, 1) := by decide +kernel
theorem dX3_keepLiberties_2 : decode cX3_keepLiberties 2 = .ok (.iconst 0, 1) := by decide +kernel
theorem dX3_keepLiberties_3 : decode cX3_keepLiberties 3 = .ok (.invokevirtual 85, 3) := by decide +kernel
theorem dX3_keepLiberties_6 : decode cX3_keepLiberties 6 = .ok (.lload_n 1, 1) := by decide +kernel
theorem dX3_keepLiberties_7 : decode cX3_keepLiberties 7 = .ok (.lload_n 1, 1) := by decide +kernel
theorem dX3_keepLiberties_8 : decode cX3_keepLiberties 8 = .ok (.invokestatic 89, 3) := by decide +kernel
theorem dX3_keepLiberties_11 : decode cX3_keepLiberties 11 = .ok (.lor, 1) := by decide +kernel
theorem dX3_keepLiberties_12 : decode cX3_keepLiberties 12 = .ok (.lstore_n 3, 1) := by decide +kernel
theorem dX3_keepLiberties_13 : decode cX3_keepLiberties 13 = .ok (.iconst 0, 1) := by decide +kernel
theorem dX3_keepLiberties_14 : decode cX3_keepLiberties 14 = .ok (.istore 5, 2) := by decide +kernel
theorem dX3_keepLiberties_16 : decode cX3_keepLiberties 16 = .ok (.iload 5, 2) := by decide +kernel
theorem dX3_keepLiberties_18 : decode cX3_keepLiberties 18 = .ok (.bipush 49, 2) := by decide +kernel
theorem dX3_keepLiberties_20 : decode cX3_keepLiberties 20 = .ok (.if_icmp .ge 61, 3) := by decide +kernel
theorem dX3_keepLiberties_23 : decode cX3_keepLiberties 23 = .ok (.lload_n 3, 1) := by decide +kernel
theorem dX3_keepLiberties_24 : decode cX3_keepLiberties 24 = .ok (.lconst 1, 1) := by decide +kernel
theorem dX3_keepLiberties_25 : decode cX3_keepLiberties 25 = .ok (.iload 5, 2) := by decide +kernel
theorem dX3_keepLiberties_27 : decode cX3_keepLiberties 27 = .ok (.lshl, 1) := by decide +kernel
theorem dX3_keepLiberties_28 : decode cX3_keepLiberties 28 = .ok (.land, 1) := by decide +kernel
theorem dX3_keepLiberties_29 : decode cX3_keepLiberties 29 = .ok (.lconst 0, 1) := by decide +kernel
theorem dX3_keepLiberties_30 : decode cX3_keepLiberties 30 = .ok (.lcmp, 1) := by decide +kernel
theorem dX3_keepLiberties_31 : decode cX3_keepLiberties 31 = .ok (.ifCond .eq 44, 3) := by decide +kernel
theorem dX3_keepLiberties_34 : decode cX3_keepLiberties 34 = .ok (.aload_n 0, 1) := by decide +kernel
theorem dX3_keepLiberties_35 : decode cX3_keepLiberties 35 = .ok (.getfield 44, 3) := by decide +kernel
theorem dX3_keepLiberties_38 : decode cX3_keepLiberties 38 = .ok (.iload 5, 2) := by decide +kernel
theorem dX3_keepLiberties_40 : decode cX3_keepLiberties 40 = .ok (.invokevirtual 93, 3) := by decide +kernel
theorem dX3_keepLiberties_43 : decode cX3_keepLiberties 43 = .ok (.lstore 6, 2) := by decide +kernel
theorem dX3_keepLiberties_45 : decode cX3_keepLiberties 45 = .ok (.aload_n 0, 1) := by decide +kernel
theorem dX3_keepLiberties_46 : decode cX3_keepLiberties 46 = .ok (.lload 6, 2) := by decide +kernel
theorem dX3_keepLiberties_48 : decode cX3_keepLiberties 48 = .ok (.lload 6, 2) := by decide +kernel
theorem dX3_keepLiberties_50 : decode cX3_keepLiberties 50 = .ok (.aload_n 0, 1) := by decide +kernel
theorem dX3_keepLiberties_51 : decode cX3_keepLiberties 51 = .ok (.getfield 44, 3) := by decide +kernel
theorem dX3_keepLiberties_54 : decode cX3_keepLiberties 54 = .ok (.invokevirtual 48, 3) := by decide +kernel
theorem dX3_keepLiberties_57 : decode cX3_keepLiberties 57 = .ok (.invokestatic 97, 3) := by decide +kernel
theorem dX3_keepLiberties_60 : decode cX3_keepLiberties 60 = .ok (.invokestatic 79, 3) := by decide +kernel
theorem dX3_keepLiberties_63 : decode cX3_keepLiberties 63 = .ok (.invokevirtual 85, 3) := by decide +kernel
theorem dX3_keepLiberties_66 : decode cX3_keepLiberties 66 = .ok (.lload_n 3, 1) := by decide +kernel
theorem dX3_keepLiberties_67 : decode cX3_keepLiberties 67 = .ok (.lload 6, 2) := by decide +kernel
theorem dX3_keepLiberties_69 : decode cX3_keepLiberties 69 = .ok (.ldc2_w 101, 3) := by decide +kernel
theorem dX3_keepLiberties_72 : decode cX3_keepLiberties 72 = .ok (.lxor, 1) := by decide +kernel
theorem dX3_keepLiberties_73 : decode cX3_keepLiberties 73 = .ok (.land, 1) := by decide +kernel
theorem dX3_keepLiberties_74 : decode cX3_keepLiberties 74 = .ok (.lstore_n 3, 1) := by decide +kernel
theorem dX3_keepLiberties_75 : decode cX3_keepLiberties 75 = .ok (.iinc 5 1, 3) := by decide +kernel
theorem dX3_keepLiberties_78 : decode cX3_keepLiberties 78 = .ok (.goto (-62), 3) := by decide +kernel
theorem dX3_keepLiberties_81 : decode cX3_keepLiberties 81 = .ok (.return_, 1) := by decide +kernel
theorem dX3_keepForAll_0 : decode cX3_keepForAll 0 = .ok (.iconst 0, 1) := by decide +kernel
theorem dX3_keepForAll_1 : decode cX3_keepForAll 1 = .ok (.istore 4, 2) := by decide +kernel
theorem dX3_keepForAll_3 : decode cX3_keepForAll 3 = .ok (.iload 4, 2) := by decide +kernel
theorem dX3_keepForAll_5 : decode cX3_keepForAll 5 = .ok (.aload_n 0, 1) := by decide +kernel
theorem dX3_keepForAll_6 : decode cX3_keepForAll 6 = .ok (.getfield 9, 3) := by decide +kernel
theorem dX3_keepForAll_9 : decode cX3_keepForAll 9 = .ok (.arraylength, 1) := by decide +kernel
theorem dX3_keepForAll_10 : decode cX3_keepForAll 10 = .ok (.if_icmp .ge 28, 3) := by decide +kernel
theorem dX3_keepForAll_13 : decode cX3_keepForAll 13 = .ok (.lload_n 1, 1) := by decide +kernel
theorem dX3_keepForAll_14 : decode cX3_keepForAll 14 = .ok (.lconst 1, 1) := by decide +kernel
theorem dX3_keepForAll_15 : decode cX3_keepForAll 15 = .ok (.iload 4, 2) := by decide +kernel
theorem dX3_keepForAll_17 : decode cX3_keepForAll 17 = .ok (.lshl, 1) := by decide +kernel
theorem dX3_keepForAll_18 : decode cX3_keepForAll 18 = .ok (.land, 1) := by decide +kernel
theorem dX3_keepForAll_19 : decode cX3_keepForAll 19 = .ok (.lconst 0, 1) := by decide +kernel
theorem dX3_keepForAll_20 : decode cX3_keepForAll 20 = .ok (.lcmp, 1) := by decide +kernel
theorem dX3_keepForAll_21 : decode cX3_keepForAll 21 = .ok (.ifCond .eq 11, 3) := by decide +kernel
theorem dX3_keepForAll_24 : decode cX3_keepForAll 24 = .ok (.aload_n 0, 1) := by decide +kernel
theorem dX3_keepForAll_25 : decode cX3_keepForAll 25 = .ok (.getfield 9, 3) := by decide +kernel
theorem dX3_keepForAll_28 : decode cX3_keepForAll 28 = .ok (.iload 4, 2) := by decide +kernel
theorem dX3_keepForAll_30 : decode cX3_keepForAll 30 = .ok (.iload_n 3, 1) := by decide +kernel
theorem dX3_keepForAll_31 : decode cX3_keepForAll 31 = .ok (.iastore, 1) := by decide +kernel
theorem dX3_keepForAll_32 : decode cX3_keepForAll 32 = .ok (.iinc 4 1, 3) := by decide +kernel
theorem dX3_keepForAll_35 : decode cX3_keepForAll 35 = .ok (.goto (-32), 3) := by decide +kernel
theorem dX3_keepForAll_38 : decode cX3_keepForAll 38 = .ok (.return_, 1) := by decide +kernel
theorem dX4_init_0 : decode cX4_init 0 = .ok (.aload_n 0, 1) := by decide +kernel
theorem dX4_init_1 : decode cX4_init 1 = .ok (.invokespecial 3, 3) := by decide +kernel
theorem dX4_init_4 : decode cX4_init 4 = .ok (.aload_n 0, 1) := by decide +kernel
theorem dX4_init_5 : decode cX4_init 5 = .ok (.lload_n 1, 1) := by decide +kernel
theorem dX4_init_6 : decode cX4_init 6 = .ok (.putfield 9, 3) := by decide +kernel
theorem dX4_init_9 : decode cX4_init 9 = .ok (.aload_n 0, 1) := by decide +kernel
theorem dX4_init_10 : decode cX4_init 10 = .ok (.lload_n 3, 1) := by decide +kernel
theorem dX4_init_11 : decode cX4_init 11 = .ok (.putfield 15, 3) := by decide +kernel
theorem dX4_init_14 : decode cX4_init 14 = .ok (.aload_n 0, 1) := by decide +kernel
theorem dX4_init_15 : decode cX4_init 15 = .ok (.iload 5, 2) := by decide +kernel
theorem dX4_init_17 : decode cX4_init 17 = .ok (.putfield 18, 3) := by decide +kernel
theorem dX4_init_20 : decode cX4_init 20 = .ok (.aload_n 0, 1) := by decide +kernel
theorem dX4_init_21 : decode cX4_init 21 = .ok (.aload 7, 2) := by decide +kernel
theorem dX4_init_23 : decode cX4_init 23 = .ok (.ifnonnull 7, 3) := by decide +kernel
theorem dX4_init_26 : decode cX4_init 26 = .ok (.iconst 0, 1) := by decide +kernel
theorem dX4_init_27 : decode cX4_init 27 = .ok (.goto 10, 3) := by decide +kernel
theorem dX4_init_30 : decode cX4_init 30 = .ok (.aload 7, 2) := by decide +kernel
theorem dX4_init_32 : decode cX4_init 32 = .ok (.getfield 22, 3) := by decide +kernel
theorem dX4_init_35 : decode cX4_init 35 = .ok (.iconst 1, 1) := by decide +kernel
theorem dX4_init_36 : decode cX4_init 36 = .ok (.iadd, 1) := by decide +kernel
theorem dX4_init_37 : decode cX4_init 37 = .ok (.putfield 22, 3) := by decide +kernel
theorem dX4_init_40 : decode cX4_init 40 = .ok (.aload_n 0, 1) := by decide +kernel
theorem dX4_init_41 : decode cX4_init 41 = .ok (.iload 6, 2) := by decide +kernel
theorem dX4_init_43 : decode cX4_init 43 = .ok (.putfield 25, 3) := by decide +kernel
theorem dX4_init_46 : decode cX4_init 46 = .ok (.aload_n 0, 1) := by decide +kernel
theorem dX4_init_47 : decode cX4_init 47 = .ok (.aload 7, 2) := by decide +kernel
theorem dX4_init_49 : decode cX4_init 49 = .ok (.putfield 28, 3) := by decide +kernel
theorem dX4_init_52 : decode cX4_init 52 = .ok (.return_, 1) := by decide +kernel
theorem dX4_beginning_0 : decode cX4_beginning 0 = .ok (.iload_n 0, 1) := by decide +kernel
theorem dX4_beginning_1 : decode cX4_beginning 1 = .ok (.iconst 2, 1) := by decide +kernel
theorem dX4_beginning_2 : decode cX4_beginning 2 = .ok (.if_icmp .ge 16, 3) := by decide +kernel
theorem dX4_beginning_5 : decode cX4_beginning 5 = .ok (.new 10, 3) := by decide +kernel
theorem dX4_beginning_8 : decode cX4_beginning 8 = .ok (.dup, 1) := by decide +kernel
theorem dX4_beginning_9 : decode cX4_beginning 9 = .ok (.lconst 0, 1) := by decide +kernel
theorem dX4_beginning_10 : decode cX4_beginning 10 = .ok (.lconst 0, 1) := by decide +kernel
theorem dX4_beginning_11 : decode cX4_beginning 11 = .ok (.iconst 0, 1) := by decide +kernel
theorem dX4_beginning_12 : decode cX4_beginning 12 = .ok (.iconst 0, 1) := by decide +kernel
theorem dX4_beginning_13 : decode cX4_beginning 13 = .ok (.aconst_null, 1) := by decide +kernel
theorem dX4_beginning_14 : decode cX4_beginning 14 = .ok (.invokespecial 32, 3) := by decide +kernel
theorem dX4_beginning_17 : decode cX4_beginning 17 = .ok (.areturn, 1) := by decide +kernel
theorem dX4_beginning_18 : decode cX4_beginning 18 = .ok (.lconst 0, 1) := by decide +kernel
theorem dX4_beginning_19 : decode cX4_beginning 19 = .ok (.lstore_n 1, 1) := by decide +kernel
theorem dX4_beginning_20 : decode cX4_beginning 20 = .ok (.iconst 0, 1) := by decide +kernel
theorem dX4_beginning_21 : decode cX4_beginning 21 = .ok (.istore_n 3, 1) := by decide +kernel
theorem dX4_beginning_22 : decode cX4_beginning 22 = .ok (.iload_n 3, 1) := by decide +kernel
theorem dX4_beginning_23 : decode cX4_beginning 23 = .ok (.iload_n 0, 1) := by decide +kernel
theorem dX4_beginning_24 : decode cX4_beginning 24 = .ok (.if_icmp .ge 27, 3) := by decide +kernel
theorem dX4_beginning_27 : decode cX4_beginning 27 = .ok (.iload_n 3, 1) := by decide +kernel
theorem dX4_beginning_28 : decode cX4_beginning 28 = .ok (.getstatic 35, 3) := by decide +kernel
theorem dX4_beginning_31 : decode cX4_beginning 31 = .ok (.arraylength, 1) := by decide +kernel
theorem dX4_beginning_32 : decode cX4_beginning 32 = .ok (.if_icmp .ge 19, 3) := by decide +kernel
theorem dX4_beginning_35 : decode cX4_beginning 35 = .ok (.lload_n 1, 1) := by decide +kernel
theorem dX4_beginning_36 : decode cX4_beginning 36 = .ok (.lconst 1, 1) := by decide +kernel
theorem dX4_beginning_37 : decode cX4_beginning 37 = .ok (.getstatic 35, 3) := by decide +kernel
theorem dX4_beginning_40 : decode cX4_beginning 40 = .ok (.iload_n 3, 1) := by decide +kernel
theorem dX4_beginning_41 : decode cX4_beginning 41 = .ok (.iaload, 1) := by decide +kernel
theorem dX4_beginning_42 : decode cX4_beginning 42 = .ok (.lshl, 1) := by decide +kernel
theorem dX4_beginning_43 : decode cX4_beginning 43 = .ok (.lor, 1) := by decide +kernel
theorem dX4_beginning_44 : decode cX4_beginning 44 = .ok (.lstore_n 1, 1) := by decide +kernel
theorem dX4_beginning_45 : decode cX4_beginning 45 = .ok (.iinc 3 1, 3) := by decide +kernel
theorem dX4_beginning_48 : decode cX4_beginning 48 = .ok (.goto (-26), 3) := by decide +kernel
theorem dX4_beginning_51 : decode cX4_beginning 51 = .ok (.new 10, 3) := by decide +kernel
theorem dX4_beginning_54 : decode cX4_beginning 54 = .ok (.dup, 1) := by decide +kernel
theorem dX4_beginning_55 : decode cX4_beginning 55 = .ok (.lload_n 1, 1) := by decide +kernel
theorem dX4_beginning_56 : decode cX4_beginning 56 = .ok (.lconst 0, 1) := by decide +kernel
theorem dX4_beginning_57 : decode cX4_beginning 57 = .ok (.iconst 1, 1) := by decide +kernel
theorem dX4_beginning_58 : decode cX4_beginning 58 = .ok (.iconst 0, 1) := by decide +kernel
theorem dX4_beginning_59 : decode cX4_beginning 59 = .ok (.aconst_null, 1) := by decide +kernel
theorem dX4_beginning_60 : decode cX4_beginning 60 = .ok (.invokespecial 32, 3) := by decide +kernel
theorem dX4_beginning_63 : decode cX4_beginning 63 = .ok (.areturn, 1) := by decide +kernel
theorem dX4_withStone_0 : decode cX4_withStone 0 = .ok (.lconst 1, 1) := by decide +kernel
theorem dX4_withStone_1 : decode cX4_withStone 1 = .ok (.iload_n 1, 1) := by decide +kernel
theorem dX4_withStone_2 : decode cX4_withStone 2 = .ok (.lshl, 1) := by decide +kernel
theorem dX4_withStone_3 : decode cX4_withStone 3 = .ok (.lstore_n 2, 1) := by decide +kernel
theorem dX4_withStone_4 : decode cX4_withStone 4 = .ok (.aload_n 0, 1) := by decide +kernel
theorem dX4_withStone_5 : decode cX4_withStone 5 = .ok (.aload_n 0, 1) := by decide +kernel
theorem dX4_withStone_6 : decode cX4_withStone 6 = .ok (.getfield 18, 3) := by decide +kernel
theorem dX4_withStone_9 : decode cX4_withStone 9 = .ok (.invokevirtual 39, 3) := by decide +kernel
theorem dX4_withStone_12 : decode cX4_withStone 12 = .ok (.lstore 4, 2) := by decide +kernel
theorem dX4_withStone_14 : decode cX4_withStone 14 = .ok (.lload 4, 2) := by decide +kernel
theorem dX4_withStone_16 : decode cX4_withStone 16 = .ok (.aload_n 0, 1) := by decide +kernel
theorem dX4_withStone_17 : decode cX4_withStone 17 = .ok (.iconst 1, 1) := by decide +kernel
theorem dX4_withStone_18 : decode cX4_withStone 18 = .ok (.aload_n 0, 1) := by decide +kernel
theorem dX4_withStone_19 : decode cX4_withStone 19 = .ok (.getfield 18, 3) := by decide +kernel
theorem dX4_withStone_22 : decode cX4_withStone 22 = .ok (.isub, 1) := by decide +kernel
theorem dX4_withStone_23 : decode cX4_withStone 23 = .ok (.invokevirtual 39, 3) := by decide +kernel
theorem dX4_withStone_26 : decode cX4_withStone 26 = .ok (.lload_n 2, 1) := by decide +kernel
theorem dX4_withStone_27 : decode cX4_withStone 27 = .ok (.invokestatic 43, 3) := by decide +kernel
theorem dX4_withStone_30 : decode cX4_withStone 30 = .ok (.lstore 6, 2) := by decide +kernel
theorem dX4_withStone_32 : decode cX4_withStone 32 = .ok (.lload 6, 2) := by decide +kernel
theorem dX4_withStone_34 : decode cX4_withStone 34 = .ok (.ldc2_w 49, 3) := by decide +kernel
theorem dX4_withStone_37 : decode cX4_withStone 37 = .ok (.lcmp, 1) := by decide +kernel
theorem dX4_withStone_38 : decode cX4_withStone 38 = .ok (.ifCond .ne 5, 3) := by decide +kernel
theorem dX4_withStone_41 : decode cX4_withStone 41 = .ok (.aconst_null, 1) := by decide +kernel
theorem dX4_withStone_42 : decode cX4_withStone 42 = .ok (.areturn, 1) := by decide +kernel
theorem dX4_withStone_43 : decode cX4_withStone 43 = .ok (.lload 4, 2) := by decide +kernel
theorem dX4_withStone_45 : decode cX4_withStone 45 = .ok (.lload_n 2, 1) := by decide +kernel
theorem dX4_withStone_46 : decode cX4_withStone 46 = .ok (.lor, 1) := by decide +kernel
theorem dX4_withStone_47 : decode cX4_withStone 47 = .ok (.lstore 8, 2) := by decide +kernel
theorem dX4_withStone_49 : decode cX4_withStone 49 = .ok (.aload_n 0, 1) := by decide +kernel
theorem dX4_withStone_50 : decode cX4_withStone 50 = .ok (.getfield 18, 3) := by decide +kernel
theorem dX4_withStone_53 : decode cX4_withStone 53 = .ok (.ifCond .ne 8, 3) := by decide +kernel
theorem dX4_withStone_56 : decode cX4_withStone 56 = .ok (.lload 8, 2) := by decide +kernel
theorem dX4_withStone_58 : decode cX4_withStone 58 = .ok (.goto 5, 3) := by decide +kernel
theorem dX4_withStone_61 : decode cX4_withStone 61 = .ok (.lload 6, 2) := by decide +kernel
theorem dX4_withStone_63 : decode cX4_withStone 63 = .ok (.lstore 10, 2) := by decide +kernel
theorem dX4_withStone_65 : decode cX4_withStone 65 = .ok (.aload_n 0, 1) := by decide +kernel
theorem dX4_withStone_66 : decode cX4_withStone 66 = .ok (.getfield 18, 3) := by decide +kernel
theorem dX4_withStone_69 : decode cX4_withStone 69 = .ok (.ifCond .ne 8, 3) := by decide +kernel
theorem dX4_withStone_72 : decode cX4_withStone 72 = .ok (.lload 6, 2) := by decide +kernel
theorem dX4_withStone_74 : decode cX4_withStone 74 = .ok (.goto 5, 3) := by decide +kernel
theorem dX4_withStone_77 : decode cX4_withStone 77 = .ok (.lload 8, 2) := by decide +kernel
theorem dX4_withStone_79 : decode cX4_withStone 79 = .ok (.lstore 12, 2) := by decide +kernel
theorem dX4_withStone_81 : decode cX4_withStone 81 = .ok (.aload_n 0, 1) := by decide +kernel
theorem dX4_withStone_82 : decode cX4_withStone 82 = .ok (.lload 10, 2) := by decide +kernel
theorem dX4_withStone_84 : decode cX4_withStone 84 = .ok (.lload 12, 2) := by decide +kernel
theorem dX4_withStone_86 : decode cX4_withStone 86 = .ok (.invokevirtual 51, 3) := by decide +kernel
theorem dX4_withStone_89 : decode cX4_withStone 89 = .ok (.ifCond .eq 7, 3) := by decide +kernel
theorem dX4_withStone_92 : decode cX4_withStone 92 = .ok (.aconst_null, 1) := by decide +kernel
theorem dX4_withStone_93 : decode cX4_withStone 93 = .ok (.goto 22, 3) := by decide +kernel
theorem dX4_withStone_96 : decode cX4_withStone 96 = .ok (.new 10, 3) := by decide +kernel
theorem dX4_withStone_99 : decode cX4_withStone 99 = .ok (.dup, 1) := by decide +kernel
theorem dX4_withStone_100 : decode cX4_withStone 100 = .ok (.lload 10, 2) := by decide +kernel
theorem dX4_withStone_102 : decode cX4_withStone 102 = .ok (.lload 12, 2) := by decide +kernel
theorem dX4_withStone_104 : decode cX4_withStone 104 = .ok (.iconst 1, 1) := by decide +kernel
theorem dX4_withStone_105 : decode cX4_withStone 105 = .ok (.aload_n 0, 1) := by decide +kernel
theorem dX4_withStone_106 : decode cX4_withStone 106 = .ok (.getfield 18, 3) := by decide +kernel
theorem dX4_withStone_109 : decode cX4_withStone 109 = .ok (.isub, 1) := by decide +kernel
theorem dX4_withStone_110 : decode cX4_withStone 110 = .ok (.iconst 0, 1) := by decide +kernel
theorem dX4_withStone_111 : decode cX4_withStone 111 = .ok (.aload_n 0, 1) := by decide +kernel
theorem dX4_withStone_112 : decode cX4_withStone 112 = .ok (.invokespecial 32, 3) := by decide +kernel
theorem dX4_withStone_115 : decode cX4_withStone 115 = .ok (.areturn, 1) := by decide +kernel
theorem dX4_withPassing_0 : decode cX4_withPassing 0 = .ok (.new 10, 3) := by decide +kernel
theorem dX4_withPassing_3 : decode cX4_withPassing 3 = .ok (.dup, 1) := by decide +kernel
theorem dX4_withPassing_4 : decode cX4_withPassing 4 = .ok (.aload_n 0, 1) := by decide +kernel
theorem dX4_withPassing_5 : decode cX4_withPassing 5 = .ok (.getfield 9, 3) := by decide +kernel
theorem dX4_withPassing_8 : decode cX4_withPassing 8 = .ok (.aload_n 0, 1) := by decide +kernel
theorem dX4_withPassing_9 : decode cX4_withPassing 9 = .ok (.getfield 15, 3) := by decide +kernel
theorem dX4_withPassing_12 : decode cX4_withPassing 12 = .ok (.iconst 1, 1) := by decide +kernel
theorem dX4_withPassing_13 : decode cX4_withPassing 13 = .ok (.aload_n 0, 1) := by decide +kernel
theorem dX4_withPassing_14 : decode cX4_withPassing 14 = .ok (.getfield 18, 3) := by decide +kernel
theorem dX4_withPassing_17 : decode cX4_withPassing 17 = .ok (.isub, 1) := by decide +kernel
theorem dX4_withPassing_18 : decode cX4_withPassing 18 = .ok (.aload_n 0, 1) := by decide +kernel
theorem dX4_withPassing_19 : decode cX4_withPassing 19 = .ok (.getfield 25, 3) := by decide +kernel
theorem dX4_withPassing_22 : decode cX4_withPassing 22 = .ok (.iconst 1, 1) := by decide +kernel
theorem dX4_withPassing_23 : decode cX4_withPassing 23 = .ok (.iadd, 1) := by decide +kernel
theorem dX4_withPassing_24 : decode cX4_withPassing 24 = .ok (.aload_n 0, 1) := by decide +kernel
theorem dX4_withPassing_25 : decode cX4_withPassing 25 = .ok (.invokespecial 32, 3) := by decide +kernel
theorem dX4_withPassing_28 : decode cX4_withPassing 28 = .ok (.areturn, 1) := by decide +kernel
theorem dX4_wasThere_0 : decode cX4_wasThere 0 = .ok (.aload_n 0, 1) := by decide +kernel
theorem dX4_wasThere_1 : decode cX4_wasThere 1 = .ok (.astore 5, 2) := by decide +kernel
theorem dX4_wasThere_3 : decode cX4_wasThere 3 = .ok (.aload 5, 2) := by decide +kernel
theorem dX4_wasThere_5 : decode cX4_wasThere 5 = .ok (.ifnull 35, 3) := by decide +kernel
theorem dX4_wasThere_8 : decode cX4_wasThere 8 = .ok (.aload 5, 2) := by decide +kernel
theorem dX4_wasThere_10 : decode cX4_wasThere 10 = .ok (.getfield 9, 3) := by decide +kernel
theorem dX4_wasThere_13 : decode cX4_wasThere 13 = .ok (.lload_n 1, 1) := by decide +kernel
theorem dX4_wasThere_14 : decode cX4_wasThere 14 = .ok (.lcmp, 1) := by decide +kernel
theorem dX4_wasThere_15 : decode cX4_wasThere 15 = .ok (.ifCond .ne 15, 3) := by decide +kernel
theorem dX4_wasThere_18 : decode cX4_wasThere 18 = .ok (.aload 5, 2) := by decide +kernel
theorem dX4_wasThere_20 : decode cX4_wasThere 20 = .ok (.getfield 15, 3) := by decide +kernel
theorem dX4_wasThere_23 : decode cX4_wasThere 23 = .ok (.lload_n 3, 1) := by decide +kernel
theorem dX4_wasThere_24 : decode cX4_wasThere 24 = .ok (.lcmp, 1) := by decide +kernel
theorem dX4_wasThere_25 : decode cX4_wasThere 25 = .ok (.ifCond .ne 5, 3) := by decide +kernel
theorem dX4_wasThere_28 : decode cX4_wasThere 28 = .ok (.iconst 1, 1) := by decide +kernel
theorem dX4_wasThere_29 : decode cX4_wasThere 29 = .ok (.ireturn, 1) := by decide +kernel
theorem dX4_wasThere_30 : decode cX4_wasThere 30 = .ok (.aload 5, 2) := by decide +kernel
theorem dX4_wasThere_32 : decode cX4_wasThere 32 = .ok (.getfield 28, 3) := by decide +kernel
theorem dX4_wasThere_35 : decode cX4_wasThere 35 = .ok (.astore 5, 2) := by decide +kernel
theorem dX4_wasThere_37 : decode cX4_wasThere 37 = .ok (.goto (-34), 3) := by decide +kernel
theorem dX4_wasThere_40 : decode cX4_wasThere 40 = .ok (.iconst 0, 1) := by decide +kernel
theorem dX4_wasThere_41 : decode cX4_wasThere 41 = .ok (.ireturn, 1) := by decide +kernel
theorem dX4_behind_0 : decode cX4_behind 0 = .ok (.aload_n 0, 1) := by decide +kernel
theorem dX4_behind_1 : decode cX4_behind 1 = .ok (.astore_n 2, 1) := by decide +kernel
theorem dX4_behind_2 : decode cX4_behind 2 = .ok (.aload_n 2, 1) := by decide +kernel
theorem dX4_behind_3 : decode cX4_behind 3 = .ok (.ifnull 19, 3) := by decide +kernel
theorem dX4_behind_6 : decode cX4_behind 6 = .ok (.aload_n 2, 1) := by decide +kernel
theorem dX4_behind_7 : decode cX4_behind 7 = .ok (.getfield 22, 3) := by decide +kernel
theorem dX4_behind_10 : decode cX4_behind 10 = .ok (.iload_n 1, 1) := by decide +kernel
theorem dX4_behind_11 : decode cX4_behind 11 = .ok (.if_icmp .eq 11, 3) := by decide +kernel
theorem dX4_behind_14 : decode cX4_behind 14 = .ok (.aload_n 2, 1) := by decide +kernel
theorem dX4_behind_15 : decode cX4_behind 15 = .ok (.getfield 28, 3) := by decide +kernel
theorem dX4_behind_18 : decode cX4_behind 18 = .ok (.astore_n 2, 1) := by decide +kernel
theorem dX4_behind_19 : decode cX4_behind 19 = .ok (.goto (-17), 3) := by decide +kernel
theorem dX4_behind_22 : decode cX4_behind 22 = .ok (.aload_n 2, 1) := by decide +kernel
theorem dX4_behind_23 : decode cX4_behind 23 = .ok (.areturn, 1) := by decide +kernel
theorem dX4_stonesOf_0 : decode cX4_stonesOf 0 = .ok (.iload_n 1, 1) := by decide +kernel
theorem dX4_stonesOf_1 : decode cX4_stonesOf 1 = .ok (.ifCond .ne 10, 3) := by decide +kernel
theorem dX4_stonesOf_4 : decode cX4_stonesOf 4 = .ok (.aload_n 0, 1) := by decide +kernel
theorem dX4_stonesOf_5 : decode cX4_stonesOf 5 = .ok (.getfield 9, 3) := by decide +kernel
theorem dX4_stonesOf_8 : decode cX4_stonesOf 8 = .ok (.goto 7, 3) := by decide +kernel
theorem dX4_stonesOf_11 : decode cX4_stonesOf 11 = .ok (.aload_n 0, 1) := by decide +kernel
theorem dX4_stonesOf_12 : decode cX4_stonesOf 12 = .ok (.getfield 15, 3) := by decide +kernel
theorem dX4_stonesOf_15 : decode cX4_stonesOf 15 = .ok (.lreturn, 1) := by decide +kernel
theorem dX4_stones_0 : decode cX4_stones 0 = .ok (.aload_n 0, 1) := by decide +kernel
theorem dX4_stones_1 : decode cX4_stones 1 = .ok (.getfield 9, 3) := by decide +kernel
theorem dX4_stones_4 : decode cX4_stones 4 = .ok (.aload_n 0, 1) := by decide +kernel
theorem dX4_stones_5 : decode cX4_stones 5 = .ok (.getfield 15, 3) := by decide +kernel
theorem dX4_stones_8 : decode cX4_stones 8 = .ok (.lor, 1) := by decide +kernel
theorem dX4_stones_9 : decode cX4_stones 9 = .ok (.lreturn, 1) := by decide +kernel
theorem dX4_chainAt_0 : decode cX4_chainAt 0 = .ok (.lconst 1, 1) := by decide +kernel
theorem dX4_chainAt_1 : decode cX4_chainAt 1 = .ok (.iload_n 1, 1) := by decide +kernel
theorem dX4_chainAt_2 : decode cX4_chainAt 2 = .ok (.lshl, 1) := by decide +kernel
theorem dX4_chainAt_3 : decode cX4_chainAt 3 = .ok (.lstore_n 2, 1) := by decide +kernel
theorem dX4_chainAt_4 : decode cX4_chainAt 4 = .ok (.lload_n 2, 1) := by decide +kernel
theorem dX4_chainAt_5 : decode cX4_chainAt 5 = .ok (.aload_n 0, 1) := by decide +kernel
theorem dX4_chainAt_6 : decode cX4_chainAt 6 = .ok (.getfield 9, 3) := by decide +kernel
theorem dX4_chainAt_9 : decode cX4_chainAt 9 = .ok (.lload_n 2, 1) := by decide +kernel
theorem dX4_chainAt_10 : decode cX4_chainAt 10 = .ok (.land, 1) := by decide +kernel
theorem dX4_chainAt_11 : decode cX4_chainAt 11 = .ok (.lconst 0, 1) := by decide +kernel
theorem dX4_chainAt_12 : decode cX4_chainAt 12 = .ok (.lcmp, 1) := by decide +kernel
theorem dX4_chainAt_13 : decode cX4_chainAt 13 = .ok (.ifCond .eq 10, 3) := by decide +kernel
theorem dX4_chainAt_16 : decode cX4_chainAt 16 = .ok (.aload_n 0, 1) := by decide +kernel
theorem dX4_chainAt_17 : decode cX4_chainAt 17 = .ok (.getfield 9, 3) := by decide +kernel
theorem dX4_chainAt_20 : decode cX4_chainAt 20 = .ok (.goto 7, 3) := by decide +kernel
theorem dX4_chainAt_23 : decode cX4_chainAt 23 = .ok (.aload_n 0, 1) := by decide +kernel
theorem dX4_chainAt_24 : decode cX4_chainAt 24 = .ok (.getfield 15, 3) := by decide +kernel
theorem dX4_chainAt_27 : decode cX4_chainAt 27 = .ok (.invokestatic 55, 3) := by decide +kernel
theorem dX4_chainAt_30 : decode cX4_chainAt 30 = .ok (.lreturn, 1) := by decide +kernel
theorem dX4_countLiberties_0 : decode cX4_countLiberties 0 = .ok (.aload_n 0, 1) := by decide +kernel
theorem dX4_countLiberties_1 : decode cX4_countLiberties 1 = .ok (.iload_n 1, 1) := by decide +kernel
theorem dX4_countLiberties_2 : decode cX4_countLiberties 2 = .ok (.invokevirtual 59, 3) := by decide +kernel
theorem dX4_countLiberties_5 : decode cX4_countLiberties 5 = .ok (.aload_n 0, 1) := by decide +kernel
theorem dX4_countLiberties_6 : decode cX4_countLiberties 6 = .ok (.invokevirtual 62, 3) := by decide +kernel
theorem dX4_countLiberties_9 : decode cX4_countLiberties 9 = .ok (.invokestatic 66, 3) := by decide +kernel
theorem dX4_countLiberties_12 : decode cX4_countLiberties 12 = .ok (.invokestatic 69, 3) := by decide +kernel
theorem dX4_countLiberties_15 : decode cX4_countLiberties 15 = .ok (.ireturn, 1) := by decide +kernel
theorem dX4_signAt_0 : decode cX4_signAt 0 = .ok (.lconst 1, 1) := by decide +kernel
theorem dX4_signAt_1 : decode cX4_signAt 1 = .ok (.iload_n 1, 1) := by decide +kernel
theorem dX4_signAt_2 : decode cX4_signAt 2 = .ok (.lshl, 1) := by decide +kernel
theorem dX4_signAt_3 : decode cX4_signAt 3 = .ok (.lstore_n 2, 1) := by decide +kernel
theorem dX4_signAt_4 : decode cX4_signAt 4 = .ok (.aload_n 0, 1) := by decide +kernel
theorem dX4_signAt_5 : decode cX4_signAt 5 = .ok (.getfield 9, 3) := by decide +kernel
theorem dX4_signAt_8 : decode cX4_signAt 8 = .ok (.lload_n 2, 1) := by decide +kernel
theorem dX4_signAt_9 : decode cX4_signAt 9 = .ok (.land, 1) := by decide +kernel
theorem dX4_signAt_10 : decode cX4_signAt 10 = .ok (.lconst 0, 1) := by decide +kernel
theorem dX4_signAt_11 : decode cX4_signAt 11 = .ok (.lcmp, 1) := by decide +kernel
theorem dX4_signAt_12 : decode cX4_signAt 12 = .ok (.ifCond .eq 6, 3) := by decide +kernel
theorem dX4_signAt_15 : decode cX4_signAt 15 = .ok (.bipush 88, 2) := by decide +kernel
theorem dX4_signAt_17 : decode cX4_signAt 17 = .ok (.ireturn, 1) := by decide +kernel
theorem dX4_signAt_18 : decode cX4_signAt 18 = .ok (.aload_n 0, 1) := by decide +kernel
theorem dX4_signAt_19 : decode cX4_signAt 19 = .ok (.getfield 15, 3) := by decide +kernel
theorem dX4_signAt_22 : decode cX4_signAt 22 = .ok (.lload_n 2, 1) := by decide +kernel
theorem dX4_signAt_23 : decode cX4_signAt 23 = .ok (.land, 1) := by decide +kernel
theorem dX4_signAt_24 : decode cX4_signAt 24 = .ok (.lconst 0, 1) := by decide +kernel
theorem dX4_signAt_25 : decode cX4_signAt 25 = .ok (.lcmp, 1) := by decide +kernel
theorem dX4_signAt_26 : decode cX4_signAt 26 = .ok (.ifCond .eq 8, 3) := by decide +kernel
theorem dX4_signAt_29 : decode cX4_signAt 29 = .ok (.bipush 79, 2) := by decide +kernel
theorem dX4_signAt_31 : decode cX4_signAt 31 = .ok (.goto 5, 3) := by decide +kernel
theorem dX4_signAt_34 : decode cX4_signAt 34 = .ok (.bipush 46, 2) := by decide +kernel
theorem dX4_signAt_36 : decode cX4_signAt 36 = .ok (.ireturn, 1) := by decide +kernel
theorem dX4_canBeCaught_0 : decode cX4_canBeCaught 0 = .ok (.lconst 1, 1) := by decide +kernel
theorem dX4_canBeCaught_1 : decode cX4_canBeCaught 1 = .ok (.iload_n 1, 1) := by decide +kernel
theorem dX4_canBeCaught_2 : decode cX4_canBeCaught 2 = .ok (.lshl, 1) := by decide +kernel
theorem dX4_canBeCaught_3 : decode cX4_canBeCaught 3 = .ok (.lstore 4, 2) := by decide +kernel
theorem dX4_canBeCaught_5 : decode cX4_canBeCaught 5 = .ok (.aload_n 0, 1) := by decide +kernel
theorem dX4_canBeCaught_6 : decode cX4_canBeCaught 6 = .ok (.getfield 9, 3) := by decide +kernel
theorem dX4_canBeCaught_9 : decode cX4_canBeCaught 9 = .ok (.lload 4, 2) := by decide +kernel
theorem dX4_canBeCaught_11 : decode cX4_canBeCaught 11 = .ok (.land, 1) := by decide +kernel
theorem dX4_canBeCaught_12 : decode cX4_canBeCaught 12 = .ok (.lconst 0, 1) := by decide +kernel
theorem dX4_canBeCaught_13 : decode cX4_canBeCaught 13 = .ok (.lcmp, 1) := by decide +kernel
theorem dX4_canBeCaught_14 : decode cX4_canBeCaught 14 = .ok (.ifCond .eq 19, 3) := by decide +kernel
theorem dX4_canBeCaught_17 : decode cX4_canBeCaught 17 = .ok (.aload_n 0, 1) := by decide +kernel
theorem dX4_canBeCaught_18 : decode cX4_canBeCaught 18 = .ok (.getfield 9, 3) := by decide +kernel
theorem dX4_canBeCaught_21 : decode cX4_canBeCaught 21 = .ok (.aload_n 0, 1) := by decide +kernel
theorem dX4_canBeCaught_22 : decode cX4_canBeCaught 22 = .ok (.getfield 15, 3) := by decide +kernel
theorem dX4_canBeCaught_25 : decode cX4_canBeCaught 25 = .ok (.lload 4, 2) := by decide +kernel
theorem dX4_canBeCaught_27 : decode cX4_canBeCaught 27 = .ok (.iload_n 2, 1) := by decide +kernel
theorem dX4_canBeCaught_28 : decode cX4_canBeCaught 28 = .ok (.iload_n 3, 1) := by decide +kernel
theorem dX4_canBeCaught_29 : decode cX4_canBeCaught 29 = .ok (.invokestatic 75, 3) := by decide +kernel
theorem dX4_canBeCaught_32 : decode cX4_canBeCaught 32 = .ok (.ireturn, 1) := by decide +kernel
theorem dX4_canBeCaught_33 : decode cX4_canBeCaught 33 = .ok (.aload_n 0, 1) := by decide +kernel
theorem dX4_canBeCaught_34 : decode cX4_canBeCaught 34 = .ok (.getfield 15, 3) := by decide +kernel
theorem dX4_canBeCaught_37 : decode cX4_canBeCaught 37 = .ok (.lload 4, 2) := by decide +kernel
theorem dX4_canBeCaught_39 : decode cX4_canBeCaught 39 = .ok (.land, 1) := by decide +kernel
theorem dX4_canBeCaught_40 : decode cX4_canBeCaught 40 = .ok (.lconst 0, 1) := by decide +kernel
theorem dX4_canBeCaught_41 : decode cX4_canBeCaught 41 = .ok (.lcmp, 1) := by decide +kernel
theorem dX4_canBeCaught_42 : decode cX4_canBeCaught 42 = .ok (.ifCond .eq 25, 3) := by decide +kernel
theorem dX4_canBeCaught_45 : decode cX4_canBeCaught 45 = .ok (.aload_n 0, 1) := by decide +kernel
theorem dX4_canBeCaught_46 : decode cX4_canBeCaught 46 = .ok (.getfield 15, 3) := by decide +kernel
theorem dX4_canBeCaught_49 : decode cX4_canBeCaught 49 = .ok (.aload_n 0, 1) := by decide +kernel
theorem dX4_canBeCaught_50 : decode cX4_canBeCaught 50 = .ok (.getfield 9, 3) := by decide +kernel
theorem dX4_canBeCaught_53 : decode cX4_canBeCaught 53 = .ok (.lload 4, 2) := by decide +kernel
theorem dX4_canBeCaught_55 : decode cX4_canBeCaught 55 = .ok (.iload_n 2, 1) := by decide +kernel
theorem dX4_canBeCaught_56 : decode cX4_canBeCaught 56 = .ok (.iload_n 3, 1) := by decide +kernel
theorem dX4_canBeCaught_57 : decode cX4_canBeCaught 57 = .ok (.invokestatic 75, 3) := by decide +kernel
theorem dX4_canBeCaught_60 : decode cX4_canBeCaught 60 = .ok (.ifCond .eq 7, 3) := by decide +kernel
theorem dX4_canBeCaught_63 : decode cX4_canBeCaught 63 = .ok (.iconst 1, 1) := by decide +kernel
theorem dX4_canBeCaught_64 : decode cX4_canBeCaught 64 = .ok (.goto 4, 3) := by decide +kernel
theorem dX4_canBeCaught_67 : decode cX4_canBeCaught 67 = .ok (.iconst 0, 1) := by decide +kernel
theorem dX4_canBeCaught_68 : decode cX4_canBeCaught 68 = .ok (.ireturn, 1) := by decide +kernel
theorem dX5_caught_0 : decode cX5_caught 0 = .ok (.iload 6, 2) := by decide +kernel
theorem dX5_caught_2 : decode cX5_caught 2 = .ok (.iconst 1, 1) := by decide +kernel
theorem dX5_caught_3 : decode cX5_caught 3 = .ok (.if_icmp .lt 10, 3) := by decide +kernel
theorem dX5_caught_6 : decode cX5_caught 6 = .ok (.iload 6, 2) := by decide +kernel
theorem dX5_caught_8 : decode cX5_caught 8 = .ok (.bipush 8, 2) := by decide +kernel
theorem dX5_caught_10 : decode cX5_caught 10 = .ok (.if_icmp .le 5, 3) := by decide +kernel
theorem dX5_caught_13 : decode cX5_caught 13 = .ok (.iconst 0, 1) := by decide +kernel
theorem dX5_caught_14 : decode cX5_caught 14 = .ok (.ireturn, 1) := by decide +kernel
theorem dX5_caught_15 : decode cX5_caught 15 = .ok (.lload_n 0, 1) := by decide +kernel
theorem dX5_caught_16 : decode cX5_caught 16 = .ok (.lload_n 2, 1) := by decide +kernel
theorem dX5_caught_17 : decode cX5_caught 17 = .ok (.lor, 1) := by decide +kernel
theorem dX5_caught_18 : decode cX5_caught 18 = .ok (.lstore 8, 2) := by decide +kernel
theorem dX5_caught_20 : decode cX5_caught 20 = .ok (.lload 4, 2) := by decide +kernel
theorem dX5_caught_22 : decode cX5_caught 22 = .ok (.lload_n 0, 1) := by decide +kernel
theorem dX5_caught_23 : decode cX5_caught 23 = .ok (.invokestatic 9, 3) := by decide +kernel
theorem dX5_caught_26 : decode cX5_caught 26 = .ok (.lload 8, 2) := by decide +kernel
theorem dX5_caught_28 : decode cX5_caught 28 = .ok (.invokestatic 15, 3) := by decide +kernel
theorem dX5_caught_31 : decode cX5_caught 31 = .ok (.lstore 10, 2) := by decide +kernel
theorem dX5_caught_33 : decode cX5_caught 33 = .ok (.lload 10, 2) := by decide +kernel
theorem dX5_caught_35 : decode cX5_caught 35 = .ok (.invokestatic 18, 3) := by decide +kernel
theorem dX5_caught_38 : decode cX5_caught 38 = .ok (.istore 12, 2) := by decide +kernel
theorem dX5_caught_40 : decode cX5_caught 40 = .ok (.iload 12, 2) := by decide +kernel
theorem dX5_caught_42 : decode cX5_caught 42 = .ok (.iconst 1, 1) := by decide +kernel
theorem dX5_caught_43 : decode cX5_caught 43 = .ok (.if_icmp .ne 19, 3) := by decide +kernel
theorem dX5_caught_46 : decode cX5_caught 46 = .ok (.lload_n 2, 1) := by decide +kernel
theorem dX5_caught_47 : decode cX5_caught 47 = .ok (.lload_n 0, 1) := by decide +kernel
theorem dX5_caught_48 : decode cX5_caught 48 = .ok (.lload 10, 2) := by decide +kernel
theorem dX5_caught_50 : decode cX5_caught 50 = .ok (.invokestatic 24, 3) := by decide +kernel
theorem dX5_caught_53 : decode cX5_caught 53 = .ok (.ldc2_w 28, 3) := by decide +kernel
theorem dX5_caught_56 : decode cX5_caught 56 = .ok (.lcmp, 1) := by decide +kernel
theorem dX5_caught_57 : decode cX5_caught 57 = .ok (.ifCond .eq 5, 3) := by decide +kernel
theorem dX5_caught_60 : decode cX5_caught 60 = .ok (.iconst 1, 1) := by decide +kernel
theorem dX5_caught_61 : decode cX5_caught 61 = .ok (.ireturn, 1) := by decide +kernel
theorem dX5_caught_62 : decode cX5_caught 62 = .ok (.iload 6, 2) := by decide +kernel
theorem dX5_caught_64 : decode cX5_caught 64 = .ok (.iconst 2, 1) := by decide +kernel
theorem dX5_caught_65 : decode cX5_caught 65 = .ok (.if_icmp .lt 10, 3) := by decide +kernel
theorem dX5_caught_68 : decode cX5_caught 68 = .ok (.iload 12, 2) := by decide +kernel
theorem dX5_caught_70 : decode cX5_caught 70 = .ok (.iload 7, 2) := by decide +kernel
theorem dX5_caught_72 : decode cX5_caught 72 = .ok (.if_icmp .le 5, 3) := by decide +kernel
theorem dX5_caught_75 : decode cX5_caught 75 = .ok (.iconst 0, 1) := by decide +kernel
theorem dX5_caught_76 : decode cX5_caught 76 = .ok (.ireturn, 1) := by decide +kernel
theorem dX5_caught_77 : decode cX5_caught 77 = .ok (.iload 7, 2) := by decide +kernel
theorem dX5_caught_79 : decode cX5_caught 79 = .ok (.iconst 2, 1) := by decide +kernel
theorem dX5_caught_80 : decode cX5_caught 80 = .ok (.if_icmp .ne 8, 3) := by decide +kernel
theorem dX5_caught_83 : decode cX5_caught 83 = .ok (.lload 10, 2) := by decide +kernel
theorem dX5_caught_85 : decode cX5_caught 85 = .ok (.goto 13, 3) := by decide +kernel
theorem dX5_caught_88 : decode cX5_caught 88 = .ok (.lload 10, 2) := by decide +kernel
theorem dX5_caught_90 : decode cX5_caught 90 = .ok (.lload 10, 2) := by decide +kernel
theorem dX5_caught_92 : decode cX5_caught 92 = .ok (.lload 8, 2) := by decide +kernel
theorem dX5_caught_94 : decode cX5_caught 94 = .ok (.invokestatic 15, 3) := by decide +kernel
theorem dX5_caught_97 : decode cX5_caught 97 = .ok (.lor, 1) := by decide +kernel
theorem dX5_caught_98 : decode cX5_caught 98 = .ok (.lstore 13, 2) := by decide +kernel
theorem dX5_caught_100 : decode cX5_caught 100 = .ok (.iconst 0, 1) := by decide +kernel
theorem dX5_caught_101 : decode cX5_caught 101 = .ok (.istore 15, 2) := by decide +kernel
theorem dX5_caught_103 : decode cX5_caught 103 = .ok (.iload 15, 2) := by decide +kernel
theorem dX5_caught_105 : decode cX5_caught 105 = .ok (.bipush 49, 2) := by decide +kernel
theorem dX5_caught_107 : decode cX5_caught 107 = .ok (.if_icmp .ge 43, 3) := by decide +kernel
theorem dX5_caught_110 : decode cX5_caught 110 = .ok (.lload 13, 2) := by decide +kernel
theorem dX5_caught_112 : decode cX5_caught 112 = .ok (.lconst 1, 1) := by decide +kernel
theorem dX5_caught_113 : decode cX5_caught 113 = .ok (.iload 15, 2) := by decide +kernel
theorem dX5_caught_115 : decode cX5_caught 115 = .ok (.lshl, 1) := by decide +kernel
theorem dX5_caught_116 : decode cX5_caught 116 = .ok (.land, 1) := by decide +kernel
theorem dX5_caught_117 : decode cX5_caught 117 = .ok (.lstore 16, 2) := by decide +kernel
theorem dX5_caught_119 : decode cX5_caught 119 = .ok (.lload 16, 2) := by decide +kernel
theorem dX5_caught_121 : decode cX5_caught 121 = .ok (.lconst 0, 1) := by decide +kernel
theorem dX5_caught_122 : decode cX5_caught 122 = .ok (.lcmp, 1) := by decide +kernel
theorem dX5_caught_123 : decode cX5_caught 123 = .ok (.ifCond .eq 21, 3) := by decide +kernel
theorem dX5_caught_126 : decode cX5_caught 126 = .ok (.lload_n 0, 1) := by decide +kernel
theorem dX5_caught_127 : decode cX5_caught 127 = .ok (.lload_n 2, 1) := by decide +kernel
theorem dX5_caught_128 : decode cX5_caught 128 = .ok (.lload 4, 2) := by decide +kernel
theorem dX5_caught_130 : decode cX5_caught 130 = .ok (.lload 16, 2) := by decide +kernel
theorem dX5_caught_132 : decode cX5_caught 132 = .ok (.iload 6, 2) := by decide +kernel
theorem dX5_caught_134 : decode cX5_caught 134 = .ok (.iload 7, 2) := by decide +kernel
theorem dX5_caught_136 : decode cX5_caught 136 = .ok (.invokestatic 30, 3) := by decide +kernel
theorem dX5_caught_139 : decode cX5_caught 139 = .ok (.ifCond .eq 5, 3) := by decide +kernel
theorem dX5_caught_142 : decode cX5_caught 142 = .ok (.iconst 1, 1) := by decide +kernel
theorem dX5_caught_143 : decode cX5_caught 143 = .ok (.ireturn, 1) := by decide +kernel
theorem dX5_caught_144 : decode cX5_caught 144 = .ok (.iinc 15 1, 3) := by decide +kernel
theorem dX5_caught_147 : decode cX5_caught 147 = .ok (.goto (-44), 3) := by decide +kernel
theorem dX5_caught_150 : decode cX5_caught 150 = .ok (.iconst 0, 1) := by decide +kernel
theorem dX5_caught_151 : decode cX5_caught 151 = .ok (.ireturn, 1) := by decide +kernel
theorem dX5_catches_0 : decode cX5_catches 0 = .ok (.lload_n 2, 1) := by decide +kernel
theorem dX5_catches_1 : decode cX5_catches 1 = .ok (.lload_n 0, 1) := by decide +kernel
theorem dX5_catches_2 : decode cX5_catches 2 = .ok (.lload 6, 2) := by decide +kernel
theorem dX5_catches_4 : decode cX5_catches 4 = .ok (.invokestatic 24, 3) := by decide +kernel
theorem dX5_catches_7 : decode cX5_catches 7 = .ok (.lstore 10, 2) := by decide +kernel
theorem dX5_catches_9 : decode cX5_catches 9 = .ok (.lload 10, 2) := by decide +kernel
theorem dX5_catches_11 : decode cX5_catches 11 = .ok (.ldc2_w 28, 3) := by decide +kernel
theorem dX5_catches_14 : decode cX5_catches 14 = .ok (.lcmp, 1) := by decide +kernel
theorem dX5_catches_15 : decode cX5_catches 15 = .ok (.ifCond .eq 13, 3) := by decide +kernel
theorem dX5_catches_18 : decode cX5_catches 18 = .ok (.lload 10, 2) := by decide +kernel
theorem dX5_catches_20 : decode cX5_catches 20 = .ok (.lload 4, 2) := by decide +kernel
theorem dX5_catches_22 : decode cX5_catches 22 = .ok (.land, 1) := by decide +kernel
theorem dX5_catches_23 : decode cX5_catches 23 = .ok (.lconst 0, 1) := by decide +kernel
theorem dX5_catches_24 : decode cX5_catches 24 = .ok (.lcmp, 1) := by decide +kernel
theorem dX5_catches_25 : decode cX5_catches 25 = .ok (.ifCond .ne 5, 3) := by decide +kernel
theorem dX5_catches_28 : decode cX5_catches 28 = .ok (.iconst 0, 1) := by decide +kernel
theorem dX5_catches_29 : decode cX5_catches 29 = .ok (.ireturn, 1) := by decide +kernel
theorem dX5_catches_30 : decode cX5_catches 30 = .ok (.lload_n 2, 1) := by decide +kernel
theorem dX5_catches_31 : decode cX5_catches 31 = .ok (.lload 6, 2) := by decide +kernel
theorem dX5_catches_33 : decode cX5_catches 33 = .ok (.lor, 1) := by decide +kernel
theorem dX5_catches_34 : decode cX5_catches 34 = .ok (.lstore 12, 2) := by decide +kernel
theorem dX5_catches_36 : decode cX5_catches 36 = .ok (.lload 4, 2) := by decide +kernel
theorem dX5_catches_38 : decode cX5_catches 38 = .ok (.lload 10, 2) := by decide +kernel
theorem dX5_catches_40 : decode cX5_catches 40 = .ok (.invokestatic 9, 3) := by decide +kernel
theorem dX5_catches_43 : decode cX5_catches 43 = .ok (.lload 10, 2) := by decide +kernel
theorem dX5_catches_45 : decode cX5_catches 45 = .ok (.lload 12, 2) := by decide +kernel
theorem dX5_catches_47 : decode cX5_catches 47 = .ok (.lor, 1) := by decide +kernel
theorem dX5_catches_48 : decode cX5_catches 48 = .ok (.invokestatic 15, 3) := by decide +kernel
theorem dX5_catches_51 : decode cX5_catches 51 = .ok (.invokestatic 18, 3) := by decide +kernel
theorem dX5_catches_54 : decode cX5_catches 54 = .ok (.istore 14, 2) := by decide +kernel
theorem dX5_catches_56 : decode cX5_catches 56 = .ok (.iload 14, 2) := by decide +kernel
theorem dX5_catches_58 : decode cX5_catches 58 = .ok (.iconst 1, 1) := by decide +kernel
theorem dX5_catches_59 : decode cX5_catches 59 = .ok (.if_icmp .lt 15, 3) := by decide +kernel
theorem dX5_catches_62 : decode cX5_catches 62 = .ok (.iload 9, 2) := by decide +kernel
theorem dX5_catches_64 : decode cX5_catches 64 = .ok (.iconst 2, 1) := by decide +kernel
theorem dX5_catches_65 : decode cX5_catches 65 = .ok (.if_icmp .ne 11, 3) := by decide +kernel
theorem dX5_catches_68 : decode cX5_catches 68 = .ok (.iload 14, 2) := by decide +kernel
theorem dX5_catches_70 : decode cX5_catches 70 = .ok (.iconst 1, 1) := by decide +kernel
theorem dX5_catches_71 : decode cX5_catches 71 = .ok (.if_icmp .eq 5, 3) := by decide +kernel
theorem dX5_catches_74 : decode cX5_catches 74 = .ok (.iconst 0, 1) := by decide +kernel
theorem dX5_catches_75 : decode cX5_catches 75 = .ok (.ireturn, 1) := by decide +kernel
theorem dX5_catches_76 : decode cX5_catches 76 = .ok (.lload 10, 2) := by decide +kernel
theorem dX5_catches_78 : decode cX5_catches 78 = .ok (.lload 12, 2) := by decide +kernel
theorem dX5_catches_80 : decode cX5_catches 80 = .ok (.lload 4, 2) := by decide +kernel
theorem dX5_catches_82 : decode cX5_catches 82 = .ok (.iload 8, 2) := by decide +kernel
theorem dX5_catches_84 : decode cX5_catches 84 = .ok (.iconst 1, 1) := by decide +kernel
theorem dX5_catches_85 : decode cX5_catches 85 = .ok (.isub, 1) := by decide +kernel
theorem dX5_catches_86 : decode cX5_catches 86 = .ok (.iload 9, 2) := by decide +kernel
theorem dX5_catches_88 : decode cX5_catches 88 = .ok (.invokestatic 36, 3) := by decide +kernel
theorem dX5_catches_91 : decode cX5_catches 91 = .ok (.ireturn, 1) := by decide +kernel
theorem dX5_caughtForEachAnswer_0 : decode cX5_caughtForEachAnswer 0 = .ok (.lload_n 0, 1) := by decide +kernel
theorem dX5_caughtForEachAnswer_1 : decode cX5_caughtForEachAnswer 1 = .ok (.lload_n 2, 1) := by decide +kernel
theorem dX5_caughtForEachAnswer_2 : decode cX5_caughtForEachAnswer 2 = .ok (.lload 4, 2) := by decide +kernel
theorem dX5_caughtForEachAnswer_4 : decode cX5_caughtForEachAnswer 4 = .ok (.lload_n 0, 1) := by decide +kernel
theorem dX5_caughtForEachAnswer_5 : decode cX5_caughtForEachAnswer 5 = .ok (.invokestatic 9, 3) := by decide +kernel
theorem dX5_caughtForEachAnswer_8 : decode cX5_caughtForEachAnswer 8 = .ok (.invokestatic 40, 3) := by decide +kernel
theorem dX5_caughtForEachAnswer_11 : decode cX5_caughtForEachAnswer 11 = .ok (.lstore 8, 2) := by decide +kernel
theorem dX5_caughtForEachAnswer_13 : decode cX5_caughtForEachAnswer 13 = .ok (.iconst 0, 1) := by decide +kernel
theorem dX5_caughtForEachAnswer_14 : decode cX5_caughtForEachAnswer 14 = .ok (.istore 10, 2) := by decide +kernel
theorem dX5_caughtForEachAnswer_16 : decode cX5_caughtForEachAnswer 16 = .ok (.iconst 0, 1) := by decide +kernel
theorem dX5_caughtForEachAnswer_17 : decode cX5_caughtForEachAnswer 17 = .ok (.istore 11, 2) := by decide +kernel
theorem dX5_caughtForEachAnswer_19 : decode cX5_caughtForEachAnswer 19 = .ok (.iload 11, 2) := by decide +kernel
theorem dX5_caughtForEachAnswer_21 : decode cX5_caughtForEachAnswer 21 = .ok (.bipush 49, 2) := by decide +kernel
theorem dX5_caughtForEachAnswer_23 : decode cX5_caughtForEachAnswer 23 = .ok (.if_icmp .ge 72, 3) := by decide +kernel
theorem dX5_caughtForEachAnswer_26 : decode cX5_caughtForEachAnswer 26 = .ok (.lload 8, 2) := by decide +kernel
theorem dX5_caughtForEachAnswer_28 : decode cX5_caughtForEachAnswer 28 = .ok (.lconst 1, 1) := by decide +kernel
theorem dX5_caughtForEachAnswer_29 : decode cX5_caughtForEachAnswer 29 = .ok (.iload 11, 2) := by decide +kernel
theorem dX5_caughtForEachAnswer_31 : decode cX5_caughtForEachAnswer 31 = .ok (.lshl, 1) := by decide +kernel
theorem dX5_caughtForEachAnswer_32 : decode cX5_caughtForEachAnswer 32 = .ok (.land, 1) := by decide +kernel
theorem dX5_caughtForEachAnswer_33 : decode cX5_caughtForEachAnswer 33 = .ok (.lstore 12, 2) := by decide +kernel
theorem dX5_caughtForEachAnswer_35 : decode cX5_caughtForEachAnswer 35 = .ok (.lload 12, 2) := by decide +kernel
theorem dX5_caughtForEachAnswer_37 : decode cX5_caughtForEachAnswer 37 = .ok (.lconst 0, 1) := by decide +kernel
theorem dX5_caughtForEachAnswer_38 : decode cX5_caughtForEachAnswer 38 = .ok (.lcmp, 1) := by decide +kernel
theorem dX5_caughtForEachAnswer_39 : decode cX5_caughtForEachAnswer 39 = .ok (.ifCond .ne 9, 3) := by decide +kernel
theorem dX5_caughtForEachAnswer_42 : decode cX5_caughtForEachAnswer 42 = .ok (.ldc2_w 28, 3) := by decide +kernel
theorem dX5_caughtForEachAnswer_45 : decode cX5_caughtForEachAnswer 45 = .ok (.goto 10, 3) := by decide +kernel
theorem dX5_caughtForEachAnswer_48 : decode cX5_caughtForEachAnswer 48 = .ok (.lload_n 0, 1) := by decide +kernel
theorem dX5_caughtForEachAnswer_49 : decode cX5_caughtForEachAnswer 49 = .ok (.lload_n 2, 1) := by decide +kernel
theorem dX5_caughtForEachAnswer_50 : decode cX5_caughtForEachAnswer 50 = .ok (.lload 12, 2) := by decide +kernel
theorem dX5_caughtForEachAnswer_52 : decode cX5_caughtForEachAnswer 52 = .ok (.invokestatic 24, 3) := by decide +kernel
theorem dX5_caughtForEachAnswer_55 : decode cX5_caughtForEachAnswer 55 = .ok (.lstore 14, 2) := by decide +kernel
theorem dX5_caughtForEachAnswer_57 : decode cX5_caughtForEachAnswer 57 = .ok (.lload 14, 2) := by decide +kernel
theorem dX5_caughtForEachAnswer_59 : decode cX5_caughtForEachAnswer 59 = .ok (.ldc2_w 28, 3) := by decide +kernel
theorem dX5_caughtForEachAnswer_62 : decode cX5_caughtForEachAnswer 62 = .ok (.lcmp, 1) := by decide +kernel
theorem dX5_caughtForEachAnswer_63 : decode cX5_caughtForEachAnswer 63 = .ok (.ifCond .eq 26, 3) := by decide +kernel
theorem dX5_caughtForEachAnswer_66 : decode cX5_caughtForEachAnswer 66 = .ok (.iconst 1, 1) := by decide +kernel
theorem dX5_caughtForEachAnswer_67 : decode cX5_caughtForEachAnswer 67 = .ok (.istore 10, 2) := by decide +kernel
theorem dX5_caughtForEachAnswer_69 : decode cX5_caughtForEachAnswer 69 = .ok (.lload_n 0, 1) := by decide +kernel
theorem dX5_caughtForEachAnswer_70 : decode cX5_caughtForEachAnswer 70 = .ok (.lload 12, 2) := by decide +kernel
theorem dX5_caughtForEachAnswer_72 : decode cX5_caughtForEachAnswer 72 = .ok (.lor, 1) := by decide +kernel
theorem dX5_caughtForEachAnswer_73 : decode cX5_caughtForEachAnswer 73 = .ok (.lload 14, 2) := by decide +kernel
theorem dX5_caughtForEachAnswer_75 : decode cX5_caughtForEachAnswer 75 = .ok (.lload 4, 2) := by decide +kernel
theorem dX5_caughtForEachAnswer_77 : decode cX5_caughtForEachAnswer 77 = .ok (.iload 6, 2) := by decide +kernel
theorem dX5_caughtForEachAnswer_79 : decode cX5_caughtForEachAnswer 79 = .ok (.iload 7, 2) := by decide +kernel
theorem dX5_caughtForEachAnswer_81 : decode cX5_caughtForEachAnswer 81 = .ok (.invokestatic 43, 3) := by decide +kernel
theorem dX5_caughtForEachAnswer_84 : decode cX5_caughtForEachAnswer 84 = .ok (.ifCond .ne 5, 3) := by decide +kernel
theorem dX5_caughtForEachAnswer_87 : decode cX5_caughtForEachAnswer 87 = .ok (.iconst 0, 1) := by decide +kernel
theorem dX5_caughtForEachAnswer_88 : decode cX5_caughtForEachAnswer 88 = .ok (.ireturn, 1) := by decide +kernel
theorem dX5_caughtForEachAnswer_89 : decode cX5_caughtForEachAnswer 89 = .ok (.iinc 11 1, 3) := by decide +kernel
theorem dX5_caughtForEachAnswer_92 : decode cX5_caughtForEachAnswer 92 = .ok (.goto (-73), 3) := by decide +kernel
theorem dX5_caughtForEachAnswer_95 : decode cX5_caughtForEachAnswer 95 = .ok (.iload 10, 2) := by decide +kernel
theorem dX5_caughtForEachAnswer_97 : decode cX5_caughtForEachAnswer 97 = .ok (.ifCond .ne 17, 3) := by decide +kernel
theorem dX5_caughtForEachAnswer_100 : decode cX5_caughtForEachAnswer 100 = .ok (.lload_n 0, 1) := by decide +kernel
theorem dX5_caughtForEachAnswer_101 : decode cX5_caughtForEachAnswer 101 = .ok (.lload_n 2, 1) := by decide +kernel
theorem dX5_caughtForEachAnswer_102 : decode cX5_caughtForEachAnswer 102 = .ok (.lload 4, 2) := by decide +kernel
theorem dX5_caughtForEachAnswer_104 : decode cX5_caughtForEachAnswer 104 = .ok (.iload 6, 2) := by decide +kernel
theorem dX5_caughtForEachAnswer_106 : decode cX5_caughtForEachAnswer 106 = .ok (.iload 7, 2) := by decide +kernel
theorem dX5_caughtForEachAnswer_108 : decode cX5_caughtForEachAnswer 108 = .ok (.invokestatic 43, 3) := by decide +kernel
theorem dX5_caughtForEachAnswer_111 : decode cX5_caughtForEachAnswer 111 = .ok (.ifCond .eq 7, 3) := by decide +kernel
theorem dX5_caughtForEachAnswer_114 : decode cX5_caughtForEachAnswer 114 = .ok (.iconst 1, 1) := by decide +kernel
theorem dX5_caughtForEachAnswer_115 : decode cX5_caughtForEachAnswer 115 = .ok (.goto 4, 3) := by decide +kernel
theorem dX5_caughtForEachAnswer_118 : decode cX5_caughtForEachAnswer 118 = .ok (.iconst 0, 1) := by decide +kernel
theorem dX5_caughtForEachAnswer_119 : decode cX5_caughtForEachAnswer 119 = .ok (.ireturn, 1) := by decide +kernel
theorem dX5_answers_0 : decode cX5_answers 0 = .ok (.lload_n 0, 1) := by decide +kernel
theorem dX5_answers_1 : decode cX5_answers 1 = .ok (.lload_n 2, 1) := by decide +kernel
theorem dX5_answers_2 : decode cX5_answers 2 = .ok (.lor, 1) := by decide +kernel
theorem dX5_answers_3 : decode cX5_answers 3 = .ok (.lstore 6, 2) := by decide +kernel
theorem dX5_answers_5 : decode cX5_answers 5 = .ok (.lload 4, 2) := by decide +kernel
theorem dX5_answers_7 : decode cX5_answers 7 = .ok (.lload 6, 2) := by decide +kernel
theorem dX5_answers_9 : decode cX5_answers 9 = .ok (.invokestatic 15, 3) := by decide +kernel
theorem dX5_answers_12 : decode cX5_answers 12 = .ok (.lstore 8, 2) := by decide +kernel
theorem dX5_answers_14 : decode cX5_answers 14 = .ok (.lload 4, 2) := by decide +kernel
theorem dX5_answers_16 : decode cX5_answers 16 = .ok (.invokestatic 46, 3) := by decide +kernel
theorem dX5_answers_19 : decode cX5_answers 19 = .ok (.lload_n 2, 1) := by decide +kernel
theorem dX5_answers_20 : decode cX5_answers 20 = .ok (.land, 1) := by decide +kernel
theorem dX5_answers_21 : decode cX5_answers 21 = .ok (.lstore 10, 2) := by decide +kernel
theorem dX5_answers_23 : decode cX5_answers 23 = .ok (.iconst 0, 1) := by decide +kernel
theorem dX5_answers_24 : decode cX5_answers 24 = .ok (.istore 12, 2) := by decide +kernel
theorem dX5_answers_26 : decode cX5_answers 26 = .ok (.iload 12, 2) := by decide +kernel
theorem dX5_answers_28 : decode cX5_answers 28 = .ok (.bipush 49, 2) := by decide +kernel
theorem dX5_answers_30 : decode cX5_answers 30 = .ok (.if_icmp .ge 58, 3) := by decide +kernel
theorem dX5_answers_33 : decode cX5_answers 33 = .ok (.lload 10, 2) := by decide +kernel
theorem dX5_answers_35 : decode cX5_answers 35 = .ok (.lconst 1, 1) := by decide +kernel
theorem dX5_answers_36 : decode cX5_answers 36 = .ok (.iload 12, 2) := by decide +kernel
theorem dX5_answers_38 : decode cX5_answers 38 = .ok (.lshl, 1) := by decide +kernel
theorem dX5_answers_39 : decode cX5_answers 39 = .ok (.land, 1) := by decide +kernel
theorem dX5_answers_40 : decode cX5_answers 40 = .ok (.lload_n 2, 1) := by decide +kernel
theorem dX5_answers_41 : decode cX5_answers 41 = .ok (.invokestatic 9, 3) := by decide +kernel
theorem dX5_answers_44 : decode cX5_answers 44 = .ok (.lstore 13, 2) := by decide +kernel
theorem dX5_answers_46 : decode cX5_answers 46 = .ok (.lload 13, 2) := by decide +kernel
theorem dX5_answers_48 : decode cX5_answers 48 = .ok (.lload 6, 2) := by decide +kernel
theorem dX5_answers_50 : decode cX5_answers 50 = .ok (.invokestatic 15, 3) := by decide +kernel
theorem dX5_answers_53 : decode cX5_answers 53 = .ok (.lstore 15, 2) := by decide +kernel
theorem dX5_answers_55 : decode cX5_answers 55 = .ok (.lload 15, 2) := by decide +kernel
theorem dX5_answers_57 : decode cX5_answers 57 = .ok (.invokestatic 18, 3) := by decide +kernel
theorem dX5_answers_60 : decode cX5_answers 60 = .ok (.iconst 1, 1) := by decide +kernel
theorem dX5_answers_61 : decode cX5_answers 61 = .ok (.if_icmp .ne 10, 3) := by decide +kernel
theorem dX5_answers_64 : decode cX5_answers 64 = .ok (.lload 8, 2) := by decide +kernel
theorem dX5_answers_66 : decode cX5_answers 66 = .ok (.lload 15, 2) := by decide +kernel
theorem dX5_answers_68 : decode cX5_answers 68 = .ok (.lor, 1) := by decide +kernel
theorem dX5_answers_69 : decode cX5_answers 69 = .ok (.lstore 8, 2) := by decide +kernel
theorem dX5_answers_71 : decode cX5_answers 71 = .ok (.lload 10, 2) := by decide +kernel
theorem dX5_answers_73 : decode cX5_answers 73 = .ok (.lload 13, 2) := by decide +kernel
theorem dX5_answers_75 : decode cX5_answers 75 = .ok (.ldc2_w 28, 3) := by decide +kernel
theorem dX5_answers_78 : decode cX5_answers 78 = .ok (.lxor, 1) := by decide +kernel
theorem dX5_answers_79 : decode cX5_answers 79 = .ok (.land, 1) := by decide +kernel
theorem dX5_answers_80 : decode cX5_answers 80 = .ok (.lstore 10, 2) := by decide +kernel
theorem dX5_answers_82 : decode cX5_answers 82 = .ok (.iinc 12 1, 3) := by decide +kernel
theorem dX5_answers_85 : decode cX5_answers 85 = .ok (.goto (-59), 3) := by decide +kernel
theorem dX5_answers_88 : decode cX5_answers 88 = .ok (.lload 8, 2) := by decide +kernel
theorem dX5_answers_90 : decode cX5_answers 90 = .ok (.lreturn, 1) := by decide +kernel
theorem dX6_init_0 : decode cX6_init 0 = .ok (.aload_n 0, 1) := by decide +kernel
theorem dX6_init_1 : decode cX6_init 1 = .ok (.invokespecial 3, 3) := by decide +kernel
theorem dX6_init_4 : decode cX6_init 4 = .ok (.aload_n 0, 1) := by decide +kernel
theorem dX6_init_5 : decode cX6_init 5 = .ok (.bipush 60, 2) := by decide +kernel
theorem dX6_init_7 : decode cX6_init 7 = .ok (.anewarray 9, 3) := by decide +kernel
theorem dX6_init_10 : decode cX6_init 10 = .ok (.putfield 11, 3) := by decide +kernel
theorem dX6_init_13 : decode cX6_init 13 = .ok (.aload_n 0, 1) := by decide +kernel
theorem dX6_init_14 : decode cX6_init 14 = .ok (.bipush 60, 2) := by decide +kernel
theorem dX6_init_16 : decode cX6_init 16 = .ok (.anewarray 9, 3) := by decide +kernel
theorem dX6_init_19 : decode cX6_init 19 = .ok (.putfield 17, 3) := by decide +kernel
theorem dX6_init_22 : decode cX6_init 22 = .ok (.return_, 1) := by decide +kernel
theorem dX6_twigAt_0 : decode cX6_twigAt 0 = .ok (.iload_n 1, 1) := by decide +kernel
theorem dX6_twigAt_1 : decode cX6_twigAt 1 = .ok (.ifCond .lt 12, 3) := by decide +kernel
theorem dX6_twigAt_4 : decode cX6_twigAt 4 = .ok (.iload_n 1, 1) := by decide +kernel
theorem dX6_twigAt_5 : decode cX6_twigAt 5 = .ok (.aload_n 0, 1) := by decide +kernel
theorem dX6_twigAt_6 : decode cX6_twigAt 6 = .ok (.getfield 11, 3) := by decide +kernel
theorem dX6_twigAt_9 : decode cX6_twigAt 9 = .ok (.arraylength, 1) := by decide +kernel
theorem dX6_twigAt_10 : decode cX6_twigAt 10 = .ok (.if_icmp .lt 7, 3) := by decide +kernel
theorem dX6_twigAt_13 : decode cX6_twigAt 13 = .ok (.aconst_null, 1) := by decide +kernel
theorem dX6_twigAt_14 : decode cX6_twigAt 14 = .ok (.goto 9, 3) := by decide +kernel
theorem dX6_twigAt_17 : decode cX6_twigAt 17 = .ok (.aload_n 0, 1) := by decide +kernel
theorem dX6_twigAt_18 : decode cX6_twigAt 18 = .ok (.getfield 11, 3) := by decide +kernel
theorem dX6_twigAt_21 : decode cX6_twigAt 21 = .ok (.iload_n 1, 1) := by decide +kernel
theorem dX6_twigAt_22 : decode cX6_twigAt 22 = .ok (.aaload, 1) := by decide +kernel
theorem dX6_twigAt_23 : decode cX6_twigAt 23 = .ok (.areturn, 1) := by decide +kernel
theorem dX6_isFull_0 : decode cX6_isFull 0 = .ok (.aload_n 0, 1) := by decide +kernel
theorem dX6_isFull_1 : decode cX6_isFull 1 = .ok (.getfield 20, 3) := by decide +kernel
theorem dX6_isFull_4 : decode cX6_isFull 4 = .ok (.ifCond .lt 15, 3) := by decide +kernel
theorem dX6_isFull_7 : decode cX6_isFull 7 = .ok (.aload_n 0, 1) := by decide +kernel
theorem dX6_isFull_8 : decode cX6_isFull 8 = .ok (.getfield 20, 3) := by decide +kernel
theorem dX6_isFull_11 : decode cX6_isFull 11 = .ok (.aload_n 0, 1) := by decide +kernel
theorem dX6_isFull_12 : decode cX6_isFull 12 = .ok (.getfield 11, 3) := by decide +kernel
theorem dX6_isFull_15 : decode cX6_isFull 15 = .ok (.arraylength, 1) := by decide +kernel
theorem dX6_isFull_16 : decode cX6_isFull 16 = .ok (.if_icmp .lt 7, 3) := by decide +kernel
theorem dX6_isFull_19 : decode cX6_isFull 19 = .ok (.iconst 1, 1) := by decide +kernel
theorem dX6_isFull_20 : decode cX6_isFull 20 = .ok (.goto 4, 3) := by decide +kernel
theorem dX6_isFull_23 : decode cX6_isFull 23 = .ok (.iconst 0, 1) := by decide +kernel
theorem dX6_isFull_24 : decode cX6_isFull 24 = .ok (.ireturn, 1) := by decide +kernel
theorem dX6_begin_0 : decode cX6_begin 0 = .ok (.aload_n 0, 1) := by decide +kernel
theorem dX6_begin_1 : decode cX6_begin 1 = .ok (.invokevirtual 24, 3) := by decide +kernel
theorem dX6_begin_4 : decode cX6_begin 4 = .ok (.ifCond .eq 5, 3) := by decide +kernel
theorem dX6_begin_7 : decode cX6_begin 7 = .ok (.iconst (-1), 1) := by decide +kernel
theorem dX6_begin_8 : decode cX6_begin 8 = .ok (.ireturn, 1) := by decide +kernel
theorem dX6_begin_9 : decode cX6_begin 9 = .ok (.aload_n 0, 1) := by decide +kernel
theorem dX6_begin_10 : decode cX6_begin 10 = .ok (.getfield 11, 3) := by decide +kernel
theorem dX6_begin_13 : decode cX6_begin 13 = .ok (.aload_n 0, 1) := by decide +kernel
theorem dX6_begin_14 : decode cX6_begin 14 = .ok (.getfield 20, 3) := by decide +kernel
theorem dX6_begin_17 : decode cX6_begin 17 = .ok (.new 9, 3) := by decide +kernel
theorem dX6_begin_20 : decode cX6_begin 20 = .ok (.dup, 1) := by decide +kernel
theorem dX6_begin_21 : decode cX6_begin 21 = .ok (.aload_n 0, 1) := by decide +kernel
theorem dX6_begin_22 : decode cX6_begin 22 = .ok (.getfield 20, 3) := by decide +kernel
theorem dX6_begin_25 : decode cX6_begin 25 = .ok (.aload_n 0, 1) := by decide +kernel
theorem dX6_begin_26 : decode cX6_begin 26 = .ok (.getfield 20, 3) := by decide +kernel
theorem dX6_begin_29 : decode cX6_begin 29 = .ok (.iload_n 1, 1) := by decide +kernel
theorem dX6_begin_30 : decode cX6_begin 30 = .ok (.aconst_null, 1) := by decide +kernel
theorem dX6_begin_31 : decode cX6_begin 31 = .ok (.bipush (-2), 2) := by decide +kernel
theorem dX6_begin_33 : decode cX6_begin 33 = .ok (.aload_n 2, 1) := by decide +kernel
theorem dX6_begin_34 : decode cX6_begin 34 = .ok (.invokespecial 28, 3) := by decide +kernel
theorem dX6_begin_37 : decode cX6_begin 37 = .ok (.aastore, 1) := by decide +kernel
theorem dX6_begin_38 : decode cX6_begin 38 = .ok (.aload_n 0, 1) := by decide +kernel
theorem dX6_begin_39 : decode cX6_begin 39 = .ok (.dup, 1) := by decide +kernel
theorem dX6_begin_40 : decode cX6_begin 40 = .ok (.getfield 20, 3) := by decide +kernel
theorem dX6_begin_43 : decode cX6_begin 43 = .ok (.dup_x1, 1) := by decide +kernel
theorem dX6_begin_44 : decode cX6_begin 44 = .ok (.iconst 1, 1) := by decide +kernel
theorem dX6_begin_45 : decode cX6_begin 45 = .ok (.iadd, 1) := by decide +kernel
theorem dX6_begin_46 : decode cX6_begin 46 = .ok (.putfield 20, 3) := by decide +kernel
theorem dX6_begin_49 : decode cX6_begin 49 = .ok (.ireturn, 1) := by decide +kernel
theorem dX6_childOf_0 : decode cX6_childOf 0 = .ok (.iconst 0, 1) := by decide +kernel
theorem dX6_childOf_1 : decode cX6_childOf 1 = .ok (.istore_n 3, 1) := by decide +kernel
theorem dX6_childOf_2 : decode cX6_childOf 2 = .ok (.iload_n 3, 1) := by decide +kernel
theorem dX6_childOf_3 : decode cX6_childOf 3 = .ok (.aload_n 0, 1) := by decide +kernel
theorem dX6_childOf_4 : decode cX6_childOf 4 = .ok (.getfield 11, 3) := by decide +kernel
theorem dX6_childOf_7 : decode cX6_childOf 7 = .ok (.arraylength, 1) := by decide +kernel
theorem dX6_childOf_8 : decode cX6_childOf 8 = .ok (.if_icmp .ge 43, 3) := by decide +kernel
theorem dX6_childOf_11 : decode cX6_childOf 11 = .ok (.aload_n 0, 1) := by decide +kernel
theorem dX6_childOf_12 : decode cX6_childOf 12 = .ok (.getfield 11, 3) := by decide +kernel
theorem dX6_childOf_15 : decode cX6_childOf 15 = .ok (.iload_n 3, 1) := by decide +kernel
theorem dX6_childOf_16 : decode cX6_childOf 16 = .ok (.aaload, 1) := by decide +kernel
theorem dX6_childOf_17 : decode cX6_childOf 17 = .ok (.astore 4, 2) := by decide +kernel
theorem dX6_childOf_19 : decode cX6_childOf 19 = .ok (.aload 4, 2) := by decide +kernel
theorem dX6_childOf_21 : decode cX6_childOf 21 = .ok (.ifnull 24, 3) := by decide +kernel
theorem dX6_childOf_24 : decode cX6_childOf 24 = .ok (.aload 4, 2) := by decide +kernel
theorem dX6_childOf_26 : decode cX6_childOf 26 = .ok (.getfield 31, 3) := by decide +kernel
theorem dX6_childOf_29 : decode cX6_childOf 29 = .ok (.aload_n 1, 1) := by decide +kernel
theorem dX6_childOf_30 : decode cX6_childOf 30 = .ok (.if_acmp .ne 15, 3) := by decide +kernel
theorem dX6_childOf_33 : decode cX6_childOf 33 = .ok (.aload 4, 2) := by decide +kernel
theorem dX6_childOf_35 : decode cX6_childOf 35 = .ok (.getfield 35, 3) := by decide +kernel
theorem dX6_childOf_38 : decode cX6_childOf 38 = .ok (.iload_n 2, 1) := by decide +kernel
theorem dX6_childOf_39 : decode cX6_childOf 39 = .ok (.if_icmp .ne 6, 3) := by decide +kernel
theorem dX6_childOf_42 : decode cX6_childOf 42 = .ok (.aload 4, 2) := by decide +kernel
theorem dX6_childOf_44 : decode cX6_childOf 44 = .ok (.areturn, 1) := by decide +kernel
theorem dX6_childOf_45 : decode cX6_childOf 45 = .ok (.iinc 3 1, 3) := by decide +kernel
theorem dX6_childOf_48 : decode cX6_childOf 48 = .ok (.goto (-46), 3) := by decide +kernel
theorem dX6_childOf_51 : decode cX6_childOf 51 = .ok (.aconst_null, 1) := by decide +kernel
theorem dX6_childOf_52 : decode cX6_childOf 52 = .ok (.areturn, 1) := by decide +kernel
theorem dX6_childOrNew_0 : decode cX6_childOrNew 0 = .ok (.aload_n 0, 1) := by decide +kernel
theorem dX6_childOrNew_1 : decode cX6_childOrNew 1 = .ok (.aload_n 1, 1) := by decide +kernel
theorem dX6_childOrNew_2 : decode cX6_childOrNew 2 = .ok (.iload_n 2, 1) := by decide +kernel
theorem dX6_childOrNew_3 : decode cX6_childOrNew 3 = .ok (.invokevirtual 38, 3) := by decide +kernel
theorem dX6_childOrNew_6 : decode cX6_childOrNew 6 = .ok (.astore_n 3, 1) := by decide +kernel
theorem dX6_childOrNew_7 : decode cX6_childOrNew 7 = .ok (.aload_n 3, 1) := by decide +kernel
theorem dX6_childOrNew_8 : decode cX6_childOrNew 8 = .ok (.ifnonnull 35, 3) := by decide +kernel
theorem dX6_childOrNew_11 : decode cX6_childOrNew 11 = .ok (.aload_n 1, 1) := by decide +kernel
theorem dX6_childOrNew_12 : decode cX6_childOrNew 12 = .ok (.getfield 42, 3) := by decide +kernel
theorem dX6_childOrNew_15 : decode cX6_childOrNew 15 = .ok (.astore 4, 2) := by decide +kernel
theorem dX6_childOrNew_17 : decode cX6_childOrNew 17 = .ok (.aload_n 0, 1) := by decide +kernel
theorem dX6_childOrNew_18 : decode cX6_childOrNew 18 = .ok (.aload_n 1, 1) := by decide +kernel
theorem dX6_childOrNew_19 : decode cX6_childOrNew 19 = .ok (.iload_n 2, 1) := by decide +kernel
theorem dX6_childOrNew_20 : decode cX6_childOrNew 20 = .ok (.iload_n 2, 1) := by decide +kernel
theorem dX6_childOrNew_21 : decode cX6_childOrNew 21 = .ok (.iconst (-1), 1) := by decide +kernel
theorem dX6_childOrNew_22 : decode cX6_childOrNew 22 = .ok (.if_icmp .ne 11, 3) := by decide +kernel
theorem dX6_childOrNew_25 : decode cX6_childOrNew 25 = .ok (.aload 4, 2) := by decide +kernel
theorem dX6_childOrNew_27 : decode cX6_childOrNew 27 = .ok (.invokevirtual 46, 3) := by decide +kernel
theorem dX6_childOrNew_30 : decode cX6_childOrNew 30 = .ok (.goto 9, 3) := by decide +kernel
theorem dX6_childOrNew_33 : decode cX6_childOrNew 33 = .ok (.aload 4, 2) := by decide +kernel
theorem dX6_childOrNew_35 : decode cX6_childOrNew 35 = .ok (.iload_n 2, 1) := by decide +kernel
theorem dX6_childOrNew_36 : decode cX6_childOrNew 36 = .ok (.invokevirtual 52, 3) := by decide +kernel
theorem dX6_childOrNew_39 : decode cX6_childOrNew 39 = .ok (.invokevirtual 56, 3) := by decide +kernel
theorem dX6_childOrNew_42 : decode cX6_childOrNew 42 = .ok (.astore_n 3, 1) := by decide +kernel
theorem dX6_childOrNew_43 : decode cX6_childOrNew 43 = .ok (.aload_n 3, 1) := by decide +kernel
theorem dX6_childOrNew_44 : decode cX6_childOrNew 44 = .ok (.ifnonnull 7, 3) := by decide +kernel
theorem dX6_childOrNew_47 : decode cX6_childOrNew 47 = .ok (.iconst (-1), 1) := by decide +kernel
theorem dX6_childOrNew_48 : decode cX6_childOrNew 48 = .ok (.goto 7, 3) := by decide +kernel
theorem dX6_childOrNew_51 : decode cX6_childOrNew 51 = .ok (.aload_n 3, 1) := by decide +kernel
theorem dX6_childOrNew_52 : decode cX6_childOrNew 52 = .ok (.getfield 60, 3) := by decide +kernel
theorem dX6_childOrNew_55 : decode cX6_childOrNew 55 = .ok (.ireturn, 1) := by decide +kernel
theorem dX6_grow_0 : decode cX6_grow 0 = .ok (.aload_n 3, 1) := by decide +kernel
theorem dX6_grow_1 : decode cX6_grow 1 = .ok (.ifnull 10, 3) := by decide +kernel
theorem dX6_grow_4 : decode cX6_grow 4 = .ok (.aload_n 0, 1) := by decide +kernel
theorem dX6_grow_5 : decode cX6_grow 5 = .ok (.invokevirtual 24, 3) := by decide +kernel
theorem dX6_grow_8 : decode cX6_grow 8 = .ok (.ifCond .eq 5, 3) := by decide +kernel
theorem dX6_grow_11 : decode cX6_grow 11 = .ok (.aconst_null, 1) := by decide +kernel
theorem dX6_grow_12 : decode cX6_grow 12 = .ok (.areturn, 1) := by decide +kernel
theorem dX6_grow_13 : decode cX6_grow 13 = .ok (.new 9, 3) := by decide +kernel
theorem dX6_grow_16 : decode cX6_grow 16 = .ok (.dup, 1) := by decide +kernel
theorem dX6_grow_17 : decode cX6_grow 17 = .ok (.aload_n 0, 1) := by decide +kernel
theorem dX6_grow_18 : decode cX6_grow 18 = .ok (.getfield 20, 3) := by decide +kernel
theorem dX6_grow_21 : decode cX6_grow 21 = .ok (.aload_n 1, 1) := by decide +kernel
theorem dX6_grow_22 : decode cX6_grow 22 = .ok (.getfield 63, 3) := by decide +kernel
theorem dX6_grow_25 : decode cX6_grow 25 = .ok (.aload_n 1, 1) := by decide +kernel
theorem dX6_grow_26 : decode cX6_grow 26 = .ok (.getfield 66, 3) := by decide +kernel
theorem dX6_grow_29 : decode cX6_grow 29 = .ok (.aload_n 1, 1) := by decide +kernel
theorem dX6_grow_30 : decode cX6_grow 30 = .ok (.iload_n 2, 1) := by decide +kernel
theorem dX6_grow_31 : decode cX6_grow 31 = .ok (.aload_n 3, 1) := by decide +kernel
theorem dX6_grow_32 : decode cX6_grow 32 = .ok (.invokespecial 28, 3) := by decide +kernel
theorem dX6_grow_35 : decode cX6_grow 35 = .ok (.astore 4, 2) := by decide +kernel
theorem dX6_grow_37 : decode cX6_grow 37 = .ok (.aload_n 0, 1) := by decide +kernel
theorem dX6_grow_38 : decode cX6_grow 38 = .ok (.getfield 11, 3) := by decide +kernel
theorem dX6_grow_41 : decode cX6_grow 41 = .ok (.aload_n 0, 1) := by decide +kernel
theorem dX6_grow_42 : decode cX6_grow 42 = .ok (.getfield 20, 3) := by decide +kernel
theorem dX6_grow_45 : decode cX6_grow 45 = .ok (.aload 4, 2) := by decide +kernel
theorem dX6_grow_47 : decode cX6_grow 47 = .ok (.aastore, 1) := by decide +kernel
theorem dX6_grow_48 : decode cX6_grow 48 = .ok (.aload_n 0, 1) := by decide +kernel
theorem dX6_grow_49 : decode cX6_grow 49 = .ok (.dup, 1) := by decide +kernel
theorem dX6_grow_50 : decode cX6_grow 50 = .ok (.getfield 20, 3) := by decide +kernel
theorem dX6_grow_53 : decode cX6_grow 53 = .ok (.iconst 1, 1) := by decide +kernel
theorem dX6_grow_54 : decode cX6_grow 54 = .ok (.iadd, 1) := by decide +kernel
theorem dX6_grow_55 : decode cX6_grow 55 = .ok (.putfield 20, 3) := by decide +kernel
theorem dX6_grow_58 : decode cX6_grow 58 = .ok (.aload_n 1, 1) := by decide +kernel
theorem dX6_grow_59 : decode cX6_grow 59 = .ok (.dup, 1) := by decide +kernel
theorem dX6_grow_60 : decode cX6_grow 60 = .ok (.getfield 69, 3) := by decide +kernel
theorem dX6_grow_63 : decode cX6_grow 63 = .ok (.iconst 1, 1) := by decide +kernel
theorem dX6_grow_64 : decode cX6_grow 64 = .ok (.iadd, 1) := by decide +kernel
theorem dX6_grow_65 : decode cX6_grow 65 = .ok (.putfield 69, 3) := by decide +kernel
theorem dX6_grow_68 : decode cX6_grow 68 = .ok (.aload 4, 2) := by decide +kernel
theorem dX6_grow_70 : decode cX6_grow 70 = .ok (.areturn, 1) := by decide +kernel
theorem dX6_graft_0 : decode cX6_graft 0 = .ok (.aload_n 0, 1) := by decide +kernel
theorem dX6_graft_1 : decode cX6_graft 1 = .ok (.aload_n 1, 1) := by decide +kernel
theorem dX6_graft_2 : decode cX6_graft 2 = .ok (.aload_n 2, 1) := by decide +kernel
theorem dX6_graft_3 : decode cX6_graft 3 = .ok (.invokevirtual 72, 3) := by decide +kernel
theorem dX6_graft_6 : decode cX6_graft 6 = .ok (.istore_n 3, 1) := by decide +kernel
theorem dX6_graft_7 : decode cX6_graft 7 = .ok (.aload_n 0, 1) := by decide +kernel
theorem dX6_graft_8 : decode cX6_graft 8 = .ok (.getfield 20, 3) := by decide +kernel
theorem dX6_graft_11 : decode cX6_graft 11 = .ok (.iload_n 3, 1) := by decide +kernel
theorem dX6_graft_12 : decode cX6_graft 12 = .ok (.iadd, 1) := by decide +kernel
theorem dX6_graft_13 : decode cX6_graft 13 = .ok (.aload_n 0, 1) := by decide +kernel
theorem dX6_graft_14 : decode cX6_graft 14 = .ok (.getfield 11, 3) := by decide +kernel
theorem dX6_graft_17 : decode cX6_graft 17 = .ok (.arraylength, 1) := by decide +kernel
theorem dX6_graft_18 : decode cX6_graft 18 = .ok (.if_icmp .le 5, 3) := by decide +kernel
theorem dX6_graft_21 : decode cX6_graft 21 = .ok (.iconst (-1), 1) := by decide +kernel
theorem dX6_graft_22 : decode cX6_graft 22 = .ok (.ireturn, 1) := by decide +kernel
theorem dX6_graft_23 : decode cX6_graft 23 = .ok (.iconst 0, 1) := by decide +kernel
theorem dX6_graft_24 : decode cX6_graft 24 = .ok (.istore 4, 2) := by decide +kernel
theorem dX6_graft_26 : decode cX6_graft 26 = .ok (.iload 4, 2) := by decide +kernel
theorem dX6_graft_28 : decode cX6_graft 28 = .ok (.aload_n 0, 1) := by decide +kernel
theorem dX6_graft_29 : decode cX6_graft 29 = .ok (.getfield 11, 3) := by decide +kernel
theorem dX6_graft_32 : decode cX6_graft 32 = .ok (.arraylength, 1) := by decide +kernel
theorem dX6_graft_33 : decode cX6_graft 33 = .ok (.if_icmp .ge 75, 3) := by decide +kernel
theorem dX6_graft_36 : decode cX6_graft 36 = .ok (.iload 4, 2) := by decide +kernel
theorem dX6_graft_38 : decode cX6_graft 38 = .ok (.aload_n 0, 1) := by decide +kernel
theorem dX6_graft_39 : decode cX6_graft 39 = .ok (.getfield 17, 3) := by decide +kernel
theorem dX6_graft_42 : decode cX6_graft 42 = .ok (.arraylength, 1) := by decide +kernel
theorem dX6_graft_43 : decode cX6_graft 43 = .ok (.if_icmp .ge 65, 3) := by decide +kernel
theorem dX6_graft_46 : decode cX6_graft 46 = .ok (.aload_n 0, 1) := by decide +kernel
theorem dX6_graft_47 : decode cX6_graft 47 = .ok (.getfield 11, 3) := by decide +kernel
theorem dX6_graft_50 : decode cX6_graft 50 = .ok (.iload 4, 2) := by decide +kernel
theorem dX6_graft_52 : decode cX6_graft 52 = .ok (.aaload, 1) := by decide +kernel
theorem dX6_graft_53 : decode cX6_graft 53 = .ok (.astore 5, 2) := by decide +kernel
theorem dX6_graft_55 : decode cX6_graft 55 = .ok (.aload 5, 2) := by decide +kernel
theorem dX6_graft_57 : decode cX6_graft 57 = .ok (.ifnull 45, 3) := by decide +kernel
theorem dX6_graft_60 : decode cX6_graft 60 = .ok (.aload 5, 2) := by decide +kernel
theorem dX6_graft_62 : decode cX6_graft 62 = .ok (.getfield 63, 3) := by decide +kernel
theorem dX6_graft_65 : decode cX6_graft 65 = .ok (.aload_n 1, 1) := by decide +kernel
theorem dX6_graft_66 : decode cX6_graft 66 = .ok (.getfield 60, 3) := by decide +kernel
theorem dX6_graft_69 : decode cX6_graft 69 = .ok (.if_icmp .ne 33, 3) := by decide +kernel
theorem dX6_graft_72 : decode cX6_graft 72 = .ok (.aload_n 0, 1) := by decide +kernel
theorem dX6_graft_73 : decode cX6_graft 73 = .ok (.aload 5, 2) := by decide +kernel
theorem dX6_graft_75 : decode cX6_graft 75 = .ok (.aload_n 2, 1) := by decide +kernel
theorem dX6_graft_76 : decode cX6_graft 76 = .ok (.invokevirtual 76, 3) := by decide +kernel
theorem dX6_graft_79 : decode cX6_graft 79 = .ok (.astore 6, 2) := by decide +kernel
theorem dX6_graft_81 : decode cX6_graft 81 = .ok (.aload_n 0, 1) := by decide +kernel
theorem dX6_graft_82 : decode cX6_graft 82 = .ok (.getfield 17, 3) := by decide +kernel
theorem dX6_graft_85 : decode cX6_graft 85 = .ok (.iload 4, 2) := by decide +kernel
theorem dX6_graft_87 : decode cX6_graft 87 = .ok (.aload 6, 2) := by decide +kernel
theorem dX6_graft_89 : decode cX6_graft 89 = .ok (.aastore, 1) := by decide +kernel
theorem dX6_graft_90 : decode cX6_graft 90 = .ok (.aload 6, 2) := by decide +kernel
theorem dX6_graft_92 : decode cX6_graft 92 = .ok (.ifnull 10, 3) := by decide +kernel
theorem dX6_graft_95 : decode cX6_graft 95 = .ok (.aload 6, 2) := by decide +kernel
theorem dX6_graft_97 : decode cX6_graft 97 = .ok (.aload 5, 2) := by decide +kernel
theorem dX6_graft_99 : decode cX6_graft 99 = .ok (.invokevirtual 80, 3) := by decide +kernel
theorem dX6_graft_102 : decode cX6_graft 102 = .ok (.iinc 4 1, 3) := by decide +kernel
theorem dX6_graft_105 : decode cX6_graft 105 = .ok (.goto (-79), 3) := by decide +kernel
theorem dX6_graft_108 : decode cX6_graft 108 = .ok (.iload_n 3, 1) := by decide +kernel
theorem dX6_graft_109 : decode cX6_graft 109 = .ok (.ireturn, 1) := by decide +kernel
theorem dX6_countMissing_0 : decode cX6_countMissing 0 = .ok (.iconst 0, 1) := by decide +kernel
theorem dX6_countMissing_1 : decode cX6_countMissing 1 = .ok (.istore_n 3, 1) := by decide +kernel
theorem dX6_countMissing_2 : decode cX6_countMissing 2 = .ok (.iconst 0, 1) := by decide +kernel
theorem dX6_countMissing_3 : decode cX6_countMissing 3 = .ok (.istore 4, 2) := by decide +kernel
theorem dX6_countMissing_5 : decode cX6_countMissing 5 = .ok (.iload 4, 2) := by decide +kernel
theorem dX6_countMissing_7 : decode cX6_countMissing 7 = .ok (.aload_n 0, 1) := by decide +kernel
theorem dX6_countMissing_8 : decode cX6_countMissing 8 = .ok (.getfield 11, 3) := by decide +kernel
theorem dX6_countMissing_11 : decode cX6_countMissing 11 = .ok (.arraylength, 1) := by decide +kernel
theorem dX6_countMissing_12 : decode cX6_countMissing 12 = .ok (.if_icmp .ge 77, 3) := by decide +kernel
theorem dX6_countMissing_15 : decode cX6_countMissing 15 = .ok (.iload 4, 2) := by decide +kernel
theorem dX6_countMissing_17 : decode cX6_countMissing 17 = .ok (.aload_n 0, 1) := by decide +kernel
theorem dX6_countMissing_18 : decode cX6_countMissing 18 = .ok (.getfield 17, 3) := by decide +kernel
theorem dX6_countMissing_21 : decode cX6_countMissing 21 = .ok (.arraylength, 1) := by decide +kernel
theorem dX6_countMissing_22 : decode cX6_countMissing 22 = .ok (.if_icmp .ge 67, 3) := by decide +kernel
theorem dX6_countMissing_25 : decode cX6_countMissing 25 = .ok (.aload_n 0, 1) := by decide +kernel
theorem dX6_countMissing_26 : decode cX6_countMissing 26 = .ok (.getfield 11, 3) := by decide +kernel
theorem dX6_countMissing_29 : decode cX6_countMissing 29 = .ok (.iload 4, 2) := by decide +kernel
theorem dX6_countMissing_31 : decode cX6_countMissing 31 = .ok (.aaload, 1) := by decide +kernel
theorem dX6_countMissing_32 : decode cX6_countMissing 32 = .ok (.astore 5, 2) := by decide +kernel
theorem dX6_countMissing_34 : decode cX6_countMissing 34 = .ok (.aload 5, 2) := by decide +kernel
theorem dX6_countMissing_36 : decode cX6_countMissing 36 = .ok (.ifnull 47, 3) := by decide +kernel
theorem dX6_countMissing_39 : decode cX6_countMissing 39 = .ok (.aload 5, 2) := by decide +kernel
theorem dX6_countMissing_41 : decode cX6_countMissing 41 = .ok (.getfield 63, 3) := by decide +kernel
theorem dX6_countMissing_44 : decode cX6_countMissing 44 = .ok (.aload_n 1, 1) := by decide +kernel
theorem dX6_countMissing_45 : decode cX6_countMissing 45 = .ok (.getfield 60, 3) := by decide +kernel
theorem dX6_countMissing_48 : decode cX6_countMissing 48 = .ok (.if_icmp .ne 35, 3) := by decide +kernel
theorem dX6_countMissing_51 : decode cX6_countMissing 51 = .ok (.aload_n 0, 1) := by decide +kernel
theorem dX6_countMissing_52 : decode cX6_countMissing 52 = .ok (.getfield 17, 3) := by decide +kernel
theorem dX6_countMissing_55 : decode cX6_countMissing 55 = .ok (.iload 4, 2) := by decide +kernel
theorem dX6_countMissing_57 : decode cX6_countMissing 57 = .ok (.aload_n 0, 1) := by decide +kernel
theorem dX6_countMissing_58 : decode cX6_countMissing 58 = .ok (.aload 5, 2) := by decide +kernel
theorem dX6_countMissing_60 : decode cX6_countMissing 60 = .ok (.aload_n 2, 1) := by decide +kernel
theorem dX6_countMissing_61 : decode cX6_countMissing 61 = .ok (.invokevirtual 84, 3) := by decide +kernel
theorem dX6_countMissing_64 : decode cX6_countMissing 64 = .ok (.aastore, 1) := by decide +kernel
theorem dX6_countMissing_65 : decode cX6_countMissing 65 = .ok (.iload_n 3, 1) := by decide +kernel
theorem dX6_countMissing_66 : decode cX6_countMissing 66 = .ok (.aload_n 0, 1) := by decide +kernel
theorem dX6_countMissing_67 : decode cX6_countMissing 67 = .ok (.getfield 17, 3) := by decide +kernel
theorem dX6_countMissing_70 : decode cX6_countMissing 70 = .ok (.iload 4, 2) := by decide +kernel
theorem dX6_countMissing_72 : decode cX6_countMissing 72 = .ok (.aaload, 1) := by decide +kernel
theorem dX6_countMissing_73 : decode cX6_countMissing 73 = .ok (.ifnonnull 7, 3) := by decide +kernel
theorem dX6_countMissing_76 : decode cX6_countMissing 76 = .ok (.iconst 1, 1) := by decide +kernel
theorem dX6_countMissing_77 : decode cX6_countMissing 77 = .ok (.goto 4, 3) := by decide +kernel
theorem dX6_countMissing_80 : decode cX6_countMissing 80 = .ok (.iconst 0, 1) := by decide +kernel
theorem dX6_countMissing_81 : decode cX6_countMissing 81 = .ok (.iadd, 1) := by decide +kernel
theorem dX6_countMissing_82 : decode cX6_countMissing 82 = .ok (.istore_n 3, 1) := by decide +kernel
theorem dX6_countMissing_83 : decode cX6_countMissing 83 = .ok (.iinc 4 1, 3) := by decide +kernel
theorem dX6_countMissing_86 : decode cX6_countMissing 86 = .ok (.goto (-81), 3) := by decide +kernel
theorem dX6_countMissing_89 : decode cX6_countMissing 89 = .ok (.iload_n 3, 1) := by decide +kernel
theorem dX6_countMissing_90 : decode cX6_countMissing 90 = .ok (.ireturn, 1) := by decide +kernel
theorem dX6_twinOfParent_0 : decode cX6_twinOfParent 0 = .ok (.aload_n 1, 1) := by decide +kernel
theorem dX6_twinOfParent_1 : decode cX6_twinOfParent 1 = .ok (.getfield 31, 3) := by decide +kernel
theorem dX6_twinOfParent_4 : decode cX6_twinOfParent 4 = .ok (.ifnonnull 7, 3) := by decide +kernel
theorem dX6_twinOfParent_7 : decode cX6_twinOfParent 7 = .ok (.iconst (-1), 1) := by decide +kernel
theorem dX6_twinOfParent_8 : decode cX6_twinOfParent 8 = .ok (.goto 10, 3) := by decide +kernel
theorem dX6_twinOfParent_11 : decode cX6_twinOfParent 11 = .ok (.aload_n 1, 1) := by decide +kernel
theorem dX6_twinOfParent_12 : decode cX6_twinOfParent 12 = .ok (.getfield 31, 3) := by decide +kernel
theorem dX6_twinOfParent_15 : decode cX6_twinOfParent 15 = .ok (.getfield 60, 3) := by decide +kernel
theorem dX6_twinOfParent_18 : decode cX6_twinOfParent 18 = .ok (.istore_n 2, 1) := by decide +kernel
theorem dX6_twinOfParent_19 : decode cX6_twinOfParent 19 = .ok (.iload_n 2, 1) := by decide +kernel
theorem dX6_twinOfParent_20 : decode cX6_twinOfParent 20 = .ok (.ifCond .lt 12, 3) := by decide +kernel
theorem dX6_twinOfParent_23 : decode cX6_twinOfParent 23 = .ok (.iload_n 2, 1) := by decide +kernel
theorem dX6_twinOfParent_24 : decode cX6_twinOfParent 24 = .ok (.aload_n 0, 1) := by decide +kernel
theorem dX6_twinOfParent_25 : decode cX6_twinOfParent 25 = .ok (.getfield 17, 3) := by decide +kernel
theorem dX6_twinOfParent_28 : decode cX6_twinOfParent 28 = .ok (.arraylength, 1) := by decide +kernel
theorem dX6_twinOfParent_29 : decode cX6_twinOfParent 29 = .ok (.if_icmp .lt 7, 3) := by decide +kernel
theorem dX6_twinOfParent_32 : decode cX6_twinOfParent 32 = .ok (.aconst_null, 1) := by decide +kernel
theorem dX6_twinOfParent_33 : decode cX6_twinOfParent 33 = .ok (.goto 9, 3) := by decide +kernel
theorem dX6_twinOfParent_36 : decode cX6_twinOfParent 36 = .ok (.aload_n 0, 1) := by decide +kernel
theorem dX6_twinOfParent_37 : decode cX6_twinOfParent 37 = .ok (.getfield 17, 3) := by decide +kernel
theorem dX6_twinOfParent_40 : decode cX6_twinOfParent 40 = .ok (.iload_n 2, 1) := by decide +kernel
theorem dX6_twinOfParent_41 : decode cX6_twinOfParent 41 = .ok (.aaload, 1) := by decide +kernel
theorem dX6_twinOfParent_42 : decode cX6_twinOfParent 42 = .ok (.areturn, 1) := by decide +kernel
theorem dX6_twinOf_0 : decode cX6_twinOf 0 = .ok (.aload_n 1, 1) := by decide +kernel
theorem dX6_twinOf_1 : decode cX6_twinOf 1 = .ok (.getfield 31, 3) := by decide +kernel
theorem dX6_twinOf_4 : decode cX6_twinOf 4 = .ok (.ifnonnull 5, 3) := by decide +kernel
theorem dX6_twinOf_7 : decode cX6_twinOf 7 = .ok (.aload_n 2, 1) := by decide +kernel
theorem dX6_twinOf_8 : decode cX6_twinOf 8 = .ok (.areturn, 1) := by decide +kernel
theorem dX6_twinOf_9 : decode cX6_twinOf 9 = .ok (.aload_n 0, 1) := by decide +kernel
theorem dX6_twinOf_10 : decode cX6_twinOf 10 = .ok (.aload_n 1, 1) := by decide +kernel
theorem dX6_twinOf_11 : decode cX6_twinOf 11 = .ok (.invokevirtual 87, 3) := by decide +kernel
theorem dX6_twinOf_14 : decode cX6_twinOf 14 = .ok (.astore_n 3, 1) := by decide +kernel
theorem dX6_twinOf_15 : decode cX6_twinOf 15 = .ok (.aload_n 3, 1) := by decide +kernel
theorem dX6_twinOf_16 : decode cX6_twinOf 16 = .ok (.ifnonnull 7, 3) := by decide +kernel
theorem dX6_twinOf_19 : decode cX6_twinOf 19 = .ok (.aconst_null, 1) := by decide +kernel
theorem dX6_twinOf_20 : decode cX6_twinOf 20 = .ok (.goto 12, 3) := by decide +kernel
theorem dX6_twinOf_23 : decode cX6_twinOf 23 = .ok (.aload_n 0, 1) := by decide +kernel
theorem dX6_twinOf_24 : decode cX6_twinOf 24 = .ok (.aload_n 3, 1) := by decide +kernel
theorem dX6_twinOf_25 : decode cX6_twinOf 25 = .ok (.aload_n 1, 1) := by decide +kernel
theorem dX6_twinOf_26 : decode cX6_twinOf 26 = .ok (.getfield 35, 3) := by decide +kernel
theorem dX6_twinOf_29 : decode cX6_twinOf 29 = .ok (.invokevirtual 38, 3) := by decide +kernel
theorem dX6_twinOf_32 : decode cX6_twinOf 32 = .ok (.areturn, 1) := by decide +kernel
theorem dX6_twinOrNew_0 : decode cX6_twinOrNew 0 = .ok (.aload_n 0, 1) := by decide +kernel
theorem dX6_twinOrNew_1 : decode cX6_twinOrNew 1 = .ok (.aload_n 1, 1) := by decide +kernel
theorem dX6_twinOrNew_2 : decode cX6_twinOrNew 2 = .ok (.aload_n 2, 1) := by decide +kernel
theorem dX6_twinOrNew_3 : decode cX6_twinOrNew 3 = .ok (.invokevirtual 84, 3) := by decide +kernel
theorem dX6_twinOrNew_6 : decode cX6_twinOrNew 6 = .ok (.astore_n 3, 1) := by decide +kernel
theorem dX6_twinOrNew_7 : decode cX6_twinOrNew 7 = .ok (.aload_n 0, 1) := by decide +kernel
theorem dX6_twinOrNew_8 : decode cX6_twinOrNew 8 = .ok (.aload_n 1, 1) := by decide +kernel
theorem dX6_twinOrNew_9 : decode cX6_twinOrNew 9 = .ok (.invokevirtual 87, 3) := by decide +kernel
theorem dX6_twinOrNew_12 : decode cX6_twinOrNew 12 = .ok (.astore 4, 2) := by decide +kernel
theorem dX6_twinOrNew_14 : decode cX6_twinOrNew 14 = .ok (.aload_n 3, 1) := by decide +kernel
theorem dX6_twinOrNew_15 : decode cX6_twinOrNew 15 = .ok (.ifnonnull 25, 3) := by decide +kernel
theorem dX6_twinOrNew_18 : decode cX6_twinOrNew 18 = .ok (.aload 4, 2) := by decide +kernel
theorem dX6_twinOrNew_20 : decode cX6_twinOrNew 20 = .ok (.ifnull 20, 3) := by decide +kernel
theorem dX6_twinOrNew_23 : decode cX6_twinOrNew 23 = .ok (.aload_n 0, 1) := by decide +kernel
theorem dX6_twinOrNew_24 : decode cX6_twinOrNew 24 = .ok (.aload 4, 2) := by decide +kernel
theorem dX6_twinOrNew_26 : decode cX6_twinOrNew 26 = .ok (.aload_n 1, 1) := by decide +kernel
theorem dX6_twinOrNew_27 : decode cX6_twinOrNew 27 = .ok (.getfield 35, 3) := by decide +kernel
theorem dX6_twinOrNew_30 : decode cX6_twinOrNew 30 = .ok (.aload_n 1, 1) := by decide +kernel
theorem dX6_twinOrNew_31 : decode cX6_twinOrNew 31 = .ok (.getfield 42, 3) := by decide +kernel
theorem dX6_twinOrNew_34 : decode cX6_twinOrNew 34 = .ok (.invokevirtual 56, 3) := by decide +kernel
theorem dX6_twinOrNew_37 : decode cX6_twinOrNew 37 = .ok (.goto 4, 3) := by decide +kernel
theorem dX6_twinOrNew_40 : decode cX6_twinOrNew 40 = .ok (.aload_n 3, 1) := by decide +kernel
theorem dX6_twinOrNew_41 : decode cX6_twinOrNew 41 = .ok (.areturn, 1) := by decide +kernel
theorem dX7_init_0 : decode cX7_init 0 = .ok (.aload_n 0, 1) := by decide +kernel
theorem dX7_init_1 : decode cX7_init 1 = .ok (.invokespecial 3, 3) := by decide +kernel
theorem dX7_init_4 : decode cX7_init 4 = .ok (.aload_n 0, 1) := by decide +kernel
theorem dX7_init_5 : decode cX7_init 5 = .ok (.iconst 4, 1) := by decide +kernel
theorem dX7_init_6 : decode cX7_init 6 = .ok (.newarray .int, 2) := by decide +kernel
theorem dX7_init_8 : decode cX7_init 8 = .ok (.putfield 9, 3) := by decide +kernel
theorem dX7_init_11 : decode cX7_init 11 = .ok (.aload_n 0, 1) := by decide +kernel
theorem dX7_init_12 : decode cX7_init 12 = .ok (.iload_n 1, 1) := by decide +kernel
theorem dX7_init_13 : decode cX7_init 13 = .ok (.putfield 15, 3) := by decide +kernel
theorem dX7_init_16 : decode cX7_init 16 = .ok (.aload_n 0, 1) := by decide +kernel
theorem dX7_init_17 : decode cX7_init 17 = .ok (.iload_n 2, 1) := by decide +kernel
theorem dX7_init_18 : decode cX7_init 18 = .ok (.putfield 19, 3) := by decide +kernel
theorem dX7_init_21 : decode cX7_init 21 = .ok (.aload_n 0, 1) := by decide +kernel
theorem dX7_init_22 : decode cX7_init 22 = .ok (.iload_n 3, 1) := by decide +kernel
theorem dX7_init_23 : decode cX7_init 23 = .ok (.putfield 22, 3) := by decide +kernel
theorem dX7_init_26 : decode cX7_init 26 = .ok (.aload_n 0, 1) := by decide +kernel
theorem dX7_init_27 : decode cX7_init 27 = .ok (.aload 4, 2) := by decide +kernel
theorem dX7_init_29 : decode cX7_init 29 = .ok (.putfield 25, 3) := by decide +kernel
theorem dX7_init_32 : decode cX7_init 32 = .ok (.aload_n 0, 1) := by decide +kernel
theorem dX7_init_33 : decode cX7_init 33 = .ok (.iload 5, 2) := by decide +kernel
theorem dX7_init_35 : decode cX7_init 35 = .ok (.putfield 29, 3) := by decide +kernel
theorem dX7_init_38 : decode cX7_init 38 = .ok (.aload_n 0, 1) := by decide +kernel
theorem dX7_init_39 : decode cX7_init 39 = .ok (.aload 6, 2) := by decide +kernel
theorem dX7_init_41 : decode cX7_init 41 = .ok (.putfield 32, 3) := by decide +kernel
theorem dX7_init_44 : decode cX7_init 44 = .ok (.return_, 1) := by decide +kernel
theorem dX7_beginsAs_0 : decode cX7_beginsAs 0 = .ok (.aload_n 0, 1) := by decide +kernel
theorem dX7_beginsAs_1 : decode cX7_beginsAs 1 = .ok (.getfield 25, 3) := by decide +kernel
theorem dX7_beginsAs_4 : decode cX7_beginsAs 4 = .ok (.ifnonnull 42, 3) := by decide +kernel
theorem dX7_beginsAs_7 : decode cX7_beginsAs 7 = .ok (.aload_n 1, 1) := by decide +kernel
theorem dX7_beginsAs_8 : decode cX7_beginsAs 8 = .ok (.getfield 25, 3) := by decide +kernel
theorem dX7_beginsAs_11 : decode cX7_beginsAs 11 = .ok (.ifnonnull 35, 3) := by decide +kernel
theorem dX7_beginsAs_14 : decode cX7_beginsAs 14 = .ok (.aload_n 0, 1) := by decide +kernel
theorem dX7_beginsAs_15 : decode cX7_beginsAs 15 = .ok (.getfield 22, 3) := by decide +kernel
theorem dX7_beginsAs_18 : decode cX7_beginsAs 18 = .ok (.aload_n 1, 1) := by decide +kernel
theorem dX7_beginsAs_19 : decode cX7_beginsAs 19 = .ok (.getfield 22, 3) := by decide +kernel
theorem dX7_beginsAs_22 : decode cX7_beginsAs 22 = .ok (.if_icmp .ne 24, 3) := by decide +kernel
theorem dX7_beginsAs_25 : decode cX7_beginsAs 25 = .ok (.aload_n 0, 1) := by decide +kernel
theorem dX7_beginsAs_26 : decode cX7_beginsAs 26 = .ok (.getfield 32, 3) := by decide +kernel
theorem dX7_beginsAs_29 : decode cX7_beginsAs 29 = .ok (.getfield 36, 3) := by decide +kernel
theorem dX7_beginsAs_32 : decode cX7_beginsAs 32 = .ok (.aload_n 1, 1) := by decide +kernel
theorem dX7_beginsAs_33 : decode cX7_beginsAs 33 = .ok (.getfield 32, 3) := by decide +kernel
theorem dX7_beginsAs_36 : decode cX7_beginsAs 36 = .ok (.getfield 36, 3) := by decide +kernel
theorem dX7_beginsAs_39 : decode cX7_beginsAs 39 = .ok (.if_icmp .ne 7, 3) := by decide +kernel
theorem dX7_beginsAs_42 : decode cX7_beginsAs 42 = .ok (.iconst 1, 1) := by decide +kernel
theorem dX7_beginsAs_43 : decode cX7_beginsAs 43 = .ok (.goto 4, 3) := by decide +kernel
theorem dX7_beginsAs_46 : decode cX7_beginsAs 46 = .ok (.iconst 0, 1) := by decide +kernel
theorem dX7_beginsAs_47 : decode cX7_beginsAs 47 = .ok (.ireturn, 1) := by decide +kernel
theorem dX7_changeMark_0 : decode cX7_changeMark 0 = .ok (.iload_n 1, 1) := by decide +kernel
theorem dX7_changeMark_1 : decode cX7_changeMark 1 = .ok (.ifCond .lt 12, 3) := by decide +kernel
theorem dX7_changeMark_4 : decode cX7_changeMark 4 = .ok (.iload_n 1, 1) := by decide +kernel
theorem dX7_changeMark_5 : decode cX7_changeMark 5 = .ok (.aload_n 0, 1) := by decide +kernel
theorem dX7_changeMark_6 : decode cX7_changeMark 6 = .ok (.getfield 9, 3) := by decide +kernel
theorem dX7_changeMark_9 : decode cX7_changeMark 9 = .ok (.arraylength, 1) := by decide +kernel
theorem dX7_changeMark_10 : decode cX7_changeMark 10 = .ok (.if_icmp .lt 5, 3) := by decide +kernel
theorem dX7_changeMark_13 : decode cX7_changeMark 13 = .ok (.iconst 0, 1) := by decide +kernel
theorem dX7_changeMark_14 : decode cX7_changeMark 14 = .ok (.ireturn, 1) := by decide +kernel
theorem dX7_changeMark_15 : decode cX7_changeMark 15 = .ok (.aload_n 0, 1) := by decide +kernel
theorem dX7_changeMark_16 : decode cX7_changeMark 16 = .ok (.getfield 9, 3) := by decide +kernel
theorem dX7_changeMark_19 : decode cX7_changeMark 19 = .ok (.iload_n 1, 1) := by decide +kernel
theorem dX7_changeMark_20 : decode cX7_changeMark 20 = .ok (.iaload, 1) := by decide +kernel
theorem dX7_changeMark_21 : decode cX7_changeMark 21 = .ok (.istore_n 3, 1) := by decide +kernel
theorem dX7_changeMark_22 : decode cX7_changeMark 22 = .ok (.aload_n 0, 1) := by decide +kernel
theorem dX7_changeMark_23 : decode cX7_changeMark 23 = .ok (.getfield 9, 3) := by decide +kernel
theorem dX7_changeMark_26 : decode cX7_changeMark 26 = .ok (.iload_n 1, 1) := by decide +kernel
theorem dX7_changeMark_27 : decode cX7_changeMark 27 = .ok (.iload_n 2, 1) := by decide +kernel
theorem dX7_changeMark_28 : decode cX7_changeMark 28 = .ok (.iastore, 1) := by decide +kernel
theorem dX7_changeMark_29 : decode cX7_changeMark 29 = .ok (.iload_n 3, 1) := by decide +kernel
theorem dX7_changeMark_30 : decode cX7_changeMark 30 = .ok (.ireturn, 1) := by decide +kernel
theorem dX7_takeMarks_0 : decode cX7_takeMarks 0 = .ok (.iconst 0, 1) := by decide +kernel
theorem dX7_takeMarks_1 : decode cX7_takeMarks 1 = .ok (.istore_n 2, 1) := by decide +kernel
theorem dX7_takeMarks_2 : decode cX7_takeMarks 2 = .ok (.iload_n 2, 1) := by decide +kernel
theorem dX7_takeMarks_3 : decode cX7_takeMarks 3 = .ok (.aload_n 0, 1) := by decide +kernel
theorem dX7_takeMarks_4 : decode cX7_takeMarks 4 = .ok (.getfield 9, 3) := by decide +kernel
theorem dX7_takeMarks_7 : decode cX7_takeMarks 7 = .ok (.arraylength, 1) := by decide +kernel
theorem dX7_takeMarks_8 : decode cX7_takeMarks 8 = .ok (.if_icmp .ge 39, 3) := by decide +kernel
theorem dX7_takeMarks_11 : decode cX7_takeMarks 11 = .ok (.iload_n 2, 1) := by decide +kernel
theorem dX7_takeMarks_12 : decode cX7_takeMarks 12 = .ok (.aload_n 1, 1) := by decide +kernel
theorem dX7_takeMarks_13 : decode cX7_takeMarks 13 = .ok (.getfield 9, 3) := by decide +kernel
theorem dX7_takeMarks_16 : decode cX7_takeMarks 16 = .ok (.arraylength, 1) := by decide +kernel
theorem dX7_takeMarks_17 : decode cX7_takeMarks 17 = .ok (.if_icmp .ge 30, 3) := by decide +kernel
theorem dX7_takeMarks_20 : decode cX7_takeMarks 20 = .ok (.aload_n 0, 1) := by decide +kernel
theorem dX7_takeMarks_21 : decode cX7_takeMarks 21 = .ok (.getfield 9, 3) := by decide +kernel
theorem dX7_takeMarks_24 : decode cX7_takeMarks 24 = .ok (.iload_n 2, 1) := by decide +kernel
theorem dX7_takeMarks_25 : decode cX7_takeMarks 25 = .ok (.iaload, 1) := by decide +kernel
theorem dX7_takeMarks_26 : decode cX7_takeMarks 26 = .ok (.ifCond .ne 15, 3) := by decide +kernel
theorem dX7_takeMarks_29 : decode cX7_takeMarks 29 = .ok (.aload_n 0, 1) := by decide +kernel
theorem dX7_takeMarks_30 : decode cX7_takeMarks 30 = .ok (.getfield 9, 3) := by decide +kernel
theorem dX7_takeMarks_33 : decode cX7_takeMarks 33 = .ok (.iload_n 2, 1) := by decide +kernel
theorem dX7_takeMarks_34 : decode cX7_takeMarks 34 = .ok (.aload_n 1, 1) := by decide +kernel
theorem dX7_takeMarks_35 : decode cX7_takeMarks 35 = .ok (.getfield 9, 3) := by decide +kernel
theorem dX7_takeMarks_38 : decode cX7_takeMarks 38 = .ok (.iload_n 2, 1) := by decide +kernel
theorem dX7_takeMarks_39 : decode cX7_takeMarks 39 = .ok (.iaload, 1) := by decide +kernel
theorem dX7_takeMarks_40 : decode cX7_takeMarks 40 = .ok (.iastore, 1) := by decide +kernel
theorem dX7_takeMarks_41 : decode cX7_takeMarks 41 = .ok (.iinc 2 1, 3) := by decide +kernel
theorem dX7_takeMarks_44 : decode cX7_takeMarks 44 = .ok (.goto (-42), 3) := by decide +kernel
theorem dX7_takeMarks_47 : decode cX7_takeMarks 47 = .ok (.return_, 1) := by decide +kernel
theorem dX7_hasMark_0 : decode cX7_hasMark 0 = .ok (.iconst 0, 1) := by decide +kernel
theorem dX7_hasMark_1 : decode cX7_hasMark 1 = .ok (.istore_n 2, 1) := by decide +kernel
theorem dX7_hasMark_2 : decode cX7_hasMark 2 = .ok (.iload_n 2, 1) := by decide +kernel
theorem dX7_hasMark_3 : decode cX7_hasMark 3 = .ok (.aload_n 0, 1) := by decide +kernel
theorem dX7_hasMark_4 : decode cX7_hasMark 4 = .ok (.getfield 9, 3) := by decide +kernel
theorem dX7_hasMark_7 : decode cX7_hasMark 7 = .ok (.arraylength, 1) := by decide +kernel
theorem dX7_hasMark_8 : decode cX7_hasMark 8 = .ok (.if_icmp .ge 21, 3) := by decide +kernel
theorem dX7_hasMark_11 : decode cX7_hasMark 11 = .ok (.aload_n 0, 1) := by decide +kernel
theorem dX7_hasMark_12 : decode cX7_hasMark 12 = .ok (.getfield 9, 3) := by decide +kernel
theorem dX7_hasMark_15 : decode cX7_hasMark 15 = .ok (.iload_n 2, 1) := by decide +kernel
theorem dX7_hasMark_16 : decode cX7_hasMark 16 = .ok (.iaload, 1) := by decide +kernel
theorem dX7_hasMark_17 : decode cX7_hasMark 17 = .ok (.iload_n 1, 1) := by decide +kernel
theorem dX7_hasMark_18 : decode cX7_hasMark 18 = .ok (.if_icmp .ne 5, 3) := by decide +kernel
theorem dX7_hasMark_21 : decode cX7_hasMark 21 = .ok (.iconst 1, 1) := by decide +kernel
theorem dX7_hasMark_22 : decode cX7_hasMark 22 = .ok (.ireturn, 1) := by decide +kernel
theorem dX7_hasMark_23 : decode cX7_hasMark 23 = .ok (.iinc 2 1, 3) := by decide +kernel
theorem dX7_hasMark_26 : decode cX7_hasMark 26 = .ok (.goto (-24), 3) := by decide +kernel
theorem dX7_hasMark_29 : decode cX7_hasMark 29 = .ok (.iconst 0, 1) := by decide +kernel
theorem dX7_hasMark_30 : decode cX7_hasMark 30 = .ok (.ireturn, 1) := by decide +kernel
theorem dX7_told_0 : decode cX7_told 0 = .ok (.aload_n 0, 1) := by decide +kernel
theorem dX7_told_1 : decode cX7_told 1 = .ok (.iconst 1, 1) := by decide +kernel
theorem dX7_told_2 : decode cX7_told 2 = .ok (.invokevirtual 41, 3) := by decide +kernel
theorem dX7_told_5 : decode cX7_told 5 = .ok (.ifCond .eq 15, 3) := by decide +kernel
theorem dX7_told_8 : decode cX7_told 8 = .ok (.aload_n 0, 1) := by decide +kernel
theorem dX7_told_9 : decode cX7_told 9 = .ok (.iconst 2, 1) := by decide +kernel
theorem dX7_told_10 : decode cX7_told 10 = .ok (.invokevirtual 41, 3) := by decide +kernel
theorem dX7_told_13 : decode cX7_told 13 = .ok (.ifCond .eq 7, 3) := by decide +kernel
theorem dX7_told_16 : decode cX7_told 16 = .ok (.iconst 1, 1) := by decide +kernel
theorem dX7_told_17 : decode cX7_told 17 = .ok (.goto 4, 3) := by decide +kernel
theorem dX7_told_20 : decode cX7_told 20 = .ok (.iconst 0, 1) := by decide +kernel
theorem dX7_told_21 : decode cX7_told 21 = .ok (.istore_n 1, 1) := by decide +kernel
theorem dX7_told_22 : decode cX7_told 22 = .ok (.sipush 1000, 3) := by decide +kernel
theorem dX7_told_25 : decode cX7_told 25 = .ok (.aload_n 0, 1) := by decide +kernel
theorem dX7_told_26 : decode cX7_told 26 = .ok (.getfield 45, 3) := by decide +kernel
theorem dX7_told_29 : decode cX7_told 29 = .ok (.imul, 1) := by decide +kernel
theorem dX7_told_30 : decode cX7_told 30 = .ok (.bipush 10, 2) := by decide +kernel
theorem dX7_told_32 : decode cX7_told 32 = .ok (.aload_n 0, 1) := by decide +kernel
theorem dX7_told_33 : decode cX7_told 33 = .ok (.getfield 29, 3) := by decide +kernel
theorem dX7_told_36 : decode cX7_told 36 = .ok (.bipush (-2), 2) := by decide +kernel
theorem dX7_told_38 : decode cX7_told 38 = .ok (.isub, 1) := by decide +kernel
theorem dX7_told_39 : decode cX7_told 39 = .ok (.imul, 1) := by decide +kernel
theorem dX7_told_40 : decode cX7_told 40 = .ok (.iadd, 1) := by decide +kernel
theorem dX7_told_41 : decode cX7_told 41 = .ok (.iload_n 1, 1) := by decide +kernel
theorem dX7_told_42 : decode cX7_told 42 = .ok (.ifCond .eq 7, 3) := by decide +kernel
theorem dX7_told_45 : decode cX7_told 45 = .ok (.iconst 1, 1) := by decide +kernel
theorem dX7_told_46 : decode cX7_told 46 = .ok (.goto 4, 3) := by decide +kernel
theorem dX7_told_49 : decode cX7_told 49 = .ok (.iconst 0, 1) := by decide +kernel
theorem dX7_told_50 : decode cX7_told 50 = .ok (.iadd, 1) := by decide +kernel
theorem dX7_told_51 : decode cX7_told 51 = .ok (.ireturn, 1) := by decide +kernel
theorem dX8_init_0 : decode cX8_init 0 = .ok (.aload_n 0, 1) := by decide +kernel
theorem dX8_init_1 : decode cX8_init 1 = .ok (.invokespecial 1, 3) := by decide +kernel
theorem dX8_init_4 : decode cX8_init 4 = .ok (.aload_n 0, 1) := by decide +kernel
theorem dX8_init_5 : decode cX8_init 5 = .ok (.new 7, 3) := by decide +kernel
theorem dX8_init_8 : decode cX8_init 8 = .ok (.dup, 1) := by decide +kernel
theorem dX8_init_9 : decode cX8_init 9 = .ok (.invokespecial 9, 3) := by decide +kernel
theorem dX8_init_12 : decode cX8_init 12 = .ok (.putfield 10, 3) := by decide +kernel
theorem dX8_init_15 : decode cX8_init 15 = .ok (.aload_n 0, 1) := by decide +kernel
theorem dX8_init_16 : decode cX8_init 16 = .ok (.new 16, 3) := by decide +kernel
theorem dX8_init_19 : decode cX8_init 19 = .ok (.dup, 1) := by decide +kernel
theorem dX8_init_20 : decode cX8_init 20 = .ok (.invokespecial 18, 3) := by decide +kernel
theorem dX8_init_23 : decode cX8_init 23 = .ok (.putfield 19, 3) := by decide +kernel
theorem dX8_init_26 : decode cX8_init 26 = .ok (.return_, 1) := by decide +kernel
theorem dX8_player_0 : decode cX8_player 0 = .ok (.iload_n 1, 1) := by decide +kernel
theorem dX8_player_1 : decode cX8_player 1 = .ok (.iconst 0, 1) := by decide +kernel
theorem dX8_player_2 : decode cX8_player 2 = .ok (.bipush 20, 2) := by decide +kernel
theorem dX8_player_4 : decode cX8_player 4 = .ok (.invokestatic 23, 3) := by decide +kernel
theorem dX8_player_7 : decode cX8_player 7 = .ok (.aload_n 0, 1) := by decide +kernel
theorem dX8_player_8 : decode cX8_player 8 = .ok (.getfield 10, 3) := by decide +kernel
theorem dX8_player_11 : decode cX8_player 11 = .ok (.iload_n 1, 1) := by decide +kernel
theorem dX8_player_12 : decode cX8_player 12 = .ok (.invokevirtual 27, 3) := by decide +kernel
theorem dX8_player_15 : decode cX8_player 15 = .ok (.istore_n 2, 1) := by decide +kernel
theorem dX8_player_16 : decode cX8_player 16 = .ok (.iload_n 2, 1) := by decide +kernel
theorem dX8_player_17 : decode cX8_player 17 = .ok (.ifCond .ge 13, 3) := by decide +kernel
theorem dX8_player_20 : decode cX8_player 20 = .ok (.new 31, 3) := by decide +kernel
theorem dX8_player_23 : decode cX8_player 23 = .ok (.dup, 1) := by decide +kernel
theorem dX8_player_24 : decode cX8_player 24 = .ok (.ldc 33, 2) := by decide +kernel
theorem dX8_player_26 : decode cX8_player 26 = .ok (.invokespecial 35, 3) := by decide +kernel
theorem dX8_player_29 : decode cX8_player 29 = .ok (.athrow, 1) := by decide +kernel
theorem dX8_player_30 : decode cX8_player 30 = .ok (.iload_n 2, 1) := by decide +kernel
theorem dX8_player_31 : decode cX8_player 31 = .ok (.ireturn, 1) := by decide +kernel
theorem dX8_rank_0 : decode cX8_rank 0 = .ok (.aload_n 0, 1) := by decide +kernel
theorem dX8_rank_1 : decode cX8_rank 1 = .ok (.iload_n 1, 1) := by decide +kernel
theorem dX8_rank_2 : decode cX8_rank 2 = .ok (.invokevirtual 38, 3) := by decide +kernel
theorem dX8_rank_5 : decode cX8_rank 5 = .ok (.aload_n 0, 1) := by decide +kernel
theorem dX8_rank_6 : decode cX8_rank 6 = .ok (.getfield 10, 3) := by decide +kernel
theorem dX8_rank_9 : decode cX8_rank 9 = .ok (.iload_n 1, 1) := by decide +kernel
theorem dX8_rank_10 : decode cX8_rank 10 = .ok (.aload_n 0, 1) := by decide +kernel
theorem dX8_rank_11 : decode cX8_rank 11 = .ok (.getfield 10, 3) := by decide +kernel
theorem dX8_rank_14 : decode cX8_rank 14 = .ok (.getfield 42, 3) := by decide +kernel
theorem dX8_rank_17 : decode cX8_rank 17 = .ok (.invokevirtual 46, 3) := by decide +kernel
theorem dX8_rank_20 : decode cX8_rank 20 = .ok (.ireturn, 1) := by decide +kernel
theorem dX8_game_0 : decode cX8_game 0 = .ok (.aload_n 0, 1) := by decide +kernel
theorem dX8_game_1 : decode cX8_game 1 = .ok (.iload_n 1, 1) := by decide +kernel
theorem dX8_game_2 : decode cX8_game 2 = .ok (.invokevirtual 38, 3) := by decide +kernel
theorem dX8_game_5 : decode cX8_game 5 = .ok (.aload_n 0, 1) := by decide +kernel
theorem dX8_game_6 : decode cX8_game 6 = .ok (.iload_n 2, 1) := by decide +kernel
theorem dX8_game_7 : decode cX8_game 7 = .ok (.invokevirtual 38, 3) := by decide +kernel
theorem dX8_game_10 : decode cX8_game 10 = .ok (.iload_n 1, 1) := by decide +kernel
theorem dX8_game_11 : decode cX8_game 11 = .ok (.iload_n 2, 1) := by decide +kernel
theorem dX8_game_12 : decode cX8_game 12 = .ok (.if_icmp .ne 13, 3) := by decide +kernel
theorem dX8_game_15 : decode cX8_game 15 = .ok (.new 50, 3) := by decide +kernel
theorem dX8_game_18 : decode cX8_game 18 = .ok (.dup, 1) := by decide +kernel
theorem dX8_game_19 : decode cX8_game 19 = .ok (.ldc 52, 2) := by decide +kernel
theorem dX8_game_21 : decode cX8_game 21 = .ok (.invokespecial 54, 3) := by decide +kernel
theorem dX8_game_24 : decode cX8_game 24 = .ok (.athrow, 1) := by decide +kernel
theorem dX8_game_25 : decode cX8_game 25 = .ok (.iload_n 3, 1) := by decide +kernel
theorem dX8_game_26 : decode cX8_game 26 = .ok (.iconst 0, 1) := by decide +kernel
theorem dX8_game_27 : decode cX8_game 27 = .ok (.sipush 3600, 3) := by decide +kernel
theorem dX8_game_30 : decode cX8_game 30 = .ok (.invokestatic 23, 3) := by decide +kernel
theorem dX8_game_33 : decode cX8_game 33 = .ok (.iload 4, 2) := by decide +kernel
theorem dX8_game_35 : decode cX8_game 35 = .ok (.iconst 0, 1) := by decide +kernel
theorem dX8_game_36 : decode cX8_game 36 = .ok (.iconst 5, 1) := by decide +kernel
theorem dX8_game_37 : decode cX8_game 37 = .ok (.invokestatic 23, 3) := by decide +kernel
theorem dX8_game_40 : decode cX8_game 40 = .ok (.iload 5, 2) := by decide +kernel
theorem dX8_game_42 : decode cX8_game 42 = .ok (.iconst 1, 1) := by decide +kernel
theorem dX8_game_43 : decode cX8_game 43 = .ok (.bipush 60, 2) := by decide +kernel
theorem dX8_game_45 : decode cX8_game 45 = .ok (.invokestatic 23, 3) := by decide +kernel
theorem dX8_game_48 : decode cX8_game 48 = .ok (.aload_n 0, 1) := by decide +kernel
theorem dX8_game_49 : decode cX8_game 49 = .ok (.getfield 10, 3) := by decide +kernel
theorem dX8_game_52 : decode cX8_game 52 = .ok (.iload_n 1, 1) := by decide +kernel
theorem dX8_game_53 : decode cX8_game 53 = .ok (.iload_n 2, 1) := by decide +kernel
theorem dX8_game_54 : decode cX8_game 54 = .ok (.new 55, 3) := by decide +kernel
theorem dX8_game_57 : decode cX8_game 57 = .ok (.dup, 1) := by decide +kernel
theorem dX8_game_58 : decode cX8_game 58 = .ok (.iload_n 3, 1) := by decide +kernel
theorem dX8_game_59 : decode cX8_game 59 = .ok (.iload 4, 2) := by decide +kernel
theorem dX8_game_61 : decode cX8_game 61 = .ok (.iload 5, 2) := by decide +kernel
theorem dX8_game_63 : decode cX8_game 63 = .ok (.invokespecial 57, 3) := by decide +kernel
theorem dX8_game_66 : decode cX8_game 66 = .ok (.new 55, 3) := by decide +kernel
theorem dX8_game_69 : decode cX8_game 69 = .ok (.dup, 1) := by decide +kernel
theorem dX8_game_70 : decode cX8_game 70 = .ok (.iload_n 3, 1) := by decide +kernel
theorem dX8_game_71 : decode cX8_game 71 = .ok (.iload 4, 2) := by decide +kernel
theorem dX8_game_73 : decode cX8_game 73 = .ok (.iload 5, 2) := by decide +kernel
theorem dX8_game_75 : decode cX8_game 75 = .ok (.invokespecial 57, 3) := by decide +kernel
theorem dX8_game_78 : decode cX8_game 78 = .ok (.invokevirtual 59, 3) := by decide +kernel
theorem dX8_game_81 : decode cX8_game 81 = .ok (.istore 6, 2) := by decide +kernel
theorem dX8_game_83 : decode cX8_game 83 = .ok (.iload 6, 2) := by decide +kernel
theorem dX8_game_85 : decode cX8_game 85 = .ok (.ifCond .ge 13, 3) := by decide +kernel
theorem dX8_game_88 : decode cX8_game 88 = .ok (.new 31, 3) := by decide +kernel
theorem dX8_game_91 : decode cX8_game 91 = .ok (.dup, 1) := by decide +kernel
theorem dX8_game_92 : decode cX8_game 92 = .ok (.ldc 63, 2) := by decide +kernel
theorem dX8_game_94 : decode cX8_game 94 = .ok (.invokespecial 35, 3) := by decide +kernel
theorem dX8_game_97 : decode cX8_game 97 = .ok (.athrow, 1) := by decide +kernel
theorem dX8_game_98 : decode cX8_game 98 = .ok (.iload 6, 2) := by decide +kernel
theorem dX8_game_100 : decode cX8_game 100 = .ok (.ireturn, 1) := by decide +kernel
theorem dX8_play_0 : decode cX8_play 0 = .ok (.aload_n 0, 1) := by decide +kernel
theorem dX8_play_1 : decode cX8_play 1 = .ok (.iload_n 1, 1) := by decide +kernel
theorem dX8_play_2 : decode cX8_play 2 = .ok (.invokevirtual 65, 3) := by decide +kernel
theorem dX8_play_5 : decode cX8_play 5 = .ok (.astore 4, 2) := by decide +kernel
theorem dX8_play_7 : decode cX8_play 7 = .ok (.iload_n 2, 1) := by decide +kernel
theorem dX8_play_8 : decode cX8_play 8 = .ok (.invokestatic 69, 3) := by decide +kernel
theorem dX8_play_11 : decode cX8_play 11 = .ok (.iload_n 3, 1) := by decide +kernel
theorem dX8_play_12 : decode cX8_play 12 = .ok (.iconst 0, 1) := by decide +kernel
theorem dX8_play_13 : decode cX8_play 13 = .ok (.sipush 1000, 3) := by decide +kernel
theorem dX8_play_16 : decode cX8_play 16 = .ok (.invokestatic 23, 3) := by decide +kernel
theorem dX8_play_19 : decode cX8_play 19 = .ok (.aload 4, 2) := by decide +kernel
theorem dX8_play_21 : decode cX8_play 21 = .ok (.invokevirtual 72, 3) := by decide +kernel
theorem dX8_play_24 : decode cX8_play 24 = .ok (.ifCond .eq 15, 3) := by decide +kernel
theorem dX8_play_27 : decode cX8_play 27 = .ok (.aload 4, 2) := by decide +kernel
theorem dX8_play_29 : decode cX8_play 29 = .ok (.getfield 78, 3) := by decide +kernel
theorem dX8_play_32 : decode cX8_play 32 = .ok (.iload_n 2, 1) := by decide +kernel
theorem dX8_play_33 : decode cX8_play 33 = .ok (.invokevirtual 82, 3) := by decide +kernel
theorem dX8_play_36 : decode cX8_play 36 = .ok (.goto 4, 3) := by decide +kernel
theorem dX8_play_39 : decode cX8_play 39 = .ok (.aconst_null, 1) := by decide +kernel
theorem dX8_play_40 : decode cX8_play 40 = .ok (.astore 5, 2) := by decide +kernel
theorem dX8_play_42 : decode cX8_play 42 = .ok (.aload 5, 2) := by decide +kernel
theorem dX8_play_44 : decode cX8_play 44 = .ok (.ifnonnull 13, 3) := by decide +kernel
theorem dX8_play_47 : decode cX8_play 47 = .ok (.new 31, 3) := by decide +kernel
theorem dX8_play_50 : decode cX8_play 50 = .ok (.dup, 1) := by decide +kernel
theorem dX8_play_51 : decode cX8_play 51 = .ok (.ldc 88, 2) := by decide +kernel
theorem dX8_play_53 : decode cX8_play 53 = .ok (.invokespecial 35, 3) := by decide +kernel
theorem dX8_play_56 : decode cX8_play 56 = .ok (.athrow, 1) := by decide +kernel
theorem dX8_play_57 : decode cX8_play 57 = .ok (.aload_n 0, 1) := by decide +kernel
theorem dX8_play_58 : decode cX8_play 58 = .ok (.getfield 10, 3) := by decide +kernel
theorem dX8_play_61 : decode cX8_play 61 = .ok (.aload 4, 2) := by decide +kernel
theorem dX8_play_63 : decode cX8_play 63 = .ok (.iload_n 3, 1) := by decide +kernel
theorem dX8_play_64 : decode cX8_play 64 = .ok (.invokevirtual 90, 3) := by decide +kernel
theorem dX8_play_67 : decode cX8_play 67 = .ok (.ifCond .eq 13, 3) := by decide +kernel
theorem dX8_play_70 : decode cX8_play 70 = .ok (.aload 4, 2) := by decide +kernel
theorem dX8_play_72 : decode cX8_play 72 = .ok (.aload 5, 2) := by decide +kernel
theorem dX8_play_74 : decode cX8_play 74 = .ok (.invokevirtual 94, 3) := by decide +kernel
theorem dX8_play_77 : decode cX8_play 77 = .ok (.goto 4, 3) := by decide +kernel
theorem dX8_play_80 : decode cX8_play 80 = .ok (.iconst (-1), 1) := by decide +kernel
theorem dX8_play_81 : decode cX8_play 81 = .ok (.ireturn, 1) := by decide +kernel
theorem dX8_pass_0 : decode cX8_pass 0 = .ok (.aload_n 0, 1) := by decide +kernel
theorem dX8_pass_1 : decode cX8_pass 1 = .ok (.iload_n 1, 1) := by decide +kernel
theorem dX8_pass_2 : decode cX8_pass 2 = .ok (.invokevirtual 65, 3) := by decide +kernel
theorem dX8_pass_5 : decode cX8_pass 5 = .ok (.astore_n 3, 1) := by decide +kernel
theorem dX8_pass_6 : decode cX8_pass 6 = .ok (.iload_n 2, 1) := by decide +kernel
theorem dX8_pass_7 : decode cX8_pass 7 = .ok (.iconst 0, 1) := by decide +kernel
theorem dX8_pass_8 : decode cX8_pass 8 = .ok (.sipush 1000, 3) := by decide +kernel
theorem dX8_pass_11 : decode cX8_pass 11 = .ok (.invokestatic 23, 3) := by decide +kernel
theorem dX8_pass_14 : decode cX8_pass 14 = .ok (.aload_n 3, 1) := by decide +kernel
theorem dX8_pass_15 : decode cX8_pass 15 = .ok (.invokestatic 98, 3) := by decide +kernel
theorem dX8_pass_18 : decode cX8_pass 18 = .ok (.aload_n 0, 1) := by decide +kernel
theorem dX8_pass_19 : decode cX8_pass 19 = .ok (.getfield 10, 3) := by decide +kernel
theorem dX8_pass_22 : decode cX8_pass 22 = .ok (.aload_n 3, 1) := by decide +kernel
theorem dX8_pass_23 : decode cX8_pass 23 = .ok (.iload_n 2, 1) := by decide +kernel
theorem dX8_pass_24 : decode cX8_pass 24 = .ok (.invokevirtual 90, 3) := by decide +kernel
theorem dX8_pass_27 : decode cX8_pass 27 = .ok (.ifCond .eq 11, 3) := by decide +kernel
theorem dX8_pass_30 : decode cX8_pass 30 = .ok (.aload_n 0, 1) := by decide +kernel
theorem dX8_pass_31 : decode cX8_pass 31 = .ok (.getfield 10, 3) := by decide +kernel
theorem dX8_pass_34 : decode cX8_pass 34 = .ok (.aload_n 3, 1) := by decide +kernel
theorem dX8_pass_35 : decode cX8_pass 35 = .ok (.invokevirtual 102, 3) := by decide +kernel
theorem dX8_pass_38 : decode cX8_pass 38 = .ok (.aload_n 3, 1) := by decide +kernel
theorem dX8_pass_39 : decode cX8_pass 39 = .ok (.invokevirtual 105, 3) := by decide +kernel
theorem dX8_pass_42 : decode cX8_pass 42 = .ok (.ireturn, 1) := by decide +kernel
theorem dX8_resign_0 : decode cX8_resign 0 = .ok (.aload_n 0, 1) := by decide +kernel
theorem dX8_resign_1 : decode cX8_resign 1 = .ok (.iload_n 1, 1) := by decide +kernel
theorem dX8_resign_2 : decode cX8_resign 2 = .ok (.invokevirtual 65, 3) := by decide +kernel
theorem dX8_resign_5 : decode cX8_resign 5 = .ok (.astore_n 2, 1) := by decide +kernel
theorem dX8_resign_6 : decode cX8_resign 6 = .ok (.aload_n 2, 1) := by decide +kernel
theorem dX8_resign_7 : decode cX8_resign 7 = .ok (.invokestatic 98, 3) := by decide +kernel
theorem dX8_resign_10 : decode cX8_resign 10 = .ok (.aload_n 0, 1) := by decide +kernel
theorem dX8_resign_11 : decode cX8_resign 11 = .ok (.getfield 10, 3) := by decide +kernel
theorem dX8_resign_14 : decode cX8_resign 14 = .ok (.aload_n 2, 1) := by decide +kernel
theorem dX8_resign_15 : decode cX8_resign 15 = .ok (.aload_n 2, 1) := by decide +kernel
theorem dX8_resign_16 : decode cX8_resign 16 = .ok (.invokevirtual 109, 3) := by decide +kernel
theorem dX8_resign_19 : decode cX8_resign 19 = .ok (.invokevirtual 112, 3) := by decide +kernel
theorem dX8_resign_22 : decode cX8_resign 22 = .ok (.aload_n 2, 1) := by decide +kernel
theorem dX8_resign_23 : decode cX8_resign 23 = .ok (.invokevirtual 105, 3) := by decide +kernel
theorem dX8_resign_26 : decode cX8_resign 26 = .ok (.ireturn, 1) := by decide +kernel
theorem dX8_state_0 : decode cX8_state 0 = .ok (.aload_n 0, 1) := by decide +kernel
theorem dX8_state_1 : decode cX8_state 1 = .ok (.iload_n 1, 1) := by decide +kernel
theorem dX8_state_2 : decode cX8_state 2 = .ok (.invokevirtual 65, 3) := by decide +kernel
theorem dX8_state_5 : decode cX8_state 5 = .ok (.invokevirtual 105, 3) := by decide +kernel
theorem dX8_state_8 : decode cX8_state 8 = .ok (.ireturn, 1) := by decide +kernel
theorem dX8_handicap_0 : decode cX8_handicap 0 = .ok (.aload_n 0, 1) := by decide +kernel
theorem dX8_handicap_1 : decode cX8_handicap 1 = .ok (.iload_n 1, 1) := by decide +kernel
theorem dX8_handicap_2 : decode cX8_handicap 2 = .ok (.invokevirtual 65, 3) := by decide +kernel
theorem dX8_handicap_5 : decode cX8_handicap 5 = .ok (.getfield 116, 3) := by decide +kernel
theorem dX8_handicap_8 : decode cX8_handicap 8 = .ok (.ireturn, 1) := by decide +kernel
theorem dX8_sign_0 : decode cX8_sign 0 = .ok (.aload_n 0, 1) := by decide +kernel
theorem dX8_sign_1 : decode cX8_sign 1 = .ok (.iload_n 1, 1) := by decide +kernel
theorem dX8_sign_2 : decode cX8_sign 2 = .ok (.invokevirtual 65, 3) := by decide +kernel
theorem dX8_sign_5 : decode cX8_sign 5 = .ok (.astore_n 3, 1) := by decide +kernel
theorem dX8_sign_6 : decode cX8_sign 6 = .ok (.iload_n 2, 1) := by decide +kernel
theorem dX8_sign_7 : decode cX8_sign 7 = .ok (.invokestatic 69, 3) := by decide +kernel
theorem dX8_sign_10 : decode cX8_sign 10 = .ok (.aload_n 3, 1) := by decide +kernel
theorem dX8_sign_11 : decode cX8_sign 11 = .ok (.getfield 78, 3) := by decide +kernel
theorem dX8_sign_14 : decode cX8_sign 14 = .ok (.iload_n 2, 1) := by decide +kernel
theorem dX8_sign_15 : decode cX8_sign 15 = .ok (.invokevirtual 119, 3) := by decide +kernel
theorem dX8_sign_18 : decode cX8_sign 18 = .ok (.ireturn, 1) := by decide +kernel
theorem dX8_clock_0 : decode cX8_clock 0 = .ok (.aload_n 0, 1) := by decide +kernel
theorem dX8_clock_1 : decode cX8_clock 1 = .ok (.iload_n 1, 1) := by decide +kernel
theorem dX8_clock_2 : decode cX8_clock 2 = .ok (.invokevirtual 65, 3) := by decide +kernel
theorem dX8_clock_5 : decode cX8_clock 5 = .ok (.astore_n 3, 1) := by decide +kernel
theorem dX8_clock_6 : decode cX8_clock 6 = .ok (.iload_n 2, 1) := by decide +kernel
theorem dX8_clock_7 : decode cX8_clock 7 = .ok (.ifCond .eq 18, 3) := by decide +kernel
theorem dX8_clock_10 : decode cX8_clock 10 = .ok (.iload_n 2, 1) := by decide +kernel
theorem dX8_clock_11 : decode cX8_clock 11 = .ok (.iconst 1, 1) := by decide +kernel
theorem dX8_clock_12 : decode cX8_clock 12 = .ok (.if_icmp .eq 13, 3) := by decide +kernel
theorem dX8_clock_15 : decode cX8_clock 15 = .ok (.new 123, 3) := by decide +kernel
theorem dX8_clock_18 : decode cX8_clock 18 = .ok (.dup, 1) := by decide +kernel
theorem dX8_clock_19 : decode cX8_clock 19 = .ok (.ldc 125, 2) := by decide +kernel
theorem dX8_clock_21 : decode cX8_clock 21 = .ok (.invokespecial 127, 3) := by decide +kernel
theorem dX8_clock_24 : decode cX8_clock 24 = .ok (.athrow, 1) := by decide +kernel
theorem dX8_clock_25 : decode cX8_clock 25 = .ok (.aload_n 3, 1) := by decide +kernel
theorem dX8_clock_26 : decode cX8_clock 26 = .ok (.iload_n 2, 1) := by decide +kernel
theorem dX8_clock_27 : decode cX8_clock 27 = .ok (.invokevirtual 128, 3) := by decide +kernel
theorem dX8_clock_30 : decode cX8_clock 30 = .ok (.invokevirtual 132, 3) := by decide +kernel
theorem dX8_clock_33 : decode cX8_clock 33 = .ok (.ireturn, 1) := by decide +kernel
theorem dX8_score_0 : decode cX8_score 0 = .ok (.aload_n 0, 1) := by decide +kernel
theorem dX8_score_1 : decode cX8_score 1 = .ok (.iload_n 1, 1) := by decide +kernel
theorem dX8_score_2 : decode cX8_score 2 = .ok (.invokevirtual 65, 3) := by decide +kernel
theorem dX8_score_5 : decode cX8_score 5 = .ok (.invokevirtual 135, 3) := by decide +kernel
theorem dX8_score_8 : decode cX8_score 8 = .ok (.ireturn, 1) := by decide +kernel
theorem dX8_liberties_0 : decode cX8_liberties 0 = .ok (.aload_n 0, 1) := by decide +kernel
theorem dX8_liberties_1 : decode cX8_liberties 1 = .ok (.iload_n 1, 1) := by decide +kernel
theorem dX8_liberties_2 : decode cX8_liberties 2 = .ok (.invokevirtual 65, 3) := by decide +kernel
theorem dX8_liberties_5 : decode cX8_liberties 5 = .ok (.astore_n 3, 1) := by decide +kernel
theorem dX8_liberties_6 : decode cX8_liberties 6 = .ok (.iload_n 2, 1) := by decide +kernel
theorem dX8_liberties_7 : decode cX8_liberties 7 = .ok (.invokestatic 69, 3) := by decide +kernel
theorem dX8_liberties_10 : decode cX8_liberties 10 = .ok (.aload_n 3, 1) := by decide +kernel
theorem dX8_liberties_11 : decode cX8_liberties 11 = .ok (.iload_n 2, 1) := by decide +kernel
theorem dX8_liberties_12 : decode cX8_liberties 12 = .ok (.invokevirtual 138, 3) := by decide +kernel
theorem dX8_liberties_15 : decode cX8_liberties 15 = .ok (.ireturn, 1) := by decide +kernel
theorem dX8_flooded_0 : decode cX8_flooded 0 = .ok (.aload_n 0, 1) := by decide +kernel
theorem dX8_flooded_1 : decode cX8_flooded 1 = .ok (.iload_n 1, 1) := by decide +kernel
theorem dX8_flooded_2 : decode cX8_flooded 2 = .ok (.invokevirtual 65, 3) := by decide +kernel
theorem dX8_flooded_5 : decode cX8_flooded 5 = .ok (.astore_n 3, 1) := by decide +kernel
theorem dX8_flooded_6 : decode cX8_flooded 6 = .ok (.iload_n 2, 1) := by decide +kernel
theorem dX8_flooded_7 : decode cX8_flooded 7 = .ok (.invokestatic 69, 3) := by decide +kernel
theorem dX8_flooded_10 : decode cX8_flooded 10 = .ok (.aload_n 3, 1) := by decide +kernel
theorem dX8_flooded_11 : decode cX8_flooded 11 = .ok (.getfield 78, 3) := by decide +kernel
theorem dX8_flooded_14 : decode cX8_flooded 14 = .ok (.iload_n 2, 1) := by decide +kernel
theorem dX8_flooded_15 : decode cX8_flooded 15 = .ok (.invokevirtual 141, 3) := by decide +kernel
theorem dX8_flooded_18 : decode cX8_flooded 18 = .ok (.ireturn, 1) := by decide +kernel
theorem dX8_judge_0 : decode cX8_judge 0 = .ok (.aload_n 0, 1) := by decide +kernel
theorem dX8_judge_1 : decode cX8_judge 1 = .ok (.iload_n 1, 1) := by decide +kernel
theorem dX8_judge_2 : decode cX8_judge 2 = .ok (.invokevirtual 65, 3) := by decide +kernel
theorem dX8_judge_5 : decode cX8_judge 5 = .ok (.astore_n 2, 1) := by decide +kernel
theorem dX8_judge_6 : decode cX8_judge 6 = .ok (.aload_n 2, 1) := by decide +kernel
theorem dX8_judge_7 : decode cX8_judge 7 = .ok (.invokevirtual 72, 3) := by decide +kernel
theorem dX8_judge_10 : decode cX8_judge 10 = .ok (.ifCond .ne 10, 3) := by decide +kernel
theorem dX8_judge_13 : decode cX8_judge 13 = .ok (.aload_n 2, 1) := by decide +kernel
theorem dX8_judge_14 : decode cX8_judge 14 = .ok (.getfield 144, 3) := by decide +kernel
theorem dX8_judge_17 : decode cX8_judge 17 = .ok (.ifCond .eq 13, 3) := by decide +kernel
theorem dX8_judge_20 : decode cX8_judge 20 = .ok (.new 31, 3) := by decide +kernel
theorem dX8_judge_23 : decode cX8_judge 23 = .ok (.dup, 1) := by decide +kernel
theorem dX8_judge_24 : decode cX8_judge 24 = .ok (.ldc 148, 2) := by decide +kernel
theorem dX8_judge_26 : decode cX8_judge 26 = .ok (.invokespecial 35, 3) := by decide +kernel
theorem dX8_judge_29 : decode cX8_judge 29 = .ok (.athrow, 1) := by decide +kernel
theorem dX8_judge_30 : decode cX8_judge 30 = .ok (.aload_n 2, 1) := by decide +kernel
theorem dX8_judge_31 : decode cX8_judge 31 = .ok (.invokevirtual 150, 3) := by decide +kernel
theorem dX8_judge_34 : decode cX8_judge 34 = .ok (.aload_n 0, 1) := by decide +kernel
theorem dX8_judge_35 : decode cX8_judge 35 = .ok (.getfield 10, 3) := by decide +kernel
theorem dX8_judge_38 : decode cX8_judge 38 = .ok (.invokevirtual 153, 3) := by decide +kernel
theorem dX8_judge_41 : decode cX8_judge 41 = .ok (.ireturn, 1) := by decide +kernel
theorem dX8_due_0 : decode cX8_due 0 = .ok (.aload_n 0, 1) := by decide +kernel
theorem dX8_due_1 : decode cX8_due 1 = .ok (.getfield 10, 3) := by decide +kernel
theorem dX8_due_4 : decode cX8_due 4 = .ok (.aload_n 0, 1) := by decide +kernel
theorem dX8_due_5 : decode cX8_due 5 = .ok (.iload_n 1, 1) := by decide +kernel
theorem dX8_due_6 : decode cX8_due 6 = .ok (.invokevirtual 65, 3) := by decide +kernel
theorem dX8_due_9 : decode cX8_due 9 = .ok (.invokevirtual 156, 3) := by decide +kernel
theorem dX8_due_12 : decode cX8_due 12 = .ok (.ireturn, 1) := by decide +kernel
theorem dX8_settle_0 : decode cX8_settle 0 = .ok (.aload_n 0, 1) := by decide +kernel
theorem dX8_settle_1 : decode cX8_settle 1 = .ok (.getfield 10, 3) := by decide +kernel
theorem dX8_settle_4 : decode cX8_settle 4 = .ok (.invokevirtual 160, 3) := by decide +kernel
theorem dX8_settle_7 : decode cX8_settle 7 = .ok (.ireturn, 1) := by decide +kernel
theorem dX8_ladder_0 : decode cX8_ladder 0 = .ok (.aload_n 0, 1) := by decide +kernel
theorem dX8_ladder_1 : decode cX8_ladder 1 = .ok (.iload_n 1, 1) := by decide +kernel
theorem dX8_ladder_2 : decode cX8_ladder 2 = .ok (.invokevirtual 65, 3) := by decide +kernel
theorem dX8_ladder_5 : decode cX8_ladder 5 = .ok (.astore 4, 2) := by decide +kernel
theorem dX8_ladder_7 : decode cX8_ladder 7 = .ok (.iload_n 2, 1) := by decide +kernel
theorem dX8_ladder_8 : decode cX8_ladder 8 = .ok (.invokestatic 69, 3) := by decide +kernel
theorem dX8_ladder_11 : decode cX8_ladder 11 = .ok (.iload_n 3, 1) := by decide +kernel
theorem dX8_ladder_12 : decode cX8_ladder 12 = .ok (.iconst 1, 1) := by decide +kernel
theorem dX8_ladder_13 : decode cX8_ladder 13 = .ok (.bipush 8, 2) := by decide +kernel
theorem dX8_ladder_15 : decode cX8_ladder 15 = .ok (.invokestatic 23, 3) := by decide +kernel
theorem dX8_ladder_18 : decode cX8_ladder 18 = .ok (.aload 4, 2) := by decide +kernel
theorem dX8_ladder_20 : decode cX8_ladder 20 = .ok (.getfield 78, 3) := by decide +kernel
theorem dX8_ladder_23 : decode cX8_ladder 23 = .ok (.iload_n 2, 1) := by decide +kernel
theorem dX8_ladder_24 : decode cX8_ladder 24 = .ok (.iload_n 3, 1) := by decide +kernel
theorem dX8_ladder_25 : decode cX8_ladder 25 = .ok (.iconst 2, 1) := by decide +kernel
theorem dX8_ladder_26 : decode cX8_ladder 26 = .ok (.invokevirtual 163, 3) := by decide +kernel
theorem dX8_ladder_29 : decode cX8_ladder 29 = .ok (.ireturn, 1) := by decide +kernel
theorem dX8_net_0 : decode cX8_net 0 = .ok (.aload_n 0, 1) := by decide +kernel
theorem dX8_net_1 : decode cX8_net 1 = .ok (.iload_n 1, 1) := by decide +kernel
theorem dX8_net_2 : decode cX8_net 2 = .ok (.invokevirtual 65, 3) := by decide +kernel
theorem dX8_net_5 : decode cX8_net 5 = .ok (.astore 4, 2) := by decide +kernel
theorem dX8_net_7 : decode cX8_net 7 = .ok (.iload_n 2, 1) := by decide +kernel
theorem dX8_net_8 : decode cX8_net 8 = .ok (.invokestatic 69, 3) := by decide +kernel
theorem dX8_net_11 : decode cX8_net 11 = .ok (.iload_n 3, 1) := by decide +kernel
theorem dX8_net_12 : decode cX8_net 12 = .ok (.iconst 1, 1) := by decide +kernel
theorem dX8_net_13 : decode cX8_net 13 = .ok (.iconst 3, 1) := by decide +kernel
theorem dX8_net_14 : decode cX8_net 14 = .ok (.invokestatic 23, 3) := by decide +kernel
theorem dX8_net_17 : decode cX8_net 17 = .ok (.aload 4, 2) := by decide +kernel
theorem dX8_net_19 : decode cX8_net 19 = .ok (.getfield 78, 3) := by decide +kernel
theorem dX8_net_22 : decode cX8_net 22 = .ok (.iload_n 2, 1) := by decide +kernel
theorem dX8_net_23 : decode cX8_net 23 = .ok (.iload_n 3, 1) := by decide +kernel
theorem dX8_net_24 : decode cX8_net 24 = .ok (.iconst 3, 1) := by decide +kernel
theorem dX8_net_25 : decode cX8_net 25 = .ok (.invokevirtual 163, 3) := by decide +kernel
theorem dX8_net_28 : decode cX8_net 28 = .ok (.ireturn, 1) := by decide +kernel
theorem dX8_lesson_0 : decode cX8_lesson 0 = .ok (.aload_n 0, 1) := by decide +kernel
theorem dX8_lesson_1 : decode cX8_lesson 1 = .ok (.iload_n 1, 1) := by decide +kernel
theorem dX8_lesson_2 : decode cX8_lesson 2 = .ok (.invokevirtual 65, 3) := by decide +kernel
theorem dX8_lesson_5 : decode cX8_lesson 5 = .ok (.astore_n 3, 1) := by decide +kernel
theorem dX8_lesson_6 : decode cX8_lesson 6 = .ok (.iload_n 2, 1) := by decide +kernel
theorem dX8_lesson_7 : decode cX8_lesson 7 = .ok (.iconst 0, 1) := by decide +kernel
theorem dX8_lesson_8 : decode cX8_lesson 8 = .ok (.aload_n 3, 1) := by decide +kernel
theorem dX8_lesson_9 : decode cX8_lesson 9 = .ok (.getfield 78, 3) := by decide +kernel
theorem dX8_lesson_12 : decode cX8_lesson 12 = .ok (.getfield 167, 3) := by decide +kernel
theorem dX8_lesson_15 : decode cX8_lesson 15 = .ok (.invokestatic 23, 3) := by decide +kernel
theorem dX8_lesson_18 : decode cX8_lesson 18 = .ok (.aload_n 3, 1) := by decide +kernel
theorem dX8_lesson_19 : decode cX8_lesson 19 = .ok (.getfield 78, 3) := by decide +kernel
theorem dX8_lesson_22 : decode cX8_lesson 22 = .ok (.iload_n 2, 1) := by decide +kernel
theorem dX8_lesson_23 : decode cX8_lesson 23 = .ok (.invokevirtual 170, 3) := by decide +kernel
theorem dX8_lesson_26 : decode cX8_lesson 26 = .ok (.astore 4, 2) := by decide +kernel
theorem dX8_lesson_28 : decode cX8_lesson 28 = .ok (.aload 4, 2) := by decide +kernel
theorem dX8_lesson_30 : decode cX8_lesson 30 = .ok (.ifnonnull 7, 3) := by decide +kernel
theorem dX8_lesson_33 : decode cX8_lesson 33 = .ok (.iconst (-1), 1) := by decide +kernel
theorem dX8_lesson_34 : decode cX8_lesson 34 = .ok (.goto 13, 3) := by decide +kernel
theorem dX8_lesson_37 : decode cX8_lesson 37 = .ok (.aload_n 0, 1) := by decide +kernel
theorem dX8_lesson_38 : decode cX8_lesson 38 = .ok (.getfield 19, 3) := by decide +kernel
theorem dX8_lesson_41 : decode cX8_lesson 41 = .ok (.iload_n 1, 1) := by decide +kernel
theorem dX8_lesson_42 : decode cX8_lesson 42 = .ok (.aload 4, 2) := by decide +kernel
theorem dX8_lesson_44 : decode cX8_lesson 44 = .ok (.invokevirtual 173, 3) := by decide +kernel
theorem dX8_lesson_47 : decode cX8_lesson 47 = .ok (.istore 5, 2) := by decide +kernel
theorem dX8_lesson_49 : decode cX8_lesson 49 = .ok (.iload 5, 2) := by decide +kernel
theorem dX8_lesson_51 : decode cX8_lesson 51 = .ok (.ifCond .ge 13, 3) := by decide +kernel
theorem dX8_lesson_54 : decode cX8_lesson 54 = .ok (.new 31, 3) := by decide +kernel
theorem dX8_lesson_57 : decode cX8_lesson 57 = .ok (.dup, 1) := by decide +kernel
theorem dX8_lesson_58 : decode cX8_lesson 58 = .ok (.ldc 176, 2) := by decide +kernel
theorem dX8_lesson_60 : decode cX8_lesson 60 = .ok (.invokespecial 35, 3) := by decide +kernel
theorem dX8_lesson_63 : decode cX8_lesson 63 = .ok (.athrow, 1) := by decide +kernel
theorem dX8_lesson_64 : decode cX8_lesson 64 = .ok (.iload 5, 2) := by decide +kernel
theorem dX8_lesson_66 : decode cX8_lesson 66 = .ok (.ireturn, 1) := by decide +kernel
theorem dX8_branch_0 : decode cX8_branch 0 = .ok (.aload_n 0, 1) := by decide +kernel
theorem dX8_branch_1 : decode cX8_branch 1 = .ok (.iload_n 1, 1) := by decide +kernel
theorem dX8_branch_2 : decode cX8_branch 2 = .ok (.invokevirtual 178, 3) := by decide +kernel
theorem dX8_branch_5 : decode cX8_branch 5 = .ok (.astore_n 3, 1) := by decide +kernel
theorem dX8_branch_6 : decode cX8_branch 6 = .ok (.iload_n 2, 1) := by decide +kernel
theorem dX8_branch_7 : decode cX8_branch 7 = .ok (.iconst (-1), 1) := by decide +kernel
theorem dX8_branch_8 : decode cX8_branch 8 = .ok (.if_icmp .eq 7, 3) := by decide +kernel
theorem dX8_branch_11 : decode cX8_branch 11 = .ok (.iload_n 2, 1) := by decide +kernel
theorem dX8_branch_12 : decode cX8_branch 12 = .ok (.invokestatic 69, 3) := by decide +kernel
theorem dX8_branch_15 : decode cX8_branch 15 = .ok (.aload_n 0, 1) := by decide +kernel
theorem dX8_branch_16 : decode cX8_branch 16 = .ok (.getfield 19, 3) := by decide +kernel
theorem dX8_branch_19 : decode cX8_branch 19 = .ok (.aload_n 3, 1) := by decide +kernel
theorem dX8_branch_20 : decode cX8_branch 20 = .ok (.iload_n 2, 1) := by decide +kernel
theorem dX8_branch_21 : decode cX8_branch 21 = .ok (.invokevirtual 182, 3) := by decide +kernel
theorem dX8_branch_24 : decode cX8_branch 24 = .ok (.istore 4, 2) := by decide +kernel
theorem dX8_branch_26 : decode cX8_branch 26 = .ok (.iload 4, 2) := by decide +kernel
theorem dX8_branch_28 : decode cX8_branch 28 = .ok (.ifCond .ge 13, 3) := by decide +kernel
theorem dX8_branch_31 : decode cX8_branch 31 = .ok (.new 31, 3) := by decide +kernel
theorem dX8_branch_34 : decode cX8_branch 34 = .ok (.dup, 1) := by decide +kernel
theorem dX8_branch_35 : decode cX8_branch 35 = .ok (.ldc 186, 2) := by decide +kernel
theorem dX8_branch_37 : decode cX8_branch 37 = .ok (.invokespecial 35, 3) := by decide +kernel
theorem dX8_branch_40 : decode cX8_branch 40 = .ok (.athrow, 1) := by decide +kernel
theorem dX8_branch_41 : decode cX8_branch 41 = .ok (.iload 4, 2) := by decide +kernel
theorem dX8_branch_43 : decode cX8_branch 43 = .ok (.ireturn, 1) := by decide +kernel
theorem dX8_mark_0 : decode cX8_mark 0 = .ok (.aload_n 0, 1) := by decide +kernel
theorem dX8_mark_1 : decode cX8_mark 1 = .ok (.iload_n 1, 1) := by decide +kernel
theorem dX8_mark_2 : decode cX8_mark 2 = .ok (.invokevirtual 178, 3) := by decide +kernel
theorem dX8_mark_5 : decode cX8_mark 5 = .ok (.astore 4, 2) := by decide +kernel
theorem dX8_mark_7 : decode cX8_mark 7 = .ok (.iload_n 2, 1) := by decide +kernel
theorem dX8_mark_8 : decode cX8_mark 8 = .ok (.ifCond .lt 8, 3) := by decide +kernel
theorem dX8_mark_11 : decode cX8_mark 11 = .ok (.iload_n 2, 1) := by decide +kernel
theorem dX8_mark_12 : decode cX8_mark 12 = .ok (.iconst 4, 1) := by decide +kernel
theorem dX8_mark_13 : decode cX8_mark 13 = .ok (.if_icmp .lt 13, 3) := by decide +kernel
theorem dX8_mark_16 : decode cX8_mark 16 = .ok (.new 123, 3) := by decide +kernel
theorem dX8_mark_19 : decode cX8_mark 19 = .ok (.dup, 1) := by decide +kernel
theorem dX8_mark_20 : decode cX8_mark 20 = .ok (.ldc 188, 2) := by decide +kernel
theorem dX8_mark_22 : decode cX8_mark 22 = .ok (.invokespecial 127, 3) := by decide +kernel
theorem dX8_mark_25 : decode cX8_mark 25 = .ok (.athrow, 1) := by decide +kernel
theorem dX8_mark_26 : decode cX8_mark 26 = .ok (.iload_n 3, 1) := by decide +kernel
theorem dX8_mark_27 : decode cX8_mark 27 = .ok (.iconst 0, 1) := by decide +kernel
theorem dX8_mark_28 : decode cX8_mark 28 = .ok (.iconst 3, 1) := by decide +kernel
theorem dX8_mark_29 : decode cX8_mark 29 = .ok (.invokestatic 23, 3) := by decide +kernel
theorem dX8_mark_32 : decode cX8_mark 32 = .ok (.aload 4, 2) := by decide +kernel
theorem dX8_mark_34 : decode cX8_mark 34 = .ok (.iload_n 2, 1) := by decide +kernel
theorem dX8_mark_35 : decode cX8_mark 35 = .ok (.iload_n 3, 1) := by decide +kernel
theorem dX8_mark_36 : decode cX8_mark 36 = .ok (.invokevirtual 190, 3) := by decide +kernel
theorem dX8_mark_39 : decode cX8_mark 39 = .ok (.ireturn, 1) := by decide +kernel
theorem dX8_node_0 : decode cX8_node 0 = .ok (.aload_n 0, 1) := by decide +kernel
theorem dX8_node_1 : decode cX8_node 1 = .ok (.iload_n 1, 1) := by decide +kernel
theorem dX8_node_2 : decode cX8_node 2 = .ok (.invokevirtual 178, 3) := by decide +kernel
theorem dX8_node_5 : decode cX8_node 5 = .ok (.invokevirtual 195, 3) := by decide +kernel
theorem dX8_node_8 : decode cX8_node 8 = .ok (.ireturn, 1) := by decide +kernel
theorem dX8_merge_0 : decode cX8_merge 0 = .ok (.aload_n 0, 1) := by decide +kernel
theorem dX8_merge_1 : decode cX8_merge 1 = .ok (.iload_n 1, 1) := by decide +kernel
theorem dX8_merge_2 : decode cX8_merge 2 = .ok (.invokevirtual 178, 3) := by decide +kernel
theorem dX8_merge_5 : decode cX8_merge 5 = .ok (.astore_n 3, 1) := by decide +kernel
theorem dX8_merge_6 : decode cX8_merge 6 = .ok (.aload_n 0, 1) := by decide +kernel
theorem dX8_merge_7 : decode cX8_merge 7 = .ok (.iload_n 2, 1) := by decide +kernel
theorem dX8_merge_8 : decode cX8_merge 8 = .ok (.invokevirtual 178, 3) := by decide +kernel
theorem dX8_merge_11 : decode cX8_merge 11 = .ok (.astore 4, 2) := by decide +kernel
theorem dX8_merge_13 : decode cX8_merge 13 = .ok (.iload_n 1, 1) := by decide +kernel
theorem dX8_merge_14 : decode cX8_merge 14 = .ok (.iload_n 2, 1) := by decide +kernel
theorem dX8_merge_15 : decode cX8_merge 15 = .ok (.if_icmp .eq 12, 3) := by decide +kernel
theorem dX8_merge_18 : decode cX8_merge 18 = .ok (.aload_n 3, 1) := by decide +kernel
theorem dX8_merge_19 : decode cX8_merge 19 = .ok (.aload 4, 2) := by decide +kernel
theorem dX8_merge_21 : decode cX8_merge 21 = .ok (.invokevirtual 196, 3) := by decide +kernel
theorem dX8_merge_24 : decode cX8_merge 24 = .ok (.ifCond .ne 13, 3) := by decide +kernel
theorem dX8_merge_27 : decode cX8_merge 27 = .ok (.new 50, 3) := by decide +kernel
theorem dX8_merge_30 : decode cX8_merge 30 = .ok (.dup, 1) := by decide +kernel
theorem dX8_merge_31 : decode cX8_merge 31 = .ok (.ldc 200, 2) := by decide +kernel
theorem dX8_merge_33 : decode cX8_merge 33 = .ok (.invokespecial 54, 3) := by decide +kernel
theorem dX8_merge_36 : decode cX8_merge 36 = .ok (.athrow, 1) := by decide +kernel
theorem dX8_merge_37 : decode cX8_merge 37 = .ok (.aload_n 0, 1) := by decide +kernel
theorem dX8_merge_38 : decode cX8_merge 38 = .ok (.getfield 19, 3) := by decide +kernel
theorem dX8_merge_41 : decode cX8_merge 41 = .ok (.aload_n 3, 1) := by decide +kernel
theorem dX8_merge_42 : decode cX8_merge 42 = .ok (.aload 4, 2) := by decide +kernel
theorem dX8_merge_44 : decode cX8_merge 44 = .ok (.invokevirtual 202, 3) := by decide +kernel
theorem dX8_merge_47 : decode cX8_merge 47 = .ok (.istore 5, 2) := by decide +kernel
theorem dX8_merge_49 : decode cX8_merge 49 = .ok (.iload 5, 2) := by decide +kernel
theorem dX8_merge_51 : decode cX8_merge 51 = .ok (.ifCond .ge 13, 3) := by decide +kernel
theorem dX8_merge_54 : decode cX8_merge 54 = .ok (.new 31, 3) := by decide +kernel
theorem dX8_merge_57 : decode cX8_merge 57 = .ok (.dup, 1) := by decide +kernel
theorem dX8_merge_58 : decode cX8_merge 58 = .ok (.ldc 206, 2) := by decide +kernel
theorem dX8_merge_60 : decode cX8_merge 60 = .ok (.invokespecial 35, 3) := by decide +kernel
theorem dX8_merge_63 : decode cX8_merge 63 = .ok (.athrow, 1) := by decide +kernel
theorem dX8_merge_64 : decode cX8_merge 64 = .ok (.iload 5, 2) := by decide +kernel
theorem dX8_merge_66 : decode cX8_merge 66 = .ok (.ireturn, 1) := by decide +kernel
theorem dX8_requireRange_0 : decode cX8_requireRange 0 = .ok (.iload_n 0, 1) := by decide +kernel
theorem dX8_requireRange_1 : decode cX8_requireRange 1 = .ok (.iload_n 1, 1) := by decide +kernel
theorem dX8_requireRange_2 : decode cX8_requireRange 2 = .ok (.if_icmp .lt 8, 3) := by decide +kernel
theorem dX8_requireRange_5 : decode cX8_requireRange 5 = .ok (.iload_n 0, 1) := by decide +kernel
theorem dX8_requireRange_6 : decode cX8_requireRange 6 = .ok (.iload_n 2, 1) := by decide +kernel
theorem dX8_requireRange_7 : decode cX8_requireRange 7 = .ok (.if_icmp .le 13, 3) := by decide +kernel
theorem dX8_requireRange_10 : decode cX8_requireRange 10 = .ok (.new 50, 3) := by decide +kernel
theorem dX8_requireRange_13 : decode cX8_requireRange 13 = .ok (.dup, 1) := by decide +kernel
theorem dX8_requireRange_14 : decode cX8_requireRange 14 = .ok (.ldc 208, 2) := by decide +kernel
theorem dX8_requireRange_16 : decode cX8_requireRange 16 = .ok (.invokespecial 54, 3) := by decide +kernel
theorem dX8_requireRange_19 : decode cX8_requireRange 19 = .ok (.athrow, 1) := by decide +kernel
theorem dX8_requireRange_20 : decode cX8_requireRange 20 = .ok (.return_, 1) := by decide +kernel
theorem dX8_requirePoint_0 : decode cX8_requirePoint 0 = .ok (.iload_n 0, 1) := by decide +kernel
theorem dX8_requirePoint_1 : decode cX8_requirePoint 1 = .ok (.ifCond .lt 9, 3) := by decide +kernel
theorem dX8_requirePoint_4 : decode cX8_requirePoint 4 = .ok (.iload_n 0, 1) := by decide +kernel
theorem dX8_requirePoint_5 : decode cX8_requirePoint 5 = .ok (.bipush 49, 2) := by decide +kernel
theorem dX8_requirePoint_7 : decode cX8_requirePoint 7 = .ok (.if_icmp .lt 13, 3) := by decide +kernel
theorem dX8_requirePoint_10 : decode cX8_requirePoint 10 = .ok (.new 123, 3) := by decide +kernel
theorem dX8_requirePoint_13 : decode cX8_requirePoint 13 = .ok (.dup, 1) := by decide +kernel
theorem dX8_requirePoint_14 : decode cX8_requirePoint 14 = .ok (.ldc 210, 2) := by decide +kernel
theorem dX8_requirePoint_16 : decode cX8_requirePoint 16 = .ok (.invokespecial 127, 3) := by decide +kernel
theorem dX8_requirePoint_19 : decode cX8_requirePoint 19 = .ok (.athrow, 1) := by decide +kernel
theorem dX8_requirePoint_20 : decode cX8_requirePoint 20 = .ok (.return_, 1) := by decide +kernel
theorem dX8_requirePlayer_0 : decode cX8_requirePlayer 0 = .ok (.aload_n 0, 1) := by decide +kernel
theorem dX8_requirePlayer_1 : decode cX8_requirePlayer 1 = .ok (.getfield 10, 3) := by decide +kernel
theorem dX8_requirePlayer_4 : decode cX8_requirePlayer 4 = .ok (.iload_n 1, 1) := by decide +kernel
theorem dX8_requirePlayer_5 : decode cX8_requirePlayer 5 = .ok (.invokevirtual 212, 3) := by decide +kernel
theorem dX8_requirePlayer_8 : decode cX8_requirePlayer 8 = .ok (.ifCond .ne 13, 3) := by decide +kernel
theorem dX8_requirePlayer_11 : decode cX8_requirePlayer 11 = .ok (.new 123, 3) := by decide +kernel
theorem dX8_requirePlayer_14 : decode cX8_requirePlayer 14 = .ok (.dup, 1) := by decide +kernel
theorem dX8_requirePlayer_15 : decode cX8_requirePlayer 15 = .ok (.ldc 216, 2) := by decide +kernel
theorem dX8_requirePlayer_17 : decode cX8_requirePlayer 17 = .ok (.invokespecial 127, 3) := by decide +kernel
theorem dX8_requirePlayer_20 : decode cX8_requirePlayer 20 = .ok (.athrow, 1) := by decide +kernel
theorem dX8_requirePlayer_21 : decode cX8_requirePlayer 21 = .ok (.return_, 1) := by decide +kernel
theorem dX8_requireGoesOn_0 : decode cX8_requireGoesOn 0 = .ok (.aload_n 0, 1) := by decide +kernel
theorem dX8_requireGoesOn_1 : decode cX8_requireGoesOn 1 = .ok (.invokevirtual 72, 3) := by decide +kernel
theorem dX8_requireGoesOn_4 : decode cX8_requireGoesOn 4 = .ok (.ifCond .ne 13, 3) := by decide +kernel
theorem dX8_requireGoesOn_7 : decode cX8_requireGoesOn 7 = .ok (.new 31, 3) := by decide +kernel
theorem dX8_requireGoesOn_10 : decode cX8_requireGoesOn 10 = .ok (.dup, 1) := by decide +kernel
theorem dX8_requireGoesOn_11 : decode cX8_requireGoesOn 11 = .ok (.ldc 218, 2) := by decide +kernel
theorem dX8_requireGoesOn_13 : decode cX8_requireGoesOn 13 = .ok (.invokespecial 35, 3) := by decide +kernel
theorem dX8_requireGoesOn_16 : decode cX8_requireGoesOn 16 = .ok (.athrow, 1) := by decide +kernel
theorem dX8_requireGoesOn_17 : decode cX8_requireGoesOn 17 = .ok (.return_, 1) := by decide +kernel
theorem dX8_matchOf_0 : decode cX8_matchOf 0 = .ok (.aload_n 0, 1) := by decide +kernel
theorem dX8_matchOf_1 : decode cX8_matchOf 1 = .ok (.getfield 10, 3) := by decide +kernel
theorem dX8_matchOf_4 : decode cX8_matchOf 4 = .ok (.iload_n 1, 1) := by decide +kernel
theorem dX8_matchOf_5 : decode cX8_matchOf 5 = .ok (.invokevirtual 220, 3) := by decide +kernel
theorem dX8_matchOf_8 : decode cX8_matchOf 8 = .ok (.astore_n 2, 1) := by decide +kernel
theorem dX8_matchOf_9 : decode cX8_matchOf 9 = .ok (.aload_n 2, 1) := by decide +kernel
theorem dX8_matchOf_10 : decode cX8_matchOf 10 = .ok (.ifnonnull 13, 3) := by decide +kernel
theorem dX8_matchOf_13 : decode cX8_matchOf 13 = .ok (.new 123, 3) := by decide +kernel
theorem dX8_matchOf_16 : decode cX8_matchOf 16 = .ok (.dup, 1) := by decide +kernel
theorem dX8_matchOf_17 : decode cX8_matchOf 17 = .ok (.ldc 223, 2) := by decide +kernel
theorem dX8_matchOf_19 : decode cX8_matchOf 19 = .ok (.invokespecial 127, 3) := by decide +kernel
theorem dX8_matchOf_22 : decode cX8_matchOf 22 = .ok (.athrow, 1) := by decide +kernel
theorem dX8_matchOf_23 : decode cX8_matchOf 23 = .ok (.aload_n 2, 1) := by decide +kernel
theorem dX8_matchOf_24 : decode cX8_matchOf 24 = .ok (.areturn, 1) := by decide +kernel
theorem dX8_twigOf_0 : decode cX8_twigOf 0 = .ok (.aload_n 0, 1) := by decide +kernel
theorem dX8_twigOf_1 : decode cX8_twigOf 1 = .ok (.getfield 19, 3) := by decide +kernel
theorem dX8_twigOf_4 : decode cX8_twigOf 4 = .ok (.iload_n 1, 1) := by decide +kernel
theorem dX8_twigOf_5 : decode cX8_twigOf 5 = .ok (.invokevirtual 225, 3) := by decide +kernel
theorem dX8_twigOf_8 : decode cX8_twigOf 8 = .ok (.astore_n 2, 1) := by decide +kernel
theorem dX8_twigOf_9 : decode cX8_twigOf 9 = .ok (.aload_n 2, 1) := by decide +kernel
theorem dX8_twigOf_10 : decode cX8_twigOf 10 = .ok (.ifnonnull 13, 3) := by decide +kernel
theorem dX8_twigOf_13 : decode cX8_twigOf 13 = .ok (.new 123, 3) := by decide +kernel
theorem dX8_twigOf_16 : decode cX8_twigOf 16 = .ok (.dup, 1) := by decide +kernel
theorem dX8_twigOf_17 : decode cX8_twigOf 17 = .ok (.ldc 228, 2) := by decide +kernel
theorem dX8_twigOf_19 : decode cX8_twigOf 19 = .ok (.invokespecial 127, 3) := by decide +kernel
theorem dX8_twigOf_22 : decode cX8_twigOf 22 = .ok (.athrow, 1) := by decide +kernel
theorem dX8_twigOf_23 : decode cX8_twigOf 23 = .ok (.aload_n 2, 1) := by decide +kernel
theorem dX8_twigOf_24 : decode cX8_twigOf 24 = .ok (.areturn, 1) := by decide +kernel
theorem dL_part_0 : decode cL_part 0 = .ok (.iload_n 1, 1) := by decide +kernel
theorem dL_part_1 : decode cL_part 1 = .ok (.aload_n 0, 1) := by decide +kernel
theorem dL_part_2 : decode cL_part 2 = .ok (.arraylength, 1) := by decide +kernel
theorem dL_part_3 : decode cL_part 3 = .ok (.if_icmp .ge 9, 3) := by decide +kernel
theorem dL_part_6 : decode cL_part 6 = .ok (.aload_n 0, 1) := by decide +kernel
theorem dL_part_7 : decode cL_part 7 = .ok (.iload_n 1, 1) := by decide +kernel
theorem dL_part_8 : decode cL_part 8 = .ok (.iaload, 1) := by decide +kernel
theorem dL_part_9 : decode cL_part 9 = .ok (.goto 16, 3) := by decide +kernel
theorem dL_part_12 : decode cL_part 12 = .ok (.sipush 587, 3) := by decide +kernel
theorem dL_part_15 : decode cL_part 15 = .ok (.iload_n 1, 1) := by decide +kernel
theorem dL_part_16 : decode cL_part 16 = .ok (.imul, 1) := by decide +kernel
theorem dL_part_17 : decode cL_part 17 = .ok (.sipush 439, 3) := by decide +kernel
theorem dL_part_20 : decode cL_part 20 = .ok (.iload_n 1, 1) := by decide +kernel
theorem dL_part_21 : decode cL_part 21 = .ok (.imul, 1) := by decide +kernel
theorem dL_part_22 : decode cL_part 22 = .ok (.iload_n 1, 1) := by decide +kernel
theorem dL_part_23 : decode cL_part 23 = .ok (.imul, 1) := by decide +kernel
theorem dL_part_24 : decode cL_part 24 = .ok (.iadd, 1) := by decide +kernel
theorem dL_part_25 : decode cL_part 25 = .ok (.istore_n 3, 1) := by decide +kernel
theorem dL_part_26 : decode cL_part 26 = .ok (.iload_n 3, 1) := by decide +kernel
theorem dL_part_27 : decode cL_part 27 = .ok (.ldc 7, 2) := by decide +kernel
theorem dL_part_29 : decode cL_part 29 = .ok (.iand, 1) := by decide +kernel
theorem dL_part_30 : decode cL_part 30 = .ok (.iload_n 2, 1) := by decide +kernel
theorem dL_part_31 : decode cL_part 31 = .ok (.irem, 1) := by decide +kernel
theorem dL_part_32 : decode cL_part 32 = .ok (.ireturn, 1) := by decide +kernel
theorem dL_does_0 : decode cL_does 0 = .ok (.iload_n 1, 1) := by decide +kernel
theorem dL_does_1 : decode cL_does 1 = .ok (.ifCond .ne 11, 3) := by decide +kernel
theorem dL_does_4 : decode cL_does 4 = .ok (.aload_n 0, 1) := by decide +kernel
theorem dL_does_5 : decode cL_does 5 = .ok (.iload_n 2, 1) := by decide +kernel
theorem dL_does_6 : decode cL_does 6 = .ok (.invokevirtual 8, 3) := by decide +kernel
theorem dL_does_9 : decode cL_does 9 = .ok (.goto 182, 3) := by decide +kernel
theorem dL_does_12 : decode cL_does 12 = .ok (.iload_n 1, 1) := by decide +kernel
theorem dL_does_13 : decode cL_does 13 = .ok (.iconst 1, 1) := by decide +kernel
theorem dL_does_14 : decode cL_does 14 = .ok (.if_icmp .ne 18, 3) := by decide +kernel
theorem dL_does_17 : decode cL_does 17 = .ok (.aload_n 0, 1) := by decide +kernel
theorem dL_does_18 : decode cL_does 18 = .ok (.iload_n 2, 1) := by decide +kernel
theorem dL_does_19 : decode cL_does 19 = .ok (.iload_n 3, 1) := by decide +kernel
theorem dL_does_20 : decode cL_does 20 = .ok (.iload 4, 2) := by decide +kernel
theorem dL_does_22 : decode cL_does 22 = .ok (.iload 5, 2) := by decide +kernel
theorem dL_does_24 : decode cL_does 24 = .ok (.iload 6, 2) := by decide +kernel
theorem dL_does_26 : decode cL_does 26 = .ok (.invokevirtual 14, 3) := by decide +kernel
theorem dL_does_29 : decode cL_does 29 = .ok (.goto 162, 3) := by decide +kernel
theorem dL_does_32 : decode cL_does 32 = .ok (.iload_n 1, 1) := by decide +kernel
theorem dL_does_33 : decode cL_does 33 = .ok (.iconst 2, 1) := by decide +kernel
theorem dL_does_34 : decode cL_does 34 = .ok (.if_icmp .ne 14, 3) := by decide +kernel
theorem dL_does_37 : decode cL_does 37 = .ok (.aload_n 0, 1) := by decide +kernel
theorem dL_does_38 : decode cL_does 38 = .ok (.iload_n 2, 1) := by decide +kernel
theorem dL_does_39 : decode cL_does 39 = .ok (.iload_n 3, 1) := by decide +kernel
theorem dL_does_40 : decode cL_does 40 = .ok (.iload 4, 2) := by decide +kernel
theorem dL_does_42 : decode cL_does 42 = .ok (.invokevirtual 18, 3) := by decide +kernel
theorem dL_does_45 : decode cL_does 45 = .ok (.goto 146, 3) := by decide +kernel
theorem dL_does_48 : decode cL_does 48 = .ok (.iload_n 1, 1) := by decide +kernel
theorem dL_does_49 : decode cL_does 49 = .ok (.iconst 3, 1) := by decide +kernel
theorem dL_does_50 : decode cL_does 50 = .ok (.if_icmp .ne 12, 3) := by decide +kernel
theorem dL_does_53 : decode cL_does 53 = .ok (.aload_n 0, 1) := by decide +kernel
theorem dL_does_54 : decode cL_does 54 = .ok (.iload_n 2, 1) := by decide +kernel
theorem dL_does_55 : decode cL_does 55 = .ok (.iload_n 3, 1) := by decide +kernel
theorem dL_does_56 : decode cL_does 56 = .ok (.invokevirtual 22, 3) := by decide +kernel
theorem dL_does_59 : decode cL_does 59 = .ok (.goto 132, 3) := by decide +kernel
theorem dL_does_62 : decode cL_does 62 = .ok (.iload_n 1, 1) := by decide +kernel
theorem dL_does_63 : decode cL_does 63 = .ok (.iconst 4, 1) := by decide +kernel
theorem dL_does_64 : decode cL_does 64 = .ok (.if_icmp .ne 11, 3) := by decide +kernel
theorem dL_does_67 : decode cL_does 67 = .ok (.aload_n 0, 1) := by decide +kernel
theorem dL_does_68 : decode cL_does 68 = .ok (.iload_n 2, 1) := by decide +kernel
theorem dL_does_69 : decode cL_does 69 = .ok (.invokevirtual 26, 3) := by decide +kernel
theorem dL_does_72 : decode cL_does 72 = .ok (.goto 119, 3) := by decide +kernel
theorem dL_does_75 : decode cL_does 75 = .ok (.iload_n 1, 1) := by decide +kernel
theorem dL_does_76 : decode cL_does 76 = .ok (.iconst 5, 1) := by decide +kernel
theorem dL_does_77 : decode cL_does 77 = .ok (.if_icmp .ne 11, 3) := by decide +kernel
theorem dL_does_80 : decode cL_does 80 = .ok (.aload_n 0, 1) := by decide +kernel
theorem dL_does_81 : decode cL_does 81 = .ok (.iload_n 2, 1) := by decide +kernel
theorem dL_does_82 : decode cL_does 82 = .ok (.invokevirtual 29, 3) := by decide +kernel
theorem dL_does_85 : decode cL_does 85 = .ok (.goto 106, 3) := by decide +kernel
theorem dL_does_88 : decode cL_does 88 = .ok (.iload_n 1, 1) := by decide +kernel
theorem dL_does_89 : decode cL_does 89 = .ok (.bipush 6, 2) := by decide +kernel
theorem dL_does_91 : decode cL_does 91 = .ok (.if_icmp .ne 12, 3) := by decide +kernel
theorem dL_does_94 : decode cL_does 94 = .ok (.aload_n 0, 1) := by decide +kernel
theorem dL_does_95 : decode cL_does 95 = .ok (.iload_n 2, 1) := by decide +kernel
theorem dL_does_96 : decode cL_does 96 = .ok (.iload_n 3, 1) := by decide +kernel
theorem dL_does_97 : decode cL_does 97 = .ok (.invokevirtual 32, 3) := by decide +kernel
theorem dL_does_100 : decode cL_does 100 = .ok (.goto 91, 3) := by decide +kernel
theorem dL_does_103 : decode cL_does 103 = .ok (.iload_n 1, 1) := by decide +kernel
theorem dL_does_104 : decode cL_does 104 = .ok (.bipush 7, 2) := by decide +kernel
theorem dL_does_106 : decode cL_does 106 = .ok (.if_icmp .ne 12, 3) := by decide +kernel
theorem dL_does_109 : decode cL_does 109 = .ok (.aload_n 0, 1) := by decide +kernel
theorem dL_does_110 : decode cL_does 110 = .ok (.iload_n 2, 1) := by decide +kernel
theorem dL_does_111 : decode cL_does 111 = .ok (.iload_n 3, 1) := by decide +kernel
theorem dL_does_112 : decode cL_does 112 = .ok (.invokevirtual 35, 3) := by decide +kernel
theorem dL_does_115 : decode cL_does 115 = .ok (.goto 76, 3) := by decide +kernel
theorem dL_does_118 : decode cL_does 118 = .ok (.iload_n 1, 1) := by decide +kernel
theorem dL_does_119 : decode cL_does 119 = .ok (.bipush 8, 2) := by decide +kernel
theorem dL_does_121 : decode cL_does 121 = .ok (.if_icmp .ne 14, 3) := by decide +kernel
theorem dL_does_124 : decode cL_does 124 = .ok (.aload_n 0, 1) := by decide +kernel
theorem dL_does_125 : decode cL_does 125 = .ok (.iload_n 2, 1) := by decide +kernel
theorem dL_does_126 : decode cL_does 126 = .ok (.iload_n 3, 1) := by decide +kernel
theorem dL_does_127 : decode cL_does 127 = .ok (.iload 4, 2) := by decide +kernel
theorem dL_does_129 : decode cL_does 129 = .ok (.invokevirtual 38, 3) := by decide +kernel
theorem dL_does_132 : decode cL_does 132 = .ok (.goto 59, 3) := by decide +kernel
theorem dL_does_135 : decode cL_does 135 = .ok (.iload_n 1, 1) := by decide +kernel
theorem dL_does_136 : decode cL_does 136 = .ok (.bipush 9, 2) := by decide +kernel
theorem dL_does_138 : decode cL_does 138 = .ok (.if_icmp .ne 12, 3) := by decide +kernel
theorem dL_does_141 : decode cL_does 141 = .ok (.aload_n 0, 1) := by decide +kernel
theorem dL_does_142 : decode cL_does 142 = .ok (.iload_n 2, 1) := by decide +kernel
theorem dL_does_143 : decode cL_does 143 = .ok (.iload_n 3, 1) := by decide +kernel
theorem dL_does_144 : decode cL_does 144 = .ok (.invokevirtual 41, 3) := by decide +kernel
theorem dL_does_147 : decode cL_does 147 = .ok (.goto 44, 3) := by decide +kernel
theorem dL_does_150 : decode cL_does 150 = .ok (.iload_n 1, 1) := by decide +kernel
theorem dL_does_151 : decode cL_does 151 = .ok (.bipush 10, 2) := by decide +kernel
theorem dL_does_153 : decode cL_does 153 = .ok (.if_icmp .ne 22, 3) := by decide +kernel
theorem dL_does_156 : decode cL_does 156 = .ok (.aload_n 0, 1) := by decide +kernel
theorem dL_does_157 : decode cL_does 157 = .ok (.iload_n 2, 1) := by decide +kernel
theorem dL_does_158 : decode cL_does 158 = .ok (.iload_n 3, 1) := by decide +kernel
theorem dL_does_159 : decode cL_does 159 = .ok (.iload 4, 2) := by decide +kernel
theorem dL_does_161 : decode cL_does 161 = .ok (.invokevirtual 44, 3) := by decide +kernel
theorem dL_does_164 : decode cL_does 164 = .ok (.ifCond .eq 7, 3) := by decide +kernel
theorem dL_does_167 : decode cL_does 167 = .ok (.iconst 1, 1) := by decide +kernel
theorem dL_does_168 : decode cL_does 168 = .ok (.goto 23, 3) := by decide +kernel
theorem dL_does_171 : decode cL_does 171 = .ok (.iconst 0, 1) := by decide +kernel
theorem dL_does_172 : decode cL_does 172 = .ok (.goto 19, 3) := by decide +kernel
theorem dL_does_175 : decode cL_does 175 = .ok (.aload_n 0, 1) := by decide +kernel
theorem dL_does_176 : decode cL_does 176 = .ok (.iload_n 2, 1) := by decide +kernel
theorem dL_does_177 : decode cL_does 177 = .ok (.iload_n 3, 1) := by decide +kernel
theorem dL_does_178 : decode cL_does 178 = .ok (.iload 4, 2) := by decide +kernel
theorem dL_does_180 : decode cL_does 180 = .ok (.invokevirtual 48, 3) := by decide +kernel
theorem dL_does_183 : decode cL_does 183 = .ok (.ifCond .eq 7, 3) := by decide +kernel
theorem dL_does_186 : decode cL_does 186 = .ok (.iconst 1, 1) := by decide +kernel
theorem dL_does_187 : decode cL_does 187 = .ok (.goto 4, 3) := by decide +kernel
theorem dL_does_190 : decode cL_does 190 = .ok (.iconst 0, 1) := by decide +kernel
theorem dL_does_191 : decode cL_does 191 = .ok (.ireturn, 1) := by decide +kernel
theorem dL_does_192 : decode cL_does 192 = .ok (.astore 7, 2) := by decide +kernel
theorem dL_does_194 : decode cL_does 194 = .ok (.sipush (-300), 3) := by decide +kernel
theorem dL_does_197 : decode cL_does 197 = .ok (.ireturn, 1) := by decide +kernel
theorem dL_does_198 : decode cL_does 198 = .ok (.astore 7, 2) := by decide +kernel
theorem dL_does_200 : decode cL_does 200 = .ok (.sipush (-200), 3) := by decide +kernel
theorem dL_does_203 : decode cL_does 203 = .ok (.ireturn, 1) := by decide +kernel
theorem dL_does_204 : decode cL_does 204 = .ok (.astore 7, 2) := by decide +kernel
theorem dL_does_206 : decode cL_does 206 = .ok (.bipush (-100), 2) := by decide +kernel
theorem dL_does_208 : decode cL_does 208 = .ok (.ireturn, 1) := by decide +kernel
theorem dL_asks_0 : decode cL_asks 0 = .ok (.iload_n 1, 1) := by decide +kernel
theorem dL_asks_1 : decode cL_asks 1 = .ok (.ifCond .ne 11, 3) := by decide +kernel
theorem dL_asks_4 : decode cL_asks 4 = .ok (.aload_n 0, 1) := by decide +kernel
theorem dL_asks_5 : decode cL_asks 5 = .ok (.iload_n 2, 1) := by decide +kernel
theorem dL_asks_6 : decode cL_asks 6 = .ok (.invokevirtual 57, 3) := by decide +kernel
theorem dL_asks_9 : decode cL_asks 9 = .ok (.goto 119, 3) := by decide +kernel
theorem dL_asks_12 : decode cL_asks 12 = .ok (.iload_n 1, 1) := by decide +kernel
theorem dL_asks_13 : decode cL_asks 13 = .ok (.iconst 1, 1) := by decide +kernel
theorem dL_asks_14 : decode cL_asks 14 = .ok (.if_icmp .ne 11, 3) := by decide +kernel
theorem dL_asks_17 : decode cL_asks 17 = .ok (.aload_n 0, 1) := by decide +kernel
theorem dL_asks_18 : decode cL_asks 18 = .ok (.iload_n 2, 1) := by decide +kernel
theorem dL_asks_19 : decode cL_asks 19 = .ok (.invokevirtual 60, 3) := by decide +kernel
theorem dL_asks_22 : decode cL_asks 22 = .ok (.goto 106, 3) := by decide +kernel
theorem dL_asks_25 : decode cL_asks 25 = .ok (.iload_n 1, 1) := by decide +kernel
theorem dL_asks_26 : decode cL_asks 26 = .ok (.iconst 2, 1) := by decide +kernel
theorem dL_asks_27 : decode cL_asks 27 = .ok (.if_icmp .ne 11, 3) := by decide +kernel
theorem dL_asks_30 : decode cL_asks 30 = .ok (.aload_n 0, 1) := by decide +kernel
theorem dL_asks_31 : decode cL_asks 31 = .ok (.iload_n 2, 1) := by decide +kernel
theorem dL_asks_32 : decode cL_asks 32 = .ok (.invokevirtual 63, 3) := by decide +kernel
theorem dL_asks_35 : decode cL_asks 35 = .ok (.goto 93, 3) := by decide +kernel
theorem dL_asks_38 : decode cL_asks 38 = .ok (.iload_n 1, 1) := by decide +kernel
theorem dL_asks_39 : decode cL_asks 39 = .ok (.iconst 3, 1) := by decide +kernel
theorem dL_asks_40 : decode cL_asks 40 = .ok (.if_icmp .ne 12, 3) := by decide +kernel
theorem dL_asks_43 : decode cL_asks 43 = .ok (.aload_n 0, 1) := by decide +kernel
theorem dL_asks_44 : decode cL_asks 44 = .ok (.iload_n 2, 1) := by decide +kernel
theorem dL_asks_45 : decode cL_asks 45 = .ok (.iload_n 3, 1) := by decide +kernel
theorem dL_asks_46 : decode cL_asks 46 = .ok (.invokevirtual 66, 3) := by decide +kernel
theorem dL_asks_49 : decode cL_asks 49 = .ok (.goto 79, 3) := by decide +kernel
theorem dL_asks_52 : decode cL_asks 52 = .ok (.iload_n 1, 1) := by decide +kernel
theorem dL_asks_53 : decode cL_asks 53 = .ok (.iconst 4, 1) := by decide +kernel
theorem dL_asks_54 : decode cL_asks 54 = .ok (.if_icmp .ne 12, 3) := by decide +kernel
theorem dL_asks_57 : decode cL_asks 57 = .ok (.aload_n 0, 1) := by decide +kernel
theorem dL_asks_58 : decode cL_asks 58 = .ok (.iload_n 2, 1) := by decide +kernel
theorem dL_asks_59 : decode cL_asks 59 = .ok (.iload_n 3, 1) := by decide +kernel
theorem dL_asks_60 : decode cL_asks 60 = .ok (.invokevirtual 70, 3) := by decide +kernel
theorem dL_asks_63 : decode cL_asks 63 = .ok (.goto 65, 3) := by decide +kernel
theorem dL_asks_66 : decode cL_asks 66 = .ok (.iload_n 1, 1) := by decide +kernel
theorem dL_asks_67 : decode cL_asks 67 = .ok (.iconst 5, 1) := by decide +kernel
theorem dL_asks_68 : decode cL_asks 68 = .ok (.if_icmp .ne 11, 3) := by decide +kernel
theorem dL_asks_71 : decode cL_asks 71 = .ok (.aload_n 0, 1) := by decide +kernel
theorem dL_asks_72 : decode cL_asks 72 = .ok (.iload_n 2, 1) := by decide +kernel
theorem dL_asks_73 : decode cL_asks 73 = .ok (.invokevirtual 73, 3) := by decide +kernel
theorem dL_asks_76 : decode cL_asks 76 = .ok (.goto 52, 3) := by decide +kernel
theorem dL_asks_79 : decode cL_asks 79 = .ok (.iload_n 1, 1) := by decide +kernel
theorem dL_asks_80 : decode cL_asks 80 = .ok (.bipush 6, 2) := by decide +kernel
theorem dL_asks_82 : decode cL_asks 82 = .ok (.if_icmp .ne 12, 3) := by decide +kernel
theorem dL_asks_85 : decode cL_asks 85 = .ok (.aload_n 0, 1) := by decide +kernel
theorem dL_asks_86 : decode cL_asks 86 = .ok (.iload_n 2, 1) := by decide +kernel
theorem dL_asks_87 : decode cL_asks 87 = .ok (.iload_n 3, 1) := by decide +kernel
theorem dL_asks_88 : decode cL_asks 88 = .ok (.invokevirtual 76, 3) := by decide +kernel
theorem dL_asks_91 : decode cL_asks 91 = .ok (.goto 37, 3) := by decide +kernel
theorem dL_asks_94 : decode cL_asks 94 = .ok (.iload_n 1, 1) := by decide +kernel
theorem dL_asks_95 : decode cL_asks 95 = .ok (.bipush 7, 2) := by decide +kernel
theorem dL_asks_97 : decode cL_asks 97 = .ok (.if_icmp .ne 12, 3) := by decide +kernel
theorem dL_asks_100 : decode cL_asks 100 = .ok (.aload_n 0, 1) := by decide +kernel
theorem dL_asks_101 : decode cL_asks 101 = .ok (.iload_n 2, 1) := by decide +kernel
theorem dL_asks_102 : decode cL_asks 102 = .ok (.iload_n 3, 1) := by decide +kernel
theorem dL_asks_103 : decode cL_asks 103 = .ok (.invokevirtual 79, 3) := by decide +kernel
theorem dL_asks_106 : decode cL_asks 106 = .ok (.goto 22, 3) := by decide +kernel
theorem dL_asks_109 : decode cL_asks 109 = .ok (.iload_n 1, 1) := by decide +kernel
theorem dL_asks_110 : decode cL_asks 110 = .ok (.bipush 8, 2) := by decide +kernel
theorem dL_asks_112 : decode cL_asks 112 = .ok (.if_icmp .ne 11, 3) := by decide +kernel
theorem dL_asks_115 : decode cL_asks 115 = .ok (.aload_n 0, 1) := by decide +kernel
theorem dL_asks_116 : decode cL_asks 116 = .ok (.iload_n 2, 1) := by decide +kernel
theorem dL_asks_117 : decode cL_asks 117 = .ok (.invokevirtual 82, 3) := by decide +kernel
theorem dL_asks_120 : decode cL_asks 120 = .ok (.goto 8, 3) := by decide +kernel
theorem dL_asks_123 : decode cL_asks 123 = .ok (.aload_n 0, 1) := by decide +kernel
theorem dL_asks_124 : decode cL_asks 124 = .ok (.iload_n 2, 1) := by decide +kernel
theorem dL_asks_125 : decode cL_asks 125 = .ok (.invokevirtual 85, 3) := by decide +kernel
theorem dL_asks_128 : decode cL_asks 128 = .ok (.ireturn, 1) := by decide +kernel
theorem dL_asks_129 : decode cL_asks 129 = .ok (.astore 4, 2) := by decide +kernel
theorem dL_asks_131 : decode cL_asks 131 = .ok (.sipush (-3000), 3) := by decide +kernel
theorem dL_asks_134 : decode cL_asks 134 = .ok (.ireturn, 1) := by decide +kernel
theorem dL_around_0 : decode cL_around 0 = .ok (.ldc2_w 88, 3) := by decide +kernel
theorem dL_around_3 : decode cL_around 3 = .ok (.lstore_n 2, 1) := by decide +kernel
theorem dL_around_4 : decode cL_around 4 = .ok (.ldc2_w 90, 3) := by decide +kernel
theorem dL_around_7 : decode cL_around 7 = .ok (.lstore 4, 2) := by decide +kernel
theorem dL_around_9 : decode cL_around 9 = .ok (.lload_n 0, 1) := by decide +kernel
theorem dL_around_10 : decode cL_around 10 = .ok (.bipush 7, 2) := by decide +kernel
theorem dL_around_12 : decode cL_around 12 = .ok (.lshl, 1) := by decide +kernel
theorem dL_around_13 : decode cL_around 13 = .ok (.lload_n 0, 1) := by decide +kernel
theorem dL_around_14 : decode cL_around 14 = .ok (.bipush 7, 2) := by decide +kernel
theorem dL_around_16 : decode cL_around 16 = .ok (.lushr, 1) := by decide +kernel
theorem dL_around_17 : decode cL_around 17 = .ok (.lor, 1) := by decide +kernel
theorem dL_around_18 : decode cL_around 18 = .ok (.lload_n 0, 1) := by decide +kernel
theorem dL_around_19 : decode cL_around 19 = .ok (.lload_n 2, 1) := by decide +kernel
theorem dL_around_20 : decode cL_around 20 = .ok (.ldc2_w 92, 3) := by decide +kernel
theorem dL_around_23 : decode cL_around 23 = .ok (.lxor, 1) := by decide +kernel
theorem dL_around_24 : decode cL_around 24 = .ok (.land, 1) := by decide +kernel
theorem dL_around_25 : decode cL_around 25 = .ok (.iconst 1, 1) := by decide +kernel
theorem dL_around_26 : decode cL_around 26 = .ok (.lshl, 1) := by decide +kernel
theorem dL_around_27 : decode cL_around 27 = .ok (.lor, 1) := by decide +kernel
theorem dL_around_28 : decode cL_around 28 = .ok (.lload_n 0, 1) := by decide +kernel
theorem dL_around_29 : decode cL_around 29 = .ok (.lload 4, 2) := by decide +kernel
theorem dL_around_31 : decode cL_around 31 = .ok (.ldc2_w 92, 3) := by decide +kernel
theorem dL_around_34 : decode cL_around 34 = .ok (.lxor, 1) := by decide +kernel
theorem dL_around_35 : decode cL_around 35 = .ok (.land, 1) := by decide +kernel
theorem dL_around_36 : decode cL_around 36 = .ok (.iconst 1, 1) := by decide +kernel
theorem dL_around_37 : decode cL_around 37 = .ok (.lushr, 1) := by decide +kernel
theorem dL_around_38 : decode cL_around 38 = .ok (.lor, 1) := by decide +kernel
theorem dL_around_39 : decode cL_around 39 = .ok (.ldc2_w 94, 3) := by decide +kernel
theorem dL_around_42 : decode cL_around 42 = .ok (.land, 1) := by decide +kernel
theorem dL_around_43 : decode cL_around 43 = .ok (.lreturn, 1) := by decide +kernel
theorem dL_chain_0 : decode cL_chain 0 = .ok (.lload_n 0, 1) := by decide +kernel
theorem dL_chain_1 : decode cL_chain 1 = .ok (.lconst 1, 1) := by decide +kernel
theorem dL_chain_2 : decode cL_chain 2 = .ok (.iload_n 2, 1) := by decide +kernel
theorem dL_chain_3 : decode cL_chain 3 = .ok (.lshl, 1) := by decide +kernel
theorem dL_chain_4 : decode cL_chain 4 = .ok (.land, 1) := by decide +kernel
theorem dL_chain_5 : decode cL_chain 5 = .ok (.lstore_n 3, 1) := by decide +kernel
theorem dL_chain_6 : decode cL_chain 6 = .ok (.iconst 0, 1) := by decide +kernel
theorem dL_chain_7 : decode cL_chain 7 = .ok (.istore 5, 2) := by decide +kernel
theorem dL_chain_9 : decode cL_chain 9 = .ok (.iload 5, 2) := by decide +kernel
theorem dL_chain_11 : decode cL_chain 11 = .ok (.bipush 49, 2) := by decide +kernel
theorem dL_chain_13 : decode cL_chain 13 = .ok (.if_icmp .ge 18, 3) := by decide +kernel
theorem dL_chain_16 : decode cL_chain 16 = .ok (.lload_n 3, 1) := by decide +kernel
theorem dL_chain_17 : decode cL_chain 17 = .ok (.lload_n 3, 1) := by decide +kernel
theorem dL_chain_18 : decode cL_chain 18 = .ok (.invokestatic 96, 3) := by decide +kernel
theorem dL_chain_21 : decode cL_chain 21 = .ok (.lload_n 0, 1) := by decide +kernel
theorem dL_chain_22 : decode cL_chain 22 = .ok (.land, 1) := by decide +kernel
theorem dL_chain_23 : decode cL_chain 23 = .ok (.lor, 1) := by decide +kernel
theorem dL_chain_24 : decode cL_chain 24 = .ok (.lstore_n 3, 1) := by decide +kernel
theorem dL_chain_25 : decode cL_chain 25 = .ok (.iinc 5 1, 3) := by decide +kernel
theorem dL_chain_28 : decode cL_chain 28 = .ok (.goto (-19), 3) := by decide +kernel
theorem dL_chain_31 : decode cL_chain 31 = .ok (.lload_n 3, 1) := by decide +kernel
theorem dL_chain_32 : decode cL_chain 32 = .ok (.lreturn, 1) := by decide +kernel
theorem dL_bits_0 : decode cL_bits 0 = .ok (.iconst 0, 1) := by decide +kernel
theorem dL_bits_1 : decode cL_bits 1 = .ok (.istore_n 2, 1) := by decide +kernel
theorem dL_bits_2 : decode cL_bits 2 = .ok (.iconst 0, 1) := by decide +kernel
theorem dL_bits_3 : decode cL_bits 3 = .ok (.istore_n 3, 1) := by decide +kernel
theorem dL_bits_4 : decode cL_bits 4 = .ok (.iload_n 3, 1) := by decide +kernel
theorem dL_bits_5 : decode cL_bits 5 = .ok (.bipush 49, 2) := by decide +kernel
theorem dL_bits_7 : decode cL_bits 7 = .ok (.if_icmp .ge 27, 3) := by decide +kernel
theorem dL_bits_10 : decode cL_bits 10 = .ok (.iload_n 2, 1) := by decide +kernel
theorem dL_bits_11 : decode cL_bits 11 = .ok (.lload_n 0, 1) := by decide +kernel
theorem dL_bits_12 : decode cL_bits 12 = .ok (.iload_n 3, 1) := by decide +kernel
theorem dL_bits_13 : decode cL_bits 13 = .ok (.lshr, 1) := by decide +kernel
theorem dL_bits_14 : decode cL_bits 14 = .ok (.lconst 1, 1) := by decide +kernel
theorem dL_bits_15 : decode cL_bits 15 = .ok (.land, 1) := by decide +kernel
theorem dL_bits_16 : decode cL_bits 16 = .ok (.lconst 1, 1) := by decide +kernel
theorem dL_bits_17 : decode cL_bits 17 = .ok (.lcmp, 1) := by decide +kernel
theorem dL_bits_18 : decode cL_bits 18 = .ok (.ifCond .ne 7, 3) := by decide +kernel
theorem dL_bits_21 : decode cL_bits 21 = .ok (.iconst 1, 1) := by decide +kernel
theorem dL_bits_22 : decode cL_bits 22 = .ok (.goto 4, 3) := by decide +kernel
theorem dL_bits_25 : decode cL_bits 25 = .ok (.iconst 0, 1) := by decide +kernel
theorem dL_bits_26 : decode cL_bits 26 = .ok (.iadd, 1) := by decide +kernel
theorem dL_bits_27 : decode cL_bits 27 = .ok (.istore_n 2, 1) := by decide +kernel
theorem dL_bits_28 : decode cL_bits 28 = .ok (.iinc 3 1, 3) := by decide +kernel
theorem dL_bits_31 : decode cL_bits 31 = .ok (.goto (-27), 3) := by decide +kernel
theorem dL_bits_34 : decode cL_bits 34 = .ok (.iload_n 2, 1) := by decide +kernel
theorem dL_bits_35 : decode cL_bits 35 = .ok (.ireturn, 1) := by decide +kernel
