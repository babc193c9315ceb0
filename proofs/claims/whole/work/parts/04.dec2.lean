theorem dX4_init_5 : decode cX4_init 5 = .ok (.new 9, 3) := by decide +kernel
theorem dX4_init_8 : decode cX4_init 8 = .ok (.dup, 1) := by decide +kernel
theorem dX4_init_9 : decode cX4_init 9 = .ok (.invokespecial 11, 3) := by decide +kernel
theorem dX4_init_12 : decode cX4_init 12 = .ok (.putfield 12, 3) := by decide +kernel
theorem dX4_init_15 : decode cX4_init 15 = .ok (.aload_n 0, 1) := by decide +kernel
theorem dX4_init_16 : decode cX4_init 16 = .ok (.new 18, 3) := by decide +kernel
theorem dX4_init_19 : decode cX4_init 19 = .ok (.dup, 1) := by decide +kernel
theorem dX4_init_20 : decode cX4_init 20 = .ok (.invokespecial 20, 3) := by decide +kernel
theorem dX4_init_23 : decode cX4_init 23 = .ok (.putfield 21, 3) := by decide +kernel
theorem dX4_init_26 : decode cX4_init 26 = .ok (.aload_n 0, 1) := by decide +kernel
theorem dX4_init_27 : decode cX4_init 27 = .ok (.new 18, 3) := by decide +kernel
theorem dX4_init_30 : decode cX4_init 30 = .ok (.dup, 1) := by decide +kernel
theorem dX4_init_31 : decode cX4_init 31 = .ok (.invokespecial 20, 3) := by decide +kernel
theorem dX4_init_34 : decode cX4_init 34 = .ok (.putfield 25, 3) := by decide +kernel
theorem dX4_init_37 : decode cX4_init 37 = .ok (.aload_n 0, 1) := by decide +kernel
theorem dX4_init_38 : decode cX4_init 38 = .ok (.new 18, 3) := by decide +kernel
theorem dX4_init_41 : decode cX4_init 41 = .ok (.dup, 1) := by decide +kernel
theorem dX4_init_42 : decode cX4_init 42 = .ok (.invokespecial 20, 3) := by decide +kernel
theorem dX4_init_45 : decode cX4_init 45 = .ok (.putfield 28, 3) := by decide +kernel
theorem dX4_init_48 : decode cX4_init 48 = .ok (.aload_n 0, 1) := by decide +kernel
theorem dX4_init_49 : decode cX4_init 49 = .ok (.new 18, 3) := by decide +kernel
theorem dX4_init_52 : decode cX4_init 52 = .ok (.dup, 1) := by decide +kernel
theorem dX4_init_53 : decode cX4_init 53 = .ok (.invokespecial 20, 3) := by decide +kernel
theorem dX4_init_56 : decode cX4_init 56 = .ok (.putfield 31, 3) := by decide +kernel
theorem dX4_init_59 : decode cX4_init 59 = .ok (.aload_n 0, 1) := by decide +kernel
theorem dX4_init_60 : decode cX4_init 60 = .ok (.iconst 0, 1) := by decide +kernel
theorem dX4_init_61 : decode cX4_init 61 = .ok (.putfield 34, 3) := by decide +kernel
theorem dX4_init_64 : decode cX4_init 64 = .ok (.aload_n 0, 1) := by decide +kernel
theorem dX4_init_65 : decode cX4_init 65 = .ok (.new 18, 3) := by decide +kernel
theorem dX4_init_68 : decode cX4_init 68 = .ok (.dup, 1) := by decide +kernel
theorem dX4_init_69 : decode cX4_init 69 = .ok (.invokespecial 20, 3) := by decide +kernel
theorem dX4_init_72 : decode cX4_init 72 = .ok (.putfield 38, 3) := by decide +kernel
theorem dX4_init_75 : decode cX4_init 75 = .ok (.aload_n 0, 1) := by decide +kernel
theorem dX4_init_76 : decode cX4_init 76 = .ok (.aload_n 1, 1) := by decide +kernel
theorem dX4_init_77 : decode cX4_init 77 = .ok (.putfield 41, 3) := by decide +kernel
theorem dX4_init_80 : decode cX4_init 80 = .ok (.return_, 1) := by decide +kernel
theorem dX4_tellOf_0 : decode cX4_tellOf 0 = .ok (.aload_n 0, 1) := by decide +kernel
theorem dX4_tellOf_1 : decode cX4_tellOf 1 = .ok (.aload_n 1, 1) := by decide +kernel
theorem dX4_tellOf_2 : decode cX4_tellOf 2 = .ok (.putfield 41, 3) := by decide +kernel
theorem dX4_tellOf_5 : decode cX4_tellOf 5 = .ok (.aload_n 0, 1) := by decide +kernel
theorem dX4_tellOf_6 : decode cX4_tellOf 6 = .ok (.getfield 12, 3) := by decide +kernel
theorem dX4_tellOf_9 : decode cX4_tellOf 9 = .ok (.aload_n 1, 1) := by decide +kernel
theorem dX4_tellOf_10 : decode cX4_tellOf 10 = .ok (.iconst 0, 1) := by decide +kernel
theorem dX4_tellOf_11 : decode cX4_tellOf 11 = .ok (.invokevirtual 45, 3) := by decide +kernel
theorem dX4_tellOf_14 : decode cX4_tellOf 14 = .ok (.invokevirtual 51, 3) := by decide +kernel
theorem dX4_tellOf_17 : decode cX4_tellOf 17 = .ok (.aload_n 0, 1) := by decide +kernel
theorem dX4_tellOf_18 : decode cX4_tellOf 18 = .ok (.getfield 25, 3) := by decide +kernel
theorem dX4_tellOf_21 : decode cX4_tellOf 21 = .ok (.invokevirtual 55, 3) := by decide +kernel
theorem dX4_tellOf_24 : decode cX4_tellOf 24 = .ok (.aload_n 0, 1) := by decide +kernel
theorem dX4_tellOf_25 : decode cX4_tellOf 25 = .ok (.getfield 28, 3) := by decide +kernel
theorem dX4_tellOf_28 : decode cX4_tellOf 28 = .ok (.invokevirtual 55, 3) := by decide +kernel
theorem dX4_tellOf_31 : decode cX4_tellOf 31 = .ok (.aload_n 0, 1) := by decide +kernel
theorem dX4_tellOf_32 : decode cX4_tellOf 32 = .ok (.getfield 12, 3) := by decide +kernel
theorem dX4_tellOf_35 : decode cX4_tellOf 35 = .ok (.invokevirtual 58, 3) := by decide +kernel
theorem dX4_tellOf_38 : decode cX4_tellOf 38 = .ok (.ifCond .le 34, 3) := by decide +kernel
theorem dX4_tellOf_41 : decode cX4_tellOf 41 = .ok (.aload_n 0, 1) := by decide +kernel
theorem dX4_tellOf_42 : decode cX4_tellOf 42 = .ok (.getfield 12, 3) := by decide +kernel
theorem dX4_tellOf_45 : decode cX4_tellOf 45 = .ok (.iconst 0, 1) := by decide +kernel
theorem dX4_tellOf_46 : decode cX4_tellOf 46 = .ok (.aload_n 0, 1) := by decide +kernel
theorem dX4_tellOf_47 : decode cX4_tellOf 47 = .ok (.getfield 25, 3) := by decide +kernel
theorem dX4_tellOf_50 : decode cX4_tellOf 50 = .ok (.invokevirtual 62, 3) := by decide +kernel
theorem dX4_tellOf_53 : decode cX4_tellOf 53 = .ok (.aload_n 0, 1) := by decide +kernel
theorem dX4_tellOf_54 : decode cX4_tellOf 54 = .ok (.getfield 25, 3) := by decide +kernel
theorem dX4_tellOf_57 : decode cX4_tellOf 57 = .ok (.invokevirtual 66, 3) := by decide +kernel
theorem dX4_tellOf_60 : decode cX4_tellOf 60 = .ok (.aload_n 0, 1) := by decide +kernel
theorem dX4_tellOf_61 : decode cX4_tellOf 61 = .ok (.getfield 12, 3) := by decide +kernel
theorem dX4_tellOf_64 : decode cX4_tellOf 64 = .ok (.iconst 0, 1) := by decide +kernel
theorem dX4_tellOf_65 : decode cX4_tellOf 65 = .ok (.aload_n 0, 1) := by decide +kernel
theorem dX4_tellOf_66 : decode cX4_tellOf 66 = .ok (.getfield 28, 3) := by decide +kernel
theorem dX4_tellOf_69 : decode cX4_tellOf 69 = .ok (.invokevirtual 69, 3) := by decide +kernel
theorem dX4_tellOf_72 : decode cX4_tellOf 72 = .ok (.return_, 1) := by decide +kernel
theorem dX4_setOrder_0 : decode cX4_setOrder 0 = .ok (.aload_n 0, 1) := by decide +kernel
theorem dX4_setOrder_1 : decode cX4_setOrder 1 = .ok (.getfield 21, 3) := by decide +kernel
theorem dX4_setOrder_4 : decode cX4_setOrder 4 = .ok (.invokevirtual 55, 3) := by decide +kernel
theorem dX4_setOrder_7 : decode cX4_setOrder 7 = .ok (.iload_n 1, 1) := by decide +kernel
theorem dX4_setOrder_8 : decode cX4_setOrder 8 = .ok (.iconst 2, 1) := by decide +kernel
theorem dX4_setOrder_9 : decode cX4_setOrder 9 = .ok (.if_icmp .ne 21, 3) := by decide +kernel
theorem dX4_setOrder_12 : decode cX4_setOrder 12 = .ok (.aload_n 0, 1) := by decide +kernel
theorem dX4_setOrder_13 : decode cX4_setOrder 13 = .ok (.invokevirtual 72, 3) := by decide +kernel
theorem dX4_setOrder_16 : decode cX4_setOrder 16 = .ok (.aload_n 0, 1) := by decide +kernel
theorem dX4_setOrder_17 : decode cX4_setOrder 17 = .ok (.getfield 12, 3) := by decide +kernel
theorem dX4_setOrder_20 : decode cX4_setOrder 20 = .ok (.aload_n 0, 1) := by decide +kernel
theorem dX4_setOrder_21 : decode cX4_setOrder 21 = .ok (.getfield 21, 3) := by decide +kernel
theorem dX4_setOrder_24 : decode cX4_setOrder 24 = .ok (.invokevirtual 75, 3) := by decide +kernel
theorem dX4_setOrder_27 : decode cX4_setOrder 27 = .ok (.goto 18, 3) := by decide +kernel
theorem dX4_setOrder_30 : decode cX4_setOrder 30 = .ok (.aload_n 0, 1) := by decide +kernel
theorem dX4_setOrder_31 : decode cX4_setOrder 31 = .ok (.getfield 12, 3) := by decide +kernel
theorem dX4_setOrder_34 : decode cX4_setOrder 34 = .ok (.aload_n 0, 1) := by decide +kernel
theorem dX4_setOrder_35 : decode cX4_setOrder 35 = .ok (.getfield 21, 3) := by decide +kernel
theorem dX4_setOrder_38 : decode cX4_setOrder 38 = .ok (.invokevirtual 75, 3) := by decide +kernel
theorem dX4_setOrder_41 : decode cX4_setOrder 41 = .ok (.aload_n 0, 1) := by decide +kernel
theorem dX4_setOrder_42 : decode cX4_setOrder 42 = .ok (.invokevirtual 72, 3) := by decide +kernel
theorem dX4_setOrder_45 : decode cX4_setOrder 45 = .ok (.aload_n 0, 1) := by decide +kernel
theorem dX4_setOrder_46 : decode cX4_setOrder 46 = .ok (.getfield 21, 3) := by decide +kernel
theorem dX4_setOrder_49 : decode cX4_setOrder 49 = .ok (.aload_n 0, 1) := by decide +kernel
theorem dX4_setOrder_50 : decode cX4_setOrder 50 = .ok (.getfield 41, 3) := by decide +kernel
theorem dX4_setOrder_53 : decode cX4_setOrder 53 = .ok (.iconst 1, 1) := by decide +kernel
theorem dX4_setOrder_54 : decode cX4_setOrder 54 = .ok (.invokevirtual 45, 3) := by decide +kernel
theorem dX4_setOrder_57 : decode cX4_setOrder 57 = .ok (.invokevirtual 78, 3) := by decide +kernel
theorem dX4_setOrder_60 : decode cX4_setOrder 60 = .ok (.aload_n 0, 1) := by decide +kernel
theorem dX4_setOrder_61 : decode cX4_setOrder 61 = .ok (.getfield 21, 3) := by decide +kernel
theorem dX4_setOrder_64 : decode cX4_setOrder 64 = .ok (.invokevirtual 66, 3) := by decide +kernel
theorem dX4_setOrder_67 : decode cX4_setOrder 67 = .ok (.return_, 1) := by decide +kernel
theorem dX4_addYearOrder_0 : decode cX4_addYearOrder 0 = .ok (.aload_n 0, 1) := by decide +kernel
theorem dX4_addYearOrder_1 : decode cX4_addYearOrder 1 = .ok (.getfield 21, 3) := by decide +kernel
theorem dX4_addYearOrder_4 : decode cX4_addYearOrder 4 = .ok (.aload_n 0, 1) := by decide +kernel
theorem dX4_addYearOrder_5 : decode cX4_addYearOrder 5 = .ok (.getfield 41, 3) := by decide +kernel
theorem dX4_addYearOrder_8 : decode cX4_addYearOrder 8 = .ok (.iconst 2, 1) := by decide +kernel
theorem dX4_addYearOrder_9 : decode cX4_addYearOrder 9 = .ok (.invokevirtual 45, 3) := by decide +kernel
theorem dX4_addYearOrder_12 : decode cX4_addYearOrder 12 = .ok (.invokevirtual 78, 3) := by decide +kernel
theorem dX4_addYearOrder_15 : decode cX4_addYearOrder 15 = .ok (.aload_n 0, 1) := by decide +kernel
theorem dX4_addYearOrder_16 : decode cX4_addYearOrder 16 = .ok (.getfield 21, 3) := by decide +kernel
theorem dX4_addYearOrder_19 : decode cX4_addYearOrder 19 = .ok (.iconst 0, 1) := by decide +kernel
theorem dX4_addYearOrder_20 : decode cX4_addYearOrder 20 = .ok (.invokevirtual 81, 3) := by decide +kernel
theorem dX4_addYearOrder_23 : decode cX4_addYearOrder 23 = .ok (.return_, 1) := by decide +kernel
theorem dX4_isMistakenFor_0 : decode cX4_isMistakenFor 0 = .ok (.aload_n 0, 1) := by decide +kernel
theorem dX4_isMistakenFor_1 : decode cX4_isMistakenFor 1 = .ok (.getfield 12, 3) := by decide +kernel
theorem dX4_isMistakenFor_4 : decode cX4_isMistakenFor 4 = .ok (.invokevirtual 58, 3) := by decide +kernel
theorem dX4_isMistakenFor_7 : decode cX4_isMistakenFor 7 = .ok (.ifCond .le 45, 3) := by decide +kernel
theorem dX4_isMistakenFor_10 : decode cX4_isMistakenFor 10 = .ok (.aload_n 1, 1) := by decide +kernel
theorem dX4_isMistakenFor_11 : decode cX4_isMistakenFor 11 = .ok (.getfield 12, 3) := by decide +kernel
theorem dX4_isMistakenFor_14 : decode cX4_isMistakenFor 14 = .ok (.invokevirtual 58, 3) := by decide +kernel
theorem dX4_isMistakenFor_17 : decode cX4_isMistakenFor 17 = .ok (.ifCond .le 35, 3) := by decide +kernel
theorem dX4_isMistakenFor_20 : decode cX4_isMistakenFor 20 = .ok (.aload_n 0, 1) := by decide +kernel
theorem dX4_isMistakenFor_21 : decode cX4_isMistakenFor 21 = .ok (.getfield 28, 3) := by decide +kernel
theorem dX4_isMistakenFor_24 : decode cX4_isMistakenFor 24 = .ok (.aload_n 1, 1) := by decide +kernel
theorem dX4_isMistakenFor_25 : decode cX4_isMistakenFor 25 = .ok (.getfield 28, 3) := by decide +kernel
theorem dX4_isMistakenFor_28 : decode cX4_isMistakenFor 28 = .ok (.invokevirtual 85, 3) := by decide +kernel
theorem dX4_isMistakenFor_31 : decode cX4_isMistakenFor 31 = .ok (.ifCond .ne 21, 3) := by decide +kernel
theorem dX4_isMistakenFor_34 : decode cX4_isMistakenFor 34 = .ok (.aload_n 0, 1) := by decide +kernel
theorem dX4_isMistakenFor_35 : decode cX4_isMistakenFor 35 = .ok (.getfield 25, 3) := by decide +kernel
theorem dX4_isMistakenFor_38 : decode cX4_isMistakenFor 38 = .ok (.aload_n 1, 1) := by decide +kernel
theorem dX4_isMistakenFor_39 : decode cX4_isMistakenFor 39 = .ok (.getfield 25, 3) := by decide +kernel
theorem dX4_isMistakenFor_42 : decode cX4_isMistakenFor 42 = .ok (.invokevirtual 85, 3) := by decide +kernel
theorem dX4_isMistakenFor_45 : decode cX4_isMistakenFor 45 = .ok (.ifCond .eq 7, 3) := by decide +kernel
theorem dX4_isMistakenFor_48 : decode cX4_isMistakenFor 48 = .ok (.iconst 1, 1) := by decide +kernel
theorem dX4_isMistakenFor_49 : decode cX4_isMistakenFor 49 = .ok (.goto 4, 3) := by decide +kernel
theorem dX4_isMistakenFor_52 : decode cX4_isMistakenFor 52 = .ok (.iconst 0, 1) := by decide +kernel
theorem dX4_isMistakenFor_53 : decode cX4_isMistakenFor 53 = .ok (.ireturn, 1) := by decide +kernel
theorem dX4_setBase_0 : decode cX4_setBase 0 = .ok (.aload_n 0, 1) := by decide +kernel
theorem dX4_setBase_1 : decode cX4_setBase 1 = .ok (.getfield 31, 3) := by decide +kernel
theorem dX4_setBase_4 : decode cX4_setBase 4 = .ok (.invokevirtual 55, 3) := by decide +kernel
theorem dX4_setBase_7 : decode cX4_setBase 7 = .ok (.iload_n 1, 1) := by decide +kernel
theorem dX4_setBase_8 : decode cX4_setBase 8 = .ok (.iconst 1, 1) := by decide +kernel
theorem dX4_setBase_9 : decode cX4_setBase 9 = .ok (.if_icmp .ne 10, 3) := by decide +kernel
theorem dX4_setBase_12 : decode cX4_setBase 12 = .ok (.aload_n 0, 1) := by decide +kernel
theorem dX4_setBase_13 : decode cX4_setBase 13 = .ok (.invokevirtual 89, 3) := by decide +kernel
theorem dX4_setBase_16 : decode cX4_setBase 16 = .ok (.goto 13, 3) := by decide +kernel
theorem dX4_setBase_19 : decode cX4_setBase 19 = .ok (.iload_n 1, 1) := by decide +kernel
theorem dX4_setBase_20 : decode cX4_setBase 20 = .ok (.iconst 2, 1) := by decide +kernel
theorem dX4_setBase_21 : decode cX4_setBase 21 = .ok (.if_icmp .ne 8, 3) := by decide +kernel
theorem dX4_setBase_24 : decode cX4_setBase 24 = .ok (.aload_n 0, 1) := by decide +kernel
theorem dX4_setBase_25 : decode cX4_setBase 25 = .ok (.iload_n 2, 1) := by decide +kernel
theorem dX4_setBase_26 : decode cX4_setBase 26 = .ok (.invokevirtual 92, 3) := by decide +kernel
theorem dX4_setBase_29 : decode cX4_setBase 29 = .ok (.return_, 1) := by decide +kernel
theorem dX4_addShortBase_0 : decode cX4_addShortBase 0 = .ok (.aload_n 0, 1) := by decide +kernel
theorem dX4_addShortBase_1 : decode cX4_addShortBase 1 = .ok (.getfield 12, 3) := by decide +kernel
theorem dX4_addShortBase_4 : decode cX4_addShortBase 4 = .ok (.invokevirtual 58, 3) := by decide +kernel
theorem dX4_addShortBase_7 : decode cX4_addShortBase 7 = .ok (.ifCond .ne 22, 3) := by decide +kernel
theorem dX4_addShortBase_10 : decode cX4_addShortBase 10 = .ok (.aload_n 0, 1) := by decide +kernel
theorem dX4_addShortBase_11 : decode cX4_addShortBase 11 = .ok (.getfield 31, 3) := by decide +kernel
theorem dX4_addShortBase_14 : decode cX4_addShortBase 14 = .ok (.aload_n 0, 1) := by decide +kernel
theorem dX4_addShortBase_15 : decode cX4_addShortBase 15 = .ok (.getfield 41, 3) := by decide +kernel
theorem dX4_addShortBase_18 : decode cX4_addShortBase 18 = .ok (.getfield 96, 3) := by decide +kernel
theorem dX4_addShortBase_21 : decode cX4_addShortBase 21 = .ok (.iconst 0, 1) := by decide +kernel
theorem dX4_addShortBase_22 : decode cX4_addShortBase 22 = .ok (.iconst 3, 1) := by decide +kernel
theorem dX4_addShortBase_23 : decode cX4_addShortBase 23 = .ok (.invokevirtual 99, 3) := by decide +kernel
theorem dX4_addShortBase_26 : decode cX4_addShortBase 26 = .ok (.goto 48, 3) := by decide +kernel
theorem dX4_addShortBase_29 : decode cX4_addShortBase 29 = .ok (.aload_n 0, 1) := by decide +kernel
theorem dX4_addShortBase_30 : decode cX4_addShortBase 30 = .ok (.getfield 12, 3) := by decide +kernel
theorem dX4_addShortBase_33 : decode cX4_addShortBase 33 = .ok (.invokevirtual 58, 3) := by decide +kernel
theorem dX4_addShortBase_36 : decode cX4_addShortBase 36 = .ok (.iconst 1, 1) := by decide +kernel
theorem dX4_addShortBase_37 : decode cX4_addShortBase 37 = .ok (.if_icmp .ne 26, 3) := by decide +kernel
theorem dX4_addShortBase_40 : decode cX4_addShortBase 40 = .ok (.aload_n 0, 1) := by decide +kernel
theorem dX4_addShortBase_41 : decode cX4_addShortBase 41 = .ok (.getfield 12, 3) := by decide +kernel
theorem dX4_addShortBase_44 : decode cX4_addShortBase 44 = .ok (.iconst 0, 1) := by decide +kernel
theorem dX4_addShortBase_45 : decode cX4_addShortBase 45 = .ok (.aload_n 0, 1) := by decide +kernel
theorem dX4_addShortBase_46 : decode cX4_addShortBase 46 = .ok (.getfield 31, 3) := by decide +kernel
theorem dX4_addShortBase_49 : decode cX4_addShortBase 49 = .ok (.invokevirtual 62, 3) := by decide +kernel
theorem dX4_addShortBase_52 : decode cX4_addShortBase 52 = .ok (.aload_n 0, 1) := by decide +kernel
theorem dX4_addShortBase_53 : decode cX4_addShortBase 53 = .ok (.getfield 31, 3) := by decide +kernel
theorem dX4_addShortBase_56 : decode cX4_addShortBase 56 = .ok (.iconst 3, 1) := by decide +kernel
theorem dX4_addShortBase_57 : decode cX4_addShortBase 57 = .ok (.invokevirtual 103, 3) := by decide +kernel
theorem dX4_addShortBase_60 : decode cX4_addShortBase 60 = .ok (.goto 14, 3) := by decide +kernel
theorem dX4_addShortBase_63 : decode cX4_addShortBase 63 = .ok (.aload_n 0, 1) := by decide +kernel
theorem dX4_addShortBase_64 : decode cX4_addShortBase 64 = .ok (.getfield 12, 3) := by decide +kernel
theorem dX4_addShortBase_67 : decode cX4_addShortBase 67 = .ok (.aload_n 0, 1) := by decide +kernel
theorem dX4_addShortBase_68 : decode cX4_addShortBase 68 = .ok (.getfield 31, 3) := by decide +kernel
theorem dX4_addShortBase_71 : decode cX4_addShortBase 71 = .ok (.invokevirtual 106, 3) := by decide +kernel
theorem dX4_addShortBase_74 : decode cX4_addShortBase 74 = .ok (.aload_n 0, 1) := by decide +kernel
theorem dX4_addShortBase_75 : decode cX4_addShortBase 75 = .ok (.getfield 41, 3) := by decide +kernel
theorem dX4_addShortBase_78 : decode cX4_addShortBase 78 = .ok (.iconst 2, 1) := by decide +kernel
theorem dX4_addShortBase_79 : decode cX4_addShortBase 79 = .ok (.invokevirtual 45, 3) := by decide +kernel
theorem dX4_addShortBase_82 : decode cX4_addShortBase 82 = .ok (.astore_n 1, 1) := by decide +kernel
theorem dX4_addShortBase_83 : decode cX4_addShortBase 83 = .ok (.aload_n 0, 1) := by decide +kernel
theorem dX4_addShortBase_84 : decode cX4_addShortBase 84 = .ok (.getfield 31, 3) := by decide +kernel
theorem dX4_addShortBase_87 : decode cX4_addShortBase 87 = .ok (.aload_n 1, 1) := by decide +kernel
theorem dX4_addShortBase_88 : decode cX4_addShortBase 88 = .ok (.aload_n 1, 1) := by decide +kernel
theorem dX4_addShortBase_89 : decode cX4_addShortBase 89 = .ok (.invokevirtual 109, 3) := by decide +kernel
theorem dX4_addShortBase_92 : decode cX4_addShortBase 92 = .ok (.iconst 2, 1) := by decide +kernel
theorem dX4_addShortBase_93 : decode cX4_addShortBase 93 = .ok (.isub, 1) := by decide +kernel
theorem dX4_addShortBase_94 : decode cX4_addShortBase 94 = .ok (.aload_n 1, 1) := by decide +kernel
theorem dX4_addShortBase_95 : decode cX4_addShortBase 95 = .ok (.invokevirtual 109, 3) := by decide +kernel
theorem dX4_addShortBase_98 : decode cX4_addShortBase 98 = .ok (.invokevirtual 99, 3) := by decide +kernel
theorem dX4_addShortBase_101 : decode cX4_addShortBase 101 = .ok (.return_, 1) := by decide +kernel
theorem dX4_addLongBase_0 : decode cX4_addLongBase 0 = .ok (.aload_n 0, 1) := by decide +kernel
theorem dX4_addLongBase_1 : decode cX4_addLongBase 1 = .ok (.getfield 12, 3) := by decide +kernel
theorem dX4_addLongBase_4 : decode cX4_addLongBase 4 = .ok (.invokevirtual 58, 3) := by decide +kernel
theorem dX4_addLongBase_7 : decode cX4_addLongBase 7 = .ok (.ifCond .ne 20, 3) := by decide +kernel
theorem dX4_addLongBase_10 : decode cX4_addLongBase 10 = .ok (.aload_n 0, 1) := by decide +kernel
theorem dX4_addLongBase_11 : decode cX4_addLongBase 11 = .ok (.getfield 31, 3) := by decide +kernel
theorem dX4_addLongBase_14 : decode cX4_addLongBase 14 = .ok (.aload_n 0, 1) := by decide +kernel
theorem dX4_addLongBase_15 : decode cX4_addLongBase 15 = .ok (.getfield 41, 3) := by decide +kernel
theorem dX4_addLongBase_18 : decode cX4_addLongBase 18 = .ok (.getfield 96, 3) := by decide +kernel
theorem dX4_addLongBase_21 : decode cX4_addLongBase 21 = .ok (.invokevirtual 78, 3) := by decide +kernel
theorem dX4_addLongBase_24 : decode cX4_addLongBase 24 = .ok (.goto 50, 3) := by decide +kernel
theorem dX4_addLongBase_27 : decode cX4_addLongBase 27 = .ok (.iload_n 1, 1) := by decide +kernel
theorem dX4_addLongBase_28 : decode cX4_addLongBase 28 = .ok (.ifCond .eq 34, 3) := by decide +kernel
theorem dX4_addLongBase_31 : decode cX4_addLongBase 31 = .ok (.aload_n 0, 1) := by decide +kernel
theorem dX4_addLongBase_32 : decode cX4_addLongBase 32 = .ok (.getfield 12, 3) := by decide +kernel
theorem dX4_addLongBase_35 : decode cX4_addLongBase 35 = .ok (.iconst 0, 1) := by decide +kernel
theorem dX4_addLongBase_36 : decode cX4_addLongBase 36 = .ok (.invokevirtual 110, 3) := by decide +kernel
theorem dX4_addLongBase_39 : decode cX4_addLongBase 39 = .ok (.ifCond .eq 23, 3) := by decide +kernel
theorem dX4_addLongBase_42 : decode cX4_addLongBase 42 = .ok (.aload_n 0, 1) := by decide +kernel
theorem dX4_addLongBase_43 : decode cX4_addLongBase 43 = .ok (.getfield 31, 3) := by decide +kernel
theorem dX4_addLongBase_46 : decode cX4_addLongBase 46 = .ok (.aload_n 0, 1) := by decide +kernel
theorem dX4_addLongBase_47 : decode cX4_addLongBase 47 = .ok (.getfield 28, 3) := by decide +kernel
theorem dX4_addLongBase_50 : decode cX4_addLongBase 50 = .ok (.invokevirtual 78, 3) := by decide +kernel
theorem dX4_addLongBase_53 : decode cX4_addLongBase 53 = .ok (.aload_n 0, 1) := by decide +kernel
theorem dX4_addLongBase_54 : decode cX4_addLongBase 54 = .ok (.getfield 31, 3) := by decide +kernel
theorem dX4_addLongBase_57 : decode cX4_addLongBase 57 = .ok (.bipush 32, 2) := by decide +kernel
theorem dX4_addLongBase_59 : decode cX4_addLongBase 59 = .ok (.invokevirtual 81, 3) := by decide +kernel
theorem dX4_addLongBase_62 : decode cX4_addLongBase 62 = .ok (.aload_n 0, 1) := by decide +kernel
theorem dX4_addLongBase_63 : decode cX4_addLongBase 63 = .ok (.getfield 12, 3) := by decide +kernel
theorem dX4_addLongBase_66 : decode cX4_addLongBase 66 = .ok (.iconst 0, 1) := by decide +kernel
theorem dX4_addLongBase_67 : decode cX4_addLongBase 67 = .ok (.aload_n 0, 1) := by decide +kernel
theorem dX4_addLongBase_68 : decode cX4_addLongBase 68 = .ok (.getfield 31, 3) := by decide +kernel
theorem dX4_addLongBase_71 : decode cX4_addLongBase 71 = .ok (.invokevirtual 114, 3) := by decide +kernel
theorem dX4_addLongBase_74 : decode cX4_addLongBase 74 = .ok (.aload_n 0, 1) := by decide +kernel
theorem dX4_addLongBase_75 : decode cX4_addLongBase 75 = .ok (.getfield 12, 3) := by decide +kernel
theorem dX4_addLongBase_78 : decode cX4_addLongBase 78 = .ok (.invokevirtual 58, 3) := by decide +kernel
theorem dX4_addLongBase_81 : decode cX4_addLongBase 81 = .ok (.iconst 2, 1) := by decide +kernel
theorem dX4_addLongBase_82 : decode cX4_addLongBase 82 = .ok (.if_icmp .ne 27, 3) := by decide +kernel
theorem dX4_addLongBase_85 : decode cX4_addLongBase 85 = .ok (.aload_n 0, 1) := by decide +kernel
theorem dX4_addLongBase_86 : decode cX4_addLongBase 86 = .ok (.getfield 31, 3) := by decide +kernel
theorem dX4_addLongBase_89 : decode cX4_addLongBase 89 = .ok (.ldc 117, 2) := by decide +kernel
theorem dX4_addLongBase_91 : decode cX4_addLongBase 91 = .ok (.invokevirtual 119, 3) := by decide +kernel
theorem dX4_addLongBase_94 : decode cX4_addLongBase 94 = .ok (.aload_n 0, 1) := by decide +kernel
theorem dX4_addLongBase_95 : decode cX4_addLongBase 95 = .ok (.getfield 12, 3) := by decide +kernel
theorem dX4_addLongBase_98 : decode cX4_addLongBase 98 = .ok (.iconst 1, 1) := by decide +kernel
theorem dX4_addLongBase_99 : decode cX4_addLongBase 99 = .ok (.aload_n 0, 1) := by decide +kernel
theorem dX4_addLongBase_100 : decode cX4_addLongBase 100 = .ok (.getfield 31, 3) := by decide +kernel
theorem dX4_addLongBase_103 : decode cX4_addLongBase 103 = .ok (.invokevirtual 114, 3) := by decide +kernel
theorem dX4_addLongBase_106 : decode cX4_addLongBase 106 = .ok (.goto 23, 3) := by decide +kernel
theorem dX4_addLongBase_109 : decode cX4_addLongBase 109 = .ok (.aload_n 0, 1) := by decide +kernel
theorem dX4_addLongBase_110 : decode cX4_addLongBase 110 = .ok (.getfield 12, 3) := by decide +kernel
theorem dX4_addLongBase_113 : decode cX4_addLongBase 113 = .ok (.invokevirtual 58, 3) := by decide +kernel
theorem dX4_addLongBase_116 : decode cX4_addLongBase 116 = .ok (.iconst 2, 1) := by decide +kernel
theorem dX4_addLongBase_117 : decode cX4_addLongBase 117 = .ok (.if_icmp .le 12, 3) := by decide +kernel
theorem dX4_addLongBase_120 : decode cX4_addLongBase 120 = .ok (.aload_n 0, 1) := by decide +kernel
theorem dX4_addLongBase_121 : decode cX4_addLongBase 121 = .ok (.getfield 31, 3) := by decide +kernel
theorem dX4_addLongBase_124 : decode cX4_addLongBase 124 = .ok (.ldc 123, 2) := by decide +kernel
theorem dX4_addLongBase_126 : decode cX4_addLongBase 126 = .ok (.invokevirtual 119, 3) := by decide +kernel
theorem dX4_addLongBase_129 : decode cX4_addLongBase 129 = .ok (.aload_n 0, 1) := by decide +kernel
theorem dX4_addLongBase_130 : decode cX4_addLongBase 130 = .ok (.getfield 41, 3) := by decide +kernel
theorem dX4_addLongBase_133 : decode cX4_addLongBase 133 = .ok (.iconst 2, 1) := by decide +kernel
theorem dX4_addLongBase_134 : decode cX4_addLongBase 134 = .ok (.invokevirtual 125, 3) := by decide +kernel
theorem dX4_addLongBase_137 : decode cX4_addLongBase 137 = .ok (.ifCond .eq 27, 3) := by decide +kernel
theorem dX4_addLongBase_140 : decode cX4_addLongBase 140 = .ok (.aload_n 0, 1) := by decide +kernel
theorem dX4_addLongBase_141 : decode cX4_addLongBase 141 = .ok (.getfield 31, 3) := by decide +kernel
theorem dX4_addLongBase_144 : decode cX4_addLongBase 144 = .ok (.bipush 32, 2) := by decide +kernel
theorem dX4_addLongBase_146 : decode cX4_addLongBase 146 = .ok (.invokevirtual 81, 3) := by decide +kernel
theorem dX4_addLongBase_149 : decode cX4_addLongBase 149 = .ok (.aload_n 0, 1) := by decide +kernel
theorem dX4_addLongBase_150 : decode cX4_addLongBase 150 = .ok (.getfield 31, 3) := by decide +kernel
theorem dX4_addLongBase_153 : decode cX4_addLongBase 153 = .ok (.aload_n 0, 1) := by decide +kernel
theorem dX4_addLongBase_154 : decode cX4_addLongBase 154 = .ok (.getfield 41, 3) := by decide +kernel
theorem dX4_addLongBase_157 : decode cX4_addLongBase 157 = .ok (.iconst 2, 1) := by decide +kernel
theorem dX4_addLongBase_158 : decode cX4_addLongBase 158 = .ok (.invokevirtual 45, 3) := by decide +kernel
theorem dX4_addLongBase_161 : decode cX4_addLongBase 161 = .ok (.invokevirtual 78, 3) := by decide +kernel
theorem dX4_addLongBase_164 : decode cX4_addLongBase 164 = .ok (.return_, 1) := by decide +kernel
theorem dX4_writeText_0 : decode cX4_writeText 0 = .ok (.aload_n 0, 1) := by decide +kernel
theorem dX4_writeText_1 : decode cX4_writeText 1 = .ok (.getfield 38, 3) := by decide +kernel
theorem dX4_writeText_4 : decode cX4_writeText 4 = .ok (.invokevirtual 55, 3) := by decide +kernel
theorem dX4_writeText_7 : decode cX4_writeText 7 = .ok (.aload_n 0, 1) := by decide +kernel
theorem dX4_writeText_8 : decode cX4_writeText 8 = .ok (.iload_n 1, 1) := by decide +kernel
theorem dX4_writeText_9 : decode cX4_writeText 9 = .ok (.iload_n 2, 1) := by decide +kernel
theorem dX4_writeText_10 : decode cX4_writeText 10 = .ok (.invokevirtual 128, 3) := by decide +kernel
theorem dX4_writeText_13 : decode cX4_writeText 13 = .ok (.aload_n 0, 1) := by decide +kernel
theorem dX4_writeText_14 : decode cX4_writeText 14 = .ok (.getfield 38, 3) := by decide +kernel
theorem dX4_writeText_17 : decode cX4_writeText 17 = .ok (.invokevirtual 109, 3) := by decide +kernel
theorem dX4_writeText_20 : decode cX4_writeText 20 = .ok (.istore_n 3, 1) := by decide +kernel
theorem dX4_writeText_21 : decode cX4_writeText 21 = .ok (.aload_n 0, 1) := by decide +kernel
theorem dX4_writeText_22 : decode cX4_writeText 22 = .ok (.getfield 12, 3) := by decide +kernel
theorem dX4_writeText_25 : decode cX4_writeText 25 = .ok (.invokevirtual 58, 3) := by decide +kernel
theorem dX4_writeText_28 : decode cX4_writeText 28 = .ok (.ifCond .le 19, 3) := by decide +kernel
theorem dX4_writeText_31 : decode cX4_writeText 31 = .ok (.aload_n 0, 1) := by decide +kernel
theorem dX4_writeText_32 : decode cX4_writeText 32 = .ok (.iload_n 3, 1) := by decide +kernel
theorem dX4_writeText_33 : decode cX4_writeText 33 = .ok (.invokevirtual 132, 3) := by decide +kernel
theorem dX4_writeText_36 : decode cX4_writeText 36 = .ok (.aload_n 0, 1) := by decide +kernel
theorem dX4_writeText_37 : decode cX4_writeText 37 = .ok (.getfield 12, 3) := by decide +kernel
theorem dX4_writeText_40 : decode cX4_writeText 40 = .ok (.aload_n 0, 1) := by decide +kernel
theorem dX4_writeText_41 : decode cX4_writeText 41 = .ok (.getfield 38, 3) := by decide +kernel
theorem dX4_writeText_44 : decode cX4_writeText 44 = .ok (.invokevirtual 135, 3) := by decide +kernel
theorem dX4_writeText_47 : decode cX4_writeText 47 = .ok (.aload_n 0, 1) := by decide +kernel
theorem dX4_writeText_48 : decode cX4_writeText 48 = .ok (.iconst 1, 1) := by decide +kernel
theorem dX4_writeText_49 : decode cX4_writeText 49 = .ok (.ldc 138, 2) := by decide +kernel
theorem dX4_writeText_51 : decode cX4_writeText 51 = .ok (.iload_n 3, 1) := by decide +kernel
theorem dX4_writeText_52 : decode cX4_writeText 52 = .ok (.invokevirtual 140, 3) := by decide +kernel
theorem dX4_writeText_55 : decode cX4_writeText 55 = .ok (.aload_n 0, 1) := by decide +kernel
theorem dX4_writeText_56 : decode cX4_writeText 56 = .ok (.iload_n 3, 1) := by decide +kernel
theorem dX4_writeText_57 : decode cX4_writeText 57 = .ok (.invokevirtual 144, 3) := by decide +kernel
theorem dX4_writeText_60 : decode cX4_writeText 60 = .ok (.aload_n 0, 1) := by decide +kernel
theorem dX4_writeText_61 : decode cX4_writeText 61 = .ok (.iconst 2, 1) := by decide +kernel
theorem dX4_writeText_62 : decode cX4_writeText 62 = .ok (.ldc 138, 2) := by decide +kernel
theorem dX4_writeText_64 : decode cX4_writeText 64 = .ok (.iload_n 3, 1) := by decide +kernel
theorem dX4_writeText_65 : decode cX4_writeText 65 = .ok (.invokevirtual 140, 3) := by decide +kernel
theorem dX4_writeText_68 : decode cX4_writeText 68 = .ok (.aload_n 0, 1) := by decide +kernel
theorem dX4_writeText_69 : decode cX4_writeText 69 = .ok (.getfield 38, 3) := by decide +kernel
theorem dX4_writeText_72 : decode cX4_writeText 72 = .ok (.invokevirtual 109, 3) := by decide +kernel
theorem dX4_writeText_75 : decode cX4_writeText 75 = .ok (.iload_n 3, 1) := by decide +kernel
theorem dX4_writeText_76 : decode cX4_writeText 76 = .ok (.if_icmp .le 12, 3) := by decide +kernel
theorem dX4_writeText_79 : decode cX4_writeText 79 = .ok (.aload_n 0, 1) := by decide +kernel
theorem dX4_writeText_80 : decode cX4_writeText 80 = .ok (.getfield 38, 3) := by decide +kernel
theorem dX4_writeText_83 : decode cX4_writeText 83 = .ok (.bipush 46, 2) := by decide +kernel
theorem dX4_writeText_85 : decode cX4_writeText 85 = .ok (.invokevirtual 81, 3) := by decide +kernel
theorem dX4_writeText_88 : decode cX4_writeText 88 = .ok (.return_, 1) := by decide +kernel
theorem dX4_addLabel_0 : decode cX4_addLabel 0 = .ok (.aload_n 0, 1) := by decide +kernel
theorem dX4_addLabel_1 : decode cX4_addLabel 1 = .ok (.getfield 38, 3) := by decide +kernel
theorem dX4_addLabel_4 : decode cX4_addLabel 4 = .ok (.iload_n 1, 1) := by decide +kernel
theorem dX4_addLabel_5 : decode cX4_addLabel 5 = .ok (.iconst 2, 1) := by decide +kernel
theorem dX4_addLabel_6 : decode cX4_addLabel 6 = .ok (.if_icmp .ne 8, 3) := by decide +kernel
theorem dX4_addLabel_9 : decode cX4_addLabel 9 = .ok (.bipush 40, 2) := by decide +kernel
theorem dX4_addLabel_11 : decode cX4_addLabel 11 = .ok (.goto 5, 3) := by decide +kernel
theorem dX4_addLabel_14 : decode cX4_addLabel 14 = .ok (.bipush 91, 2) := by decide +kernel
theorem dX4_addLabel_16 : decode cX4_addLabel 16 = .ok (.invokevirtual 81, 3) := by decide +kernel
theorem dX4_addLabel_19 : decode cX4_addLabel 19 = .ok (.iload_n 1, 1) := by decide +kernel
theorem dX4_addLabel_20 : decode cX4_addLabel 20 = .ok (.iconst 1, 1) := by decide +kernel
theorem dX4_addLabel_21 : decode cX4_addLabel 21 = .ok (.if_icmp .eq 8, 3) := by decide +kernel
theorem dX4_addLabel_24 : decode cX4_addLabel 24 = .ok (.iload_n 1, 1) := by decide +kernel
theorem dX4_addLabel_25 : decode cX4_addLabel 25 = .ok (.iconst 2, 1) := by decide +kernel
theorem dX4_addLabel_26 : decode cX4_addLabel 26 = .ok (.if_icmp .ne 40, 3) := by decide +kernel
theorem dX4_addLabel_29 : decode cX4_addLabel 29 = .ok (.aload_n 0, 1) := by decide +kernel
theorem dX4_addLabel_30 : decode cX4_addLabel 30 = .ok (.getfield 38, 3) := by decide +kernel
theorem dX4_addLabel_33 : decode cX4_addLabel 33 = .ok (.aload_n 0, 1) := by decide +kernel
theorem dX4_addLabel_34 : decode cX4_addLabel 34 = .ok (.getfield 31, 3) := by decide +kernel
theorem dX4_addLabel_37 : decode cX4_addLabel 37 = .ok (.invokevirtual 78, 3) := by decide +kernel
theorem dX4_addLabel_40 : decode cX4_addLabel 40 = .ok (.aload_n 0, 1) := by decide +kernel
theorem dX4_addLabel_41 : decode cX4_addLabel 41 = .ok (.getfield 34, 3) := by decide +kernel
theorem dX4_addLabel_44 : decode cX4_addLabel 44 = .ok (.ifCond .le 32, 3) := by decide +kernel
theorem dX4_addLabel_47 : decode cX4_addLabel 47 = .ok (.aload_n 0, 1) := by decide +kernel
theorem dX4_addLabel_48 : decode cX4_addLabel 48 = .ok (.getfield 38, 3) := by decide +kernel
theorem dX4_addLabel_51 : decode cX4_addLabel 51 = .ok (.bipush 97, 2) := by decide +kernel
theorem dX4_addLabel_53 : decode cX4_addLabel 53 = .ok (.aload_n 0, 1) := by decide +kernel
theorem dX4_addLabel_54 : decode cX4_addLabel 54 = .ok (.getfield 34, 3) := by decide +kernel
theorem dX4_addLabel_57 : decode cX4_addLabel 57 = .ok (.iadd, 1) := by decide +kernel
theorem dX4_addLabel_58 : decode cX4_addLabel 58 = .ok (.iconst 1, 1) := by decide +kernel
theorem dX4_addLabel_59 : decode cX4_addLabel 59 = .ok (.isub, 1) := by decide +kernel
theorem dX4_addLabel_60 : decode cX4_addLabel 60 = .ok (.invokevirtual 81, 3) := by decide +kernel
theorem dX4_addLabel_63 : decode cX4_addLabel 63 = .ok (.goto 13, 3) := by decide +kernel
theorem dX4_addLabel_66 : decode cX4_addLabel 66 = .ok (.aload_n 0, 1) := by decide +kernel
theorem dX4_addLabel_67 : decode cX4_addLabel 67 = .ok (.getfield 38, 3) := by decide +kernel
theorem dX4_addLabel_70 : decode cX4_addLabel 70 = .ok (.iload_n 2, 1) := by decide +kernel
theorem dX4_addLabel_71 : decode cX4_addLabel 71 = .ok (.iconst 1, 1) := by decide +kernel
theorem dX4_addLabel_72 : decode cX4_addLabel 72 = .ok (.iadd, 1) := by decide +kernel
theorem dX4_addLabel_73 : decode cX4_addLabel 73 = .ok (.invokevirtual 147, 3) := by decide +kernel
theorem dX4_addLabel_76 : decode cX4_addLabel 76 = .ok (.aload_n 0, 1) := by decide +kernel
theorem dX4_addLabel_77 : decode cX4_addLabel 77 = .ok (.getfield 38, 3) := by decide +kernel
theorem dX4_addLabel_80 : decode cX4_addLabel 80 = .ok (.iload_n 1, 1) := by decide +kernel
theorem dX4_addLabel_81 : decode cX4_addLabel 81 = .ok (.iconst 2, 1) := by decide +kernel
theorem dX4_addLabel_82 : decode cX4_addLabel 82 = .ok (.if_icmp .ne 8, 3) := by decide +kernel
theorem dX4_addLabel_85 : decode cX4_addLabel 85 = .ok (.bipush 41, 2) := by decide +kernel
theorem dX4_addLabel_87 : decode cX4_addLabel 87 = .ok (.goto 5, 3) := by decide +kernel
theorem dX4_addLabel_90 : decode cX4_addLabel 90 = .ok (.bipush 93, 2) := by decide +kernel
theorem dX4_addLabel_92 : decode cX4_addLabel 92 = .ok (.invokevirtual 81, 3) := by decide +kernel
theorem dX4_addLabel_95 : decode cX4_addLabel 95 = .ok (.return_, 1) := by decide +kernel
theorem dX4_beginPiece_0 : decode cX4_beginPiece 0 = .ok (.aload_n 0, 1) := by decide +kernel
theorem dX4_beginPiece_1 : decode cX4_beginPiece 1 = .ok (.getfield 38, 3) := by decide +kernel
theorem dX4_beginPiece_4 : decode cX4_beginPiece 4 = .ok (.aload_n 0, 1) := by decide +kernel
theorem dX4_beginPiece_5 : decode cX4_beginPiece 5 = .ok (.getfield 38, 3) := by decide +kernel
theorem dX4_beginPiece_8 : decode cX4_beginPiece 8 = .ok (.invokevirtual 109, 3) := by decide +kernel
theorem dX4_beginPiece_11 : decode cX4_beginPiece 11 = .ok (.iload_n 1, 1) := by decide +kernel
theorem dX4_beginPiece_12 : decode cX4_beginPiece 12 = .ok (.if_icmp .le 8, 3) := by decide +kernel
theorem dX4_beginPiece_15 : decode cX4_beginPiece 15 = .ok (.ldc 150, 2) := by decide +kernel
theorem dX4_beginPiece_17 : decode cX4_beginPiece 17 = .ok (.goto 5, 3) := by decide +kernel
theorem dX4_beginPiece_20 : decode cX4_beginPiece 20 = .ok (.ldc 152, 2) := by decide +kernel
theorem dX4_beginPiece_22 : decode cX4_beginPiece 22 = .ok (.invokevirtual 119, 3) := by decide +kernel
theorem dX4_beginPiece_25 : decode cX4_beginPiece 25 = .ok (.return_, 1) := by decide +kernel
theorem dX4_addValuePiece_0 : decode cX4_addValuePiece 0 = .ok (.aload_n 0, 1) := by decide +kernel
theorem dX4_addValuePiece_1 : decode cX4_addValuePiece 1 = .ok (.getfield 41, 3) := by decide +kernel
theorem dX4_addValuePiece_4 : decode cX4_addValuePiece 4 = .ok (.iload_n 1, 1) := by decide +kernel
theorem dX4_addValuePiece_5 : decode cX4_addValuePiece 5 = .ok (.invokevirtual 125, 3) := by decide +kernel
theorem dX4_addValuePiece_8 : decode cX4_addValuePiece 8 = .ok (.ifCond .eq 31, 3) := by decide +kernel
theorem dX4_addValuePiece_11 : decode cX4_addValuePiece 11 = .ok (.aload_n 0, 1) := by decide +kernel
theorem dX4_addValuePiece_12 : decode cX4_addValuePiece 12 = .ok (.iload_n 3, 1) := by decide +kernel
theorem dX4_addValuePiece_13 : decode cX4_addValuePiece 13 = .ok (.invokevirtual 132, 3) := by decide +kernel
theorem dX4_addValuePiece_16 : decode cX4_addValuePiece 16 = .ok (.aload_n 0, 1) := by decide +kernel
theorem dX4_addValuePiece_17 : decode cX4_addValuePiece 17 = .ok (.getfield 38, 3) := by decide +kernel
theorem dX4_addValuePiece_20 : decode cX4_addValuePiece 20 = .ok (.aload_n 2, 1) := by decide +kernel
theorem dX4_addValuePiece_21 : decode cX4_addValuePiece 21 = .ok (.invokevirtual 119, 3) := by decide +kernel
theorem dX4_addValuePiece_24 : decode cX4_addValuePiece 24 = .ok (.aload_n 0, 1) := by decide +kernel
theorem dX4_addValuePiece_25 : decode cX4_addValuePiece 25 = .ok (.getfield 38, 3) := by decide +kernel
theorem dX4_addValuePiece_28 : decode cX4_addValuePiece 28 = .ok (.aload_n 0, 1) := by decide +kernel
theorem dX4_addValuePiece_29 : decode cX4_addValuePiece 29 = .ok (.getfield 41, 3) := by decide +kernel
theorem dX4_addValuePiece_32 : decode cX4_addValuePiece 32 = .ok (.iload_n 1, 1) := by decide +kernel
theorem dX4_addValuePiece_33 : decode cX4_addValuePiece 33 = .ok (.invokevirtual 45, 3) := by decide +kernel
theorem dX4_addValuePiece_36 : decode cX4_addValuePiece 36 = .ok (.invokevirtual 78, 3) := by decide +kernel
theorem dX4_addValuePiece_39 : decode cX4_addValuePiece 39 = .ok (.return_, 1) := by decide +kernel
theorem dX4_addSource_0 : decode cX4_addSource 0 = .ok (.aload_n 0, 1) := by decide +kernel
theorem dX4_addSource_1 : decode cX4_addSource 1 = .ok (.getfield 41, 3) := by decide +kernel
theorem dX4_addSource_4 : decode cX4_addSource 4 = .ok (.getfield 154, 3) := by decide +kernel
theorem dX4_addSource_7 : decode cX4_addSource 7 = .ok (.ifCond .ne 21, 3) := by decide +kernel
theorem dX4_addSource_10 : decode cX4_addSource 10 = .ok (.aload_n 0, 1) := by decide +kernel
theorem dX4_addSource_11 : decode cX4_addSource 11 = .ok (.iconst 3, 1) := by decide +kernel
theorem dX4_addSource_12 : decode cX4_addSource 12 = .ok (.ldc 138, 2) := by decide +kernel
theorem dX4_addSource_14 : decode cX4_addSource 14 = .ok (.iload_n 1, 1) := by decide +kernel
theorem dX4_addSource_15 : decode cX4_addSource 15 = .ok (.invokevirtual 140, 3) := by decide +kernel
theorem dX4_addSource_18 : decode cX4_addSource 18 = .ok (.aload_n 0, 1) := by decide +kernel
theorem dX4_addSource_19 : decode cX4_addSource 19 = .ok (.iconst 3, 1) := by decide +kernel
theorem dX4_addSource_20 : decode cX4_addSource 20 = .ok (.ldc 157, 2) := by decide +kernel
theorem dX4_addSource_22 : decode cX4_addSource 22 = .ok (.invokevirtual 159, 3) := by decide +kernel
theorem dX4_addSource_25 : decode cX4_addSource 25 = .ok (.goto 58, 3) := by decide +kernel
theorem dX4_addSource_28 : decode cX4_addSource 28 = .ok (.aload_n 0, 1) := by decide +kernel
theorem dX4_addSource_29 : decode cX4_addSource 29 = .ok (.getfield 41, 3) := by decide +kernel
theorem dX4_addSource_32 : decode cX4_addSource 32 = .ok (.getfield 154, 3) := by decide +kernel
theorem dX4_addSource_35 : decode cX4_addSource 35 = .ok (.iconst 2, 1) := by decide +kernel
theorem dX4_addSource_36 : decode cX4_addSource 36 = .ok (.if_icmp .ne 23, 3) := by decide +kernel
theorem dX4_addSource_39 : decode cX4_addSource 39 = .ok (.aload_n 0, 1) := by decide +kernel
theorem dX4_addSource_40 : decode cX4_addSource 40 = .ok (.bipush 6, 2) := by decide +kernel
theorem dX4_addSource_42 : decode cX4_addSource 42 = .ok (.ldc 163, 2) := by decide +kernel
theorem dX4_addSource_44 : decode cX4_addSource 44 = .ok (.iload_n 1, 1) := by decide +kernel
theorem dX4_addSource_45 : decode cX4_addSource 45 = .ok (.invokevirtual 140, 3) := by decide +kernel
theorem dX4_addSource_48 : decode cX4_addSource 48 = .ok (.aload_n 0, 1) := by decide +kernel
theorem dX4_addSource_49 : decode cX4_addSource 49 = .ok (.bipush 6, 2) := by decide +kernel
theorem dX4_addSource_51 : decode cX4_addSource 51 = .ok (.ldc 165, 2) := by decide +kernel
theorem dX4_addSource_53 : decode cX4_addSource 53 = .ok (.invokevirtual 159, 3) := by decide +kernel
theorem dX4_addSource_56 : decode cX4_addSource 56 = .ok (.goto 27, 3) := by decide +kernel
theorem dX4_addSource_59 : decode cX4_addSource 59 = .ok (.aload_n 0, 1) := by decide +kernel
theorem dX4_addSource_60 : decode cX4_addSource 60 = .ok (.aload_n 0, 1) := by decide +kernel
theorem dX4_addSource_61 : decode cX4_addSource 61 = .ok (.getfield 41, 3) := by decide +kernel
theorem dX4_addSource_64 : decode cX4_addSource 64 = .ok (.getfield 154, 3) := by decide +kernel
theorem dX4_addSource_67 : decode cX4_addSource 67 = .ok (.iconst 4, 1) := by decide +kernel
theorem dX4_addSource_68 : decode cX4_addSource 68 = .ok (.if_icmp .ne 8, 3) := by decide +kernel
theorem dX4_addSource_71 : decode cX4_addSource 71 = .ok (.bipush 7, 2) := by decide +kernel
theorem dX4_addSource_73 : decode cX4_addSource 73 = .ok (.goto 4, 3) := by decide +kernel
theorem dX4_addSource_76 : decode cX4_addSource 76 = .ok (.iconst 4, 1) := by decide +kernel
theorem dX4_addSource_77 : decode cX4_addSource 77 = .ok (.ldc 138, 2) := by decide +kernel
theorem dX4_addSource_79 : decode cX4_addSource 79 = .ok (.iload_n 1, 1) := by decide +kernel
theorem dX4_addSource_80 : decode cX4_addSource 80 = .ok (.invokevirtual 140, 3) := by decide +kernel
theorem dX4_addSource_83 : decode cX4_addSource 83 = .ok (.return_, 1) := by decide +kernel
theorem dX4_addPages_0 : decode cX4_addPages 0 = .ok (.aload_n 0, 1) := by decide +kernel
theorem dX4_addPages_1 : decode cX4_addPages 1 = .ok (.getfield 41, 3) := by decide +kernel
theorem dX4_addPages_4 : decode cX4_addPages 4 = .ok (.iload_n 1, 1) := by decide +kernel
theorem dX4_addPages_5 : decode cX4_addPages 5 = .ok (.invokevirtual 125, 3) := by decide +kernel
theorem dX4_addPages_8 : decode cX4_addPages 8 = .ok (.ifCond .eq 37, 3) := by decide +kernel
theorem dX4_addPages_11 : decode cX4_addPages 11 = .ok (.aload_n 0, 1) := by decide +kernel
theorem dX4_addPages_12 : decode cX4_addPages 12 = .ok (.getfield 41, 3) := by decide +kernel
theorem dX4_addPages_15 : decode cX4_addPages 15 = .ok (.iconst 5, 1) := by decide +kernel
theorem dX4_addPages_16 : decode cX4_addPages 16 = .ok (.invokevirtual 125, 3) := by decide +kernel
theorem dX4_addPages_19 : decode cX4_addPages 19 = .ok (.ifCond .eq 26, 3) := by decide +kernel
theorem dX4_addPages_22 : decode cX4_addPages 22 = .ok (.aload_n 0, 1) := by decide +kernel
theorem dX4_addPages_23 : decode cX4_addPages 23 = .ok (.getfield 38, 3) := by decide +kernel
theorem dX4_addPages_26 : decode cX4_addPages 26 = .ok (.aload_n 2, 1) := by decide +kernel
theorem dX4_addPages_27 : decode cX4_addPages 27 = .ok (.invokevirtual 119, 3) := by decide +kernel
theorem dX4_addPages_30 : decode cX4_addPages 30 = .ok (.aload_n 0, 1) := by decide +kernel
theorem dX4_addPages_31 : decode cX4_addPages 31 = .ok (.getfield 38, 3) := by decide +kernel
theorem dX4_addPages_34 : decode cX4_addPages 34 = .ok (.aload_n 0, 1) := by decide +kernel
theorem dX4_addPages_35 : decode cX4_addPages 35 = .ok (.getfield 41, 3) := by decide +kernel
theorem dX4_addPages_38 : decode cX4_addPages 38 = .ok (.iconst 5, 1) := by decide +kernel
theorem dX4_addPages_39 : decode cX4_addPages 39 = .ok (.invokevirtual 45, 3) := by decide +kernel
theorem dX4_addPages_42 : decode cX4_addPages 42 = .ok (.invokevirtual 78, 3) := by decide +kernel
theorem dX4_addPages_45 : decode cX4_addPages 45 = .ok (.return_, 1) := by decide +kernel
theorem dX5_init_0 : decode cX5_init 0 = .ok (.aload_n 0, 1) := by decide +kernel
theorem dX5_init_1 : decode cX5_init 1 = .ok (.invokespecial 1, 3) := by decide +kernel
theorem dX5_init_4 : decode cX5_init 4 = .ok (.aload_n 0, 1) := by decide +kernel
theorem dX5_init_5 : decode cX5_init 5 = .ok (.bipush 8, 2) := by decide +kernel
theorem dX5_init_7 : decode cX5_init 7 = .ok (.newarray .char, 2) := by decide +kernel
theorem dX5_init_9 : decode cX5_init 9 = .ok (.putfield 9, 3) := by decide +kernel
theorem dX5_init_12 : decode cX5_init 12 = .ok (.aload_n 0, 1) := by decide +kernel
theorem dX5_init_13 : decode cX5_init 13 = .ok (.iconst 0, 1) := by decide +kernel
theorem dX5_init_14 : decode cX5_init 14 = .ok (.putfield 13, 3) := by decide +kernel
theorem dX5_init_17 : decode cX5_init 17 = .ok (.return_, 1) := by decide +kernel
theorem dX5_clear_0 : decode cX5_clear 0 = .ok (.aload_n 0, 1) := by decide +kernel
theorem dX5_clear_1 : decode cX5_clear 1 = .ok (.iconst 0, 1) := by decide +kernel
theorem dX5_clear_2 : decode cX5_clear 2 = .ok (.putfield 13, 3) := by decide +kernel
theorem dX5_clear_5 : decode cX5_clear 5 = .ok (.return_, 1) := by decide +kernel
theorem dX5_size_0 : decode cX5_size 0 = .ok (.aload_n 0, 1) := by decide +kernel
theorem dX5_size_1 : decode cX5_size 1 = .ok (.getfield 13, 3) := by decide +kernel
theorem dX5_size_4 : decode cX5_size 4 = .ok (.ireturn, 1) := by decide +kernel
theorem dX5_isEmpty_0 : decode cX5_isEmpty 0 = .ok (.aload_n 0, 1) := by decide +kernel
theorem dX5_isEmpty_1 : decode cX5_isEmpty 1 = .ok (.getfield 13, 3) := by decide +kernel
theorem dX5_isEmpty_4 : decode cX5_isEmpty 4 = .ok (.ifCond .ne 7, 3) := by decide +kernel
theorem dX5_isEmpty_7 : decode cX5_isEmpty 7 = .ok (.iconst 1, 1) := by decide +kernel
theorem dX5_isEmpty_8 : decode cX5_isEmpty 8 = .ok (.goto 4, 3) := by decide +kernel
theorem dX5_isEmpty_11 : decode cX5_isEmpty 11 = .ok (.iconst 0, 1) := by decide +kernel
theorem dX5_isEmpty_12 : decode cX5_isEmpty 12 = .ok (.ireturn, 1) := by decide +kernel
theorem dX5_signAt_0 : decode cX5_signAt 0 = .ok (.iload_n 1, 1) := by decide +kernel
theorem dX5_signAt_1 : decode cX5_signAt 1 = .ok (.ifCond .lt 20, 3) := by decide +kernel
theorem dX5_signAt_4 : decode cX5_signAt 4 = .ok (.iload_n 1, 1) := by decide +kernel
theorem dX5_signAt_5 : decode cX5_signAt 5 = .ok (.aload_n 0, 1) := by decide +kernel
theorem dX5_signAt_6 : decode cX5_signAt 6 = .ok (.getfield 13, 3) := by decide +kernel
theorem dX5_signAt_9 : decode cX5_signAt 9 = .ok (.if_icmp .ge 12, 3) := by decide +kernel
theorem dX5_signAt_12 : decode cX5_signAt 12 = .ok (.aload_n 0, 1) := by decide +kernel
theorem dX5_signAt_13 : decode cX5_signAt 13 = .ok (.getfield 9, 3) := by decide +kernel
theorem dX5_signAt_16 : decode cX5_signAt 16 = .ok (.iload_n 1, 1) := by decide +kernel
theorem dX5_signAt_17 : decode cX5_signAt 17 = .ok (.caload, 1) := by decide +kernel
theorem dX5_signAt_18 : decode cX5_signAt 18 = .ok (.goto 4, 3) := by decide +kernel
theorem dX5_signAt_21 : decode cX5_signAt 21 = .ok (.iconst 0, 1) := by decide +kernel
theorem dX5_signAt_22 : decode cX5_signAt 22 = .ok (.ireturn, 1) := by decide +kernel
theorem dX5_addSign_0 : decode cX5_addSign 0 = .ok (.aload_n 0, 1) := by decide +kernel
theorem dX5_addSign_1 : decode cX5_addSign 1 = .ok (.getfield 13, 3) := by decide +kernel
theorem dX5_addSign_4 : decode cX5_addSign 4 = .ok (.aload_n 0, 1) := by decide +kernel
theorem dX5_addSign_5 : decode cX5_addSign 5 = .ok (.getfield 9, 3) := by decide +kernel
theorem dX5_addSign_8 : decode cX5_addSign 8 = .ok (.arraylength, 1) := by decide +kernel
theorem dX5_addSign_9 : decode cX5_addSign 9 = .ok (.if_icmp .lt 32, 3) := by decide +kernel
theorem dX5_addSign_12 : decode cX5_addSign 12 = .ok (.iconst 2, 1) := by decide +kernel
theorem dX5_addSign_13 : decode cX5_addSign 13 = .ok (.aload_n 0, 1) := by decide +kernel
theorem dX5_addSign_14 : decode cX5_addSign 14 = .ok (.getfield 9, 3) := by decide +kernel
theorem dX5_addSign_17 : decode cX5_addSign 17 = .ok (.arraylength, 1) := by decide +kernel
theorem dX5_addSign_18 : decode cX5_addSign 18 = .ok (.imul, 1) := by decide +kernel
theorem dX5_addSign_19 : decode cX5_addSign 19 = .ok (.newarray .char, 2) := by decide +kernel
theorem dX5_addSign_21 : decode cX5_addSign 21 = .ok (.astore_n 2, 1) := by decide +kernel
theorem dX5_addSign_22 : decode cX5_addSign 22 = .ok (.aload_n 0, 1) := by decide +kernel
theorem dX5_addSign_23 : decode cX5_addSign 23 = .ok (.getfield 9, 3) := by decide +kernel
theorem dX5_addSign_26 : decode cX5_addSign 26 = .ok (.iconst 0, 1) := by decide +kernel
theorem dX5_addSign_27 : decode cX5_addSign 27 = .ok (.aload_n 2, 1) := by decide +kernel
theorem dX5_addSign_28 : decode cX5_addSign 28 = .ok (.iconst 0, 1) := by decide +kernel
theorem dX5_addSign_29 : decode cX5_addSign 29 = .ok (.aload_n 0, 1) := by decide +kernel
theorem dX5_addSign_30 : decode cX5_addSign 30 = .ok (.getfield 13, 3) := by decide +kernel
theorem dX5_addSign_33 : decode cX5_addSign 33 = .ok (.invokestatic 17, 3) := by decide +kernel
theorem dX5_addSign_36 : decode cX5_addSign 36 = .ok (.aload_n 0, 1) := by decide +kernel
theorem dX5_addSign_37 : decode cX5_addSign 37 = .ok (.aload_n 2, 1) := by decide +kernel
theorem dX5_addSign_38 : decode cX5_addSign 38 = .ok (.putfield 9, 3) := by decide +kernel
theorem dX5_addSign_41 : decode cX5_addSign 41 = .ok (.aload_n 0, 1) := by decide +kernel
theorem dX5_addSign_42 : decode cX5_addSign 42 = .ok (.getfield 9, 3) := by decide +kernel
theorem dX5_addSign_45 : decode cX5_addSign 45 = .ok (.aload_n 0, 1) := by decide +kernel
theorem dX5_addSign_46 : decode cX5_addSign 46 = .ok (.getfield 13, 3) := by decide +kernel
theorem dX5_addSign_49 : decode cX5_addSign 49 = .ok (.iload_n 1, 1) := by decide +kernel
theorem dX5_addSign_50 : decode cX5_addSign 50 = .ok (.i2c, 1) := by decide +kernel
theorem dX5_addSign_51 : decode cX5_addSign 51 = .ok (.castore, 1) := by decide +kernel
theorem dX5_addSign_52 : decode cX5_addSign 52 = .ok (.aload_n 0, 1) := by decide +kernel
theorem dX5_addSign_53 : decode cX5_addSign 53 = .ok (.dup, 1) := by decide +kernel
theorem dX5_addSign_54 : decode cX5_addSign 54 = .ok (.getfield 13, 3) := by decide +kernel
theorem dX5_addSign_57 : decode cX5_addSign 57 = .ok (.iconst 1, 1) := by decide +kernel
theorem dX5_addSign_58 : decode cX5_addSign 58 = .ok (.iadd, 1) := by decide +kernel
theorem dX5_addSign_59 : decode cX5_addSign 59 = .ok (.putfield 13, 3) := by decide +kernel
theorem dX5_addSign_62 : decode cX5_addSign 62 = .ok (.return_, 1) := by decide +kernel
theorem dX5_cut_0 : decode cX5_cut 0 = .ok (.iload_n 1, 1) := by decide +kernel
theorem dX5_cut_1 : decode cX5_cut 1 = .ok (.ifCond .lt 16, 3) := by decide +kernel
theorem dX5_cut_4 : decode cX5_cut 4 = .ok (.iload_n 1, 1) := by decide +kernel
theorem dX5_cut_5 : decode cX5_cut 5 = .ok (.aload_n 0, 1) := by decide +kernel
theorem dX5_cut_6 : decode cX5_cut 6 = .ok (.getfield 13, 3) := by decide +kernel
theorem dX5_cut_9 : decode cX5_cut 9 = .ok (.if_icmp .ge 8, 3) := by decide +kernel
theorem dX5_cut_12 : decode cX5_cut 12 = .ok (.aload_n 0, 1) := by decide +kernel
theorem dX5_cut_13 : decode cX5_cut 13 = .ok (.iload_n 1, 1) := by decide +kernel
theorem dX5_cut_14 : decode cX5_cut 14 = .ok (.putfield 13, 3) := by decide +kernel
theorem dX5_cut_17 : decode cX5_cut 17 = .ok (.return_, 1) := by decide +kernel
theorem dX5_addString_0 : decode cX5_addString 0 = .ok (.iconst 0, 1) := by decide +kernel
theorem dX5_addString_1 : decode cX5_addString 1 = .ok (.istore_n 2, 1) := by decide +kernel
theorem dX5_addString_2 : decode cX5_addString 2 = .ok (.iload_n 2, 1) := by decide +kernel
theorem dX5_addString_3 : decode cX5_addString 3 = .ok (.aload_n 1, 1) := by decide +kernel
theorem dX5_addString_4 : decode cX5_addString 4 = .ok (.invokevirtual 23, 3) := by decide +kernel
theorem dX5_addString_7 : decode cX5_addString 7 = .ok (.if_icmp .ge 18, 3) := by decide +kernel
theorem dX5_addString_10 : decode cX5_addString 10 = .ok (.aload_n 0, 1) := by decide +kernel
theorem dX5_addString_11 : decode cX5_addString 11 = .ok (.aload_n 1, 1) := by decide +kernel
theorem dX5_addString_12 : decode cX5_addString 12 = .ok (.iload_n 2, 1) := by decide +kernel
theorem dX5_addString_13 : decode cX5_addString 13 = .ok (.invokevirtual 28, 3) := by decide +kernel
theorem dX5_addString_16 : decode cX5_addString 16 = .ok (.invokevirtual 32, 3) := by decide +kernel
theorem dX5_addString_19 : decode cX5_addString 19 = .ok (.iinc 2 1, 3) := by decide +kernel
theorem dX5_addString_22 : decode cX5_addString 22 = .ok (.goto (-20), 3) := by decide +kernel
theorem dX5_addString_25 : decode cX5_addString 25 = .ok (.return_, 1) := by decide +kernel
theorem dX5_addText_0 : decode cX5_addText 0 = .ok (.aload_n 0, 1) := by decide +kernel
theorem dX5_addText_1 : decode cX5_addText 1 = .ok (.aload_n 1, 1) := by decide +kernel
theorem dX5_addText_2 : decode cX5_addText 2 = .ok (.iconst 0, 1) := by decide +kernel
theorem dX5_addText_3 : decode cX5_addText 3 = .ok (.aload_n 1, 1) := by decide +kernel
theorem dX5_addText_4 : decode cX5_addText 4 = .ok (.getfield 13, 3) := by decide +kernel
theorem dX5_addText_7 : decode cX5_addText 7 = .ok (.invokevirtual 36, 3) := by decide +kernel
theorem dX5_addText_10 : decode cX5_addText 10 = .ok (.return_, 1) := by decide +kernel
theorem dX5_addPart_0 : decode cX5_addPart 0 = .ok (.iload_n 2, 1) := by decide +kernel
theorem dX5_addPart_1 : decode cX5_addPart 1 = .ok (.iconst 0, 1) := by decide +kernel
theorem dX5_addPart_2 : decode cX5_addPart 2 = .ok (.invokestatic 40, 3) := by decide +kernel
theorem dX5_addPart_5 : decode cX5_addPart 5 = .ok (.istore 4, 2) := by decide +kernel
theorem dX5_addPart_7 : decode cX5_addPart 7 = .ok (.iload 4, 2) := by decide +kernel
theorem dX5_addPart_9 : decode cX5_addPart 9 = .ok (.iload_n 3, 1) := by decide +kernel
theorem dX5_addPart_10 : decode cX5_addPart 10 = .ok (.if_icmp .ge 29, 3) := by decide +kernel
theorem dX5_addPart_13 : decode cX5_addPart 13 = .ok (.iload 4, 2) := by decide +kernel
theorem dX5_addPart_15 : decode cX5_addPart 15 = .ok (.aload_n 1, 1) := by decide +kernel
theorem dX5_addPart_16 : decode cX5_addPart 16 = .ok (.getfield 13, 3) := by decide +kernel
theorem dX5_addPart_19 : decode cX5_addPart 19 = .ok (.if_icmp .ge 20, 3) := by decide +kernel
theorem dX5_addPart_22 : decode cX5_addPart 22 = .ok (.aload_n 0, 1) := by decide +kernel
theorem dX5_addPart_23 : decode cX5_addPart 23 = .ok (.aload_n 1, 1) := by decide +kernel
theorem dX5_addPart_24 : decode cX5_addPart 24 = .ok (.getfield 9, 3) := by decide +kernel
theorem dX5_addPart_27 : decode cX5_addPart 27 = .ok (.iload 4, 2) := by decide +kernel
theorem dX5_addPart_29 : decode cX5_addPart 29 = .ok (.caload, 1) := by decide +kernel
theorem dX5_addPart_30 : decode cX5_addPart 30 = .ok (.invokevirtual 32, 3) := by decide +kernel
theorem dX5_addPart_33 : decode cX5_addPart 33 = .ok (.iinc 4 1, 3) := by decide +kernel
theorem dX5_addPart_36 : decode cX5_addPart 36 = .ok (.goto (-29), 3) := by decide +kernel
theorem dX5_addPart_39 : decode cX5_addPart 39 = .ok (.return_, 1) := by decide +kernel
theorem dX5_addNumber_0 : decode cX5_addNumber 0 = .ok (.iload_n 1, 1) := by decide +kernel
theorem dX5_addNumber_1 : decode cX5_addNumber 1 = .ok (.bipush 10, 2) := by decide +kernel
theorem dX5_addNumber_3 : decode cX5_addNumber 3 = .ok (.if_icmp .lt 14, 3) := by decide +kernel
theorem dX5_addNumber_6 : decode cX5_addNumber 6 = .ok (.aload_n 0, 1) := by decide +kernel
theorem dX5_addNumber_7 : decode cX5_addNumber 7 = .ok (.bipush 48, 2) := by decide +kernel
theorem dX5_addNumber_9 : decode cX5_addNumber 9 = .ok (.iload_n 1, 1) := by decide +kernel
theorem dX5_addNumber_10 : decode cX5_addNumber 10 = .ok (.bipush 10, 2) := by decide +kernel
theorem dX5_addNumber_12 : decode cX5_addNumber 12 = .ok (.idiv, 1) := by decide +kernel
theorem dX5_addNumber_13 : decode cX5_addNumber 13 = .ok (.iadd, 1) := by decide +kernel
theorem dX5_addNumber_14 : decode cX5_addNumber 14 = .ok (.invokevirtual 32, 3) := by decide +kernel
theorem dX5_addNumber_17 : decode cX5_addNumber 17 = .ok (.aload_n 0, 1) := by decide +kernel
theorem dX5_addNumber_18 : decode cX5_addNumber 18 = .ok (.bipush 48, 2) := by decide +kernel
theorem dX5_addNumber_20 : decode cX5_addNumber 20 = .ok (.iload_n 1, 1) := by decide +kernel
theorem dX5_addNumber_21 : decode cX5_addNumber 21 = .ok (.bipush 10, 2) := by decide +kernel
theorem dX5_addNumber_23 : decode cX5_addNumber 23 = .ok (.irem, 1) := by decide +kernel
theorem dX5_addNumber_24 : decode cX5_addNumber 24 = .ok (.iadd, 1) := by decide +kernel
theorem dX5_addNumber_25 : decode cX5_addNumber 25 = .ok (.invokevirtual 32, 3) := by decide +kernel
theorem dX5_addNumber_28 : decode cX5_addNumber 28 = .ok (.return_, 1) := by decide +kernel
theorem dX5_fold_0 : decode cX5_fold 0 = .ok (.iconst 0, 1) := by decide +kernel
theorem dX5_fold_1 : decode cX5_fold 1 = .ok (.istore_n 1, 1) := by decide +kernel
theorem dX5_fold_2 : decode cX5_fold 2 = .ok (.iload_n 1, 1) := by decide +kernel
theorem dX5_fold_3 : decode cX5_fold 3 = .ok (.aload_n 0, 1) := by decide +kernel
theorem dX5_fold_4 : decode cX5_fold 4 = .ok (.getfield 13, 3) := by decide +kernel
theorem dX5_fold_7 : decode cX5_fold 7 = .ok (.if_icmp .ge 25, 3) := by decide +kernel
theorem dX5_fold_10 : decode cX5_fold 10 = .ok (.aload_n 0, 1) := by decide +kernel
theorem dX5_fold_11 : decode cX5_fold 11 = .ok (.getfield 9, 3) := by decide +kernel
theorem dX5_fold_14 : decode cX5_fold 14 = .ok (.iload_n 1, 1) := by decide +kernel
theorem dX5_fold_15 : decode cX5_fold 15 = .ok (.aload_n 0, 1) := by decide +kernel
theorem dX5_fold_16 : decode cX5_fold 16 = .ok (.getfield 9, 3) := by decide +kernel
theorem dX5_fold_19 : decode cX5_fold 19 = .ok (.iload_n 1, 1) := by decide +kernel
theorem dX5_fold_20 : decode cX5_fold 20 = .ok (.caload, 1) := by decide +kernel
theorem dX5_fold_21 : decode cX5_fold 21 = .ok (.invokestatic 46, 3) := by decide +kernel
theorem dX5_fold_24 : decode cX5_fold 24 = .ok (.i2c, 1) := by decide +kernel
theorem dX5_fold_25 : decode cX5_fold 25 = .ok (.castore, 1) := by decide +kernel
theorem dX5_fold_26 : decode cX5_fold 26 = .ok (.iinc 1 1, 3) := by decide +kernel
theorem dX5_fold_29 : decode cX5_fold 29 = .ok (.goto (-27), 3) := by decide +kernel
theorem dX5_fold_32 : decode cX5_fold 32 = .ok (.return_, 1) := by decide +kernel
theorem dX5_comparedTo_0 : decode cX5_comparedTo 0 = .ok (.aload_n 0, 1) := by decide +kernel
theorem dX5_comparedTo_1 : decode cX5_comparedTo 1 = .ok (.getfield 13, 3) := by decide +kernel
theorem dX5_comparedTo_4 : decode cX5_comparedTo 4 = .ok (.aload_n 1, 1) := by decide +kernel
theorem dX5_comparedTo_5 : decode cX5_comparedTo 5 = .ok (.getfield 13, 3) := by decide +kernel
theorem dX5_comparedTo_8 : decode cX5_comparedTo 8 = .ok (.invokestatic 52, 3) := by decide +kernel
theorem dX5_comparedTo_11 : decode cX5_comparedTo 11 = .ok (.istore_n 2, 1) := by decide +kernel
theorem dX5_comparedTo_12 : decode cX5_comparedTo 12 = .ok (.iconst 0, 1) := by decide +kernel
theorem dX5_comparedTo_13 : decode cX5_comparedTo 13 = .ok (.istore_n 3, 1) := by decide +kernel
theorem dX5_comparedTo_14 : decode cX5_comparedTo 14 = .ok (.iload_n 3, 1) := by decide +kernel
theorem dX5_comparedTo_15 : decode cX5_comparedTo 15 = .ok (.iload_n 2, 1) := by decide +kernel
theorem dX5_comparedTo_16 : decode cX5_comparedTo 16 = .ok (.if_icmp .ge 38, 3) := by decide +kernel
theorem dX5_comparedTo_19 : decode cX5_comparedTo 19 = .ok (.aload_n 0, 1) := by decide +kernel
theorem dX5_comparedTo_20 : decode cX5_comparedTo 20 = .ok (.getfield 9, 3) := by decide +kernel
theorem dX5_comparedTo_23 : decode cX5_comparedTo 23 = .ok (.iload_n 3, 1) := by decide +kernel
theorem dX5_comparedTo_24 : decode cX5_comparedTo 24 = .ok (.caload, 1) := by decide +kernel
theorem dX5_comparedTo_25 : decode cX5_comparedTo 25 = .ok (.aload_n 1, 1) := by decide +kernel
theorem dX5_comparedTo_26 : decode cX5_comparedTo 26 = .ok (.getfield 9, 3) := by decide +kernel
theorem dX5_comparedTo_29 : decode cX5_comparedTo 29 = .ok (.iload_n 3, 1) := by decide +kernel
theorem dX5_comparedTo_30 : decode cX5_comparedTo 30 = .ok (.caload, 1) := by decide +kernel
theorem dX5_comparedTo_31 : decode cX5_comparedTo 31 = .ok (.if_icmp .eq 17, 3) := by decide +kernel
theorem dX5_comparedTo_34 : decode cX5_comparedTo 34 = .ok (.aload_n 0, 1) := by decide +kernel
theorem dX5_comparedTo_35 : decode cX5_comparedTo 35 = .ok (.getfield 9, 3) := by decide +kernel
theorem dX5_comparedTo_38 : decode cX5_comparedTo 38 = .ok (.iload_n 3, 1) := by decide +kernel
theorem dX5_comparedTo_39 : decode cX5_comparedTo 39 = .ok (.caload, 1) := by decide +kernel
theorem dX5_comparedTo_40 : decode cX5_comparedTo 40 = .ok (.aload_n 1, 1) := by decide +kernel
theorem dX5_comparedTo_41 : decode cX5_comparedTo 41 = .ok (.getfield 9, 3) := by decide +kernel
theorem dX5_comparedTo_44 : decode cX5_comparedTo 44 = .ok (.iload_n 3, 1) := by decide +kernel
theorem dX5_comparedTo_45 : decode cX5_comparedTo 45 = .ok (.caload, 1) := by decide +kernel
theorem dX5_comparedTo_46 : decode cX5_comparedTo 46 = .ok (.isub, 1) := by decide +kernel
theorem dX5_comparedTo_47 : decode cX5_comparedTo 47 = .ok (.ireturn, 1) := by decide +kernel
theorem dX5_comparedTo_48 : decode cX5_comparedTo 48 = .ok (.iinc 3 1, 3) := by decide +kernel
theorem dX5_comparedTo_51 : decode cX5_comparedTo 51 = .ok (.goto (-37), 3) := by decide +kernel
theorem dX5_comparedTo_54 : decode cX5_comparedTo 54 = .ok (.aload_n 0, 1) := by decide +kernel
theorem dX5_comparedTo_55 : decode cX5_comparedTo 55 = .ok (.getfield 13, 3) := by decide +kernel
theorem dX5_comparedTo_58 : decode cX5_comparedTo 58 = .ok (.aload_n 1, 1) := by decide +kernel
theorem dX5_comparedTo_59 : decode cX5_comparedTo 59 = .ok (.getfield 13, 3) := by decide +kernel
theorem dX5_comparedTo_62 : decode cX5_comparedTo 62 = .ok (.isub, 1) := by decide +kernel
theorem dX5_comparedTo_63 : decode cX5_comparedTo 63 = .ok (.ireturn, 1) := by decide +kernel
theorem dX5_sameAs_0 : decode cX5_sameAs 0 = .ok (.aload_n 0, 1) := by decide +kernel
theorem dX5_sameAs_1 : decode cX5_sameAs 1 = .ok (.getfield 13, 3) := by decide +kernel
theorem dX5_sameAs_4 : decode cX5_sameAs 4 = .ok (.aload_n 1, 1) := by decide +kernel
theorem dX5_sameAs_5 : decode cX5_sameAs 5 = .ok (.getfield 13, 3) := by decide +kernel
theorem dX5_sameAs_8 : decode cX5_sameAs 8 = .ok (.if_icmp .ne 15, 3) := by decide +kernel
theorem dX5_sameAs_11 : decode cX5_sameAs 11 = .ok (.aload_n 0, 1) := by decide +kernel
theorem dX5_sameAs_12 : decode cX5_sameAs 12 = .ok (.aload_n 1, 1) := by decide +kernel
theorem dX5_sameAs_13 : decode cX5_sameAs 13 = .ok (.invokevirtual 55, 3) := by decide +kernel
theorem dX5_sameAs_16 : decode cX5_sameAs 16 = .ok (.ifCond .ne 7, 3) := by decide +kernel
theorem dX5_sameAs_19 : decode cX5_sameAs 19 = .ok (.iconst 1, 1) := by decide +kernel
theorem dX5_sameAs_20 : decode cX5_sameAs 20 = .ok (.goto 4, 3) := by decide +kernel
theorem dX5_sameAs_23 : decode cX5_sameAs 23 = .ok (.iconst 0, 1) := by decide +kernel
theorem dX5_sameAs_24 : decode cX5_sameAs 24 = .ok (.ireturn, 1) := by decide +kernel
theorem dX6_init_0 : decode cX6_init 0 = .ok (.aload_n 0, 1) := by decide +kernel
theorem dX6_init_1 : decode cX6_init 1 = .ok (.invokespecial 3, 3) := by decide +kernel
theorem dX6_init_4 : decode cX6_init 4 = .ok (.aload_n 0, 1) := by decide +kernel
theorem dX6_init_5 : decode cX6_init 5 = .ok (.new 9, 3) := by decide +kernel
theorem dX6_init_8 : decode cX6_init 8 = .ok (.dup, 1) := by decide +kernel
theorem dX6_init_9 : decode cX6_init 9 = .ok (.invokespecial 11, 3) := by decide +kernel
theorem dX6_init_12 : decode cX6_init 12 = .ok (.putfield 12, 3) := by decide +kernel
theorem dX6_init_15 : decode cX6_init 15 = .ok (.aload_n 0, 1) := by decide +kernel
theorem dX6_init_16 : decode cX6_init 16 = .ok (.new 9, 3) := by decide +kernel
theorem dX6_init_19 : decode cX6_init 19 = .ok (.dup, 1) := by decide +kernel
theorem dX6_init_20 : decode cX6_init 20 = .ok (.invokespecial 11, 3) := by decide +kernel
theorem dX6_init_23 : decode cX6_init 23 = .ok (.putfield 16, 3) := by decide +kernel
theorem dX6_init_26 : decode cX6_init 26 = .ok (.aload_n 0, 1) := by decide +kernel
theorem dX6_init_27 : decode cX6_init 27 = .ok (.iconst 0, 1) := by decide +kernel
theorem dX6_init_28 : decode cX6_init 28 = .ok (.putfield 19, 3) := by decide +kernel
theorem dX6_init_31 : decode cX6_init 31 = .ok (.aload_n 0, 1) := by decide +kernel
theorem dX6_init_32 : decode cX6_init 32 = .ok (.iconst 0, 1) := by decide +kernel
theorem dX6_init_33 : decode cX6_init 33 = .ok (.putfield 23, 3) := by decide +kernel
theorem dX6_init_36 : decode cX6_init 36 = .ok (.aload_n 0, 1) := by decide +kernel
theorem dX6_init_37 : decode cX6_init 37 = .ok (.new 26, 3) := by decide +kernel
theorem dX6_init_40 : decode cX6_init 40 = .ok (.dup, 1) := by decide +kernel
theorem dX6_init_41 : decode cX6_init 41 = .ok (.invokespecial 28, 3) := by decide +kernel
theorem dX6_init_44 : decode cX6_init 44 = .ok (.putfield 29, 3) := by decide +kernel
theorem dX6_init_47 : decode cX6_init 47 = .ok (.aload_n 0, 1) := by decide +kernel
theorem dX6_init_48 : decode cX6_init 48 = .ok (.new 33, 3) := by decide +kernel
theorem dX6_init_51 : decode cX6_init 51 = .ok (.dup, 1) := by decide +kernel
theorem dX6_init_52 : decode cX6_init 52 = .ok (.invokespecial 35, 3) := by decide +kernel
theorem dX6_init_55 : decode cX6_init 55 = .ok (.putfield 36, 3) := by decide +kernel
theorem dX6_init_58 : decode cX6_init 58 = .ok (.aload_n 0, 1) := by decide +kernel
theorem dX6_init_59 : decode cX6_init 59 = .ok (.new 40, 3) := by decide +kernel
theorem dX6_init_62 : decode cX6_init 62 = .ok (.dup, 1) := by decide +kernel
theorem dX6_init_63 : decode cX6_init 63 = .ok (.invokespecial 42, 3) := by decide +kernel
theorem dX6_init_66 : decode cX6_init 66 = .ok (.putfield 43, 3) := by decide +kernel
theorem dX6_init_69 : decode cX6_init 69 = .ok (.aload_n 0, 1) := by decide +kernel
theorem dX6_init_70 : decode cX6_init 70 = .ok (.new 33, 3) := by decide +kernel
theorem dX6_init_73 : decode cX6_init 73 = .ok (.dup, 1) := by decide +kernel
theorem dX6_init_74 : decode cX6_init 74 = .ok (.invokespecial 35, 3) := by decide +kernel
theorem dX6_init_77 : decode cX6_init 77 = .ok (.putfield 47, 3) := by decide +kernel
theorem dX6_init_80 : decode cX6_init 80 = .ok (.return_, 1) := by decide +kernel
theorem dX6_entry_0 : decode cX6_entry 0 = .ok (.aload_n 0, 1) := by decide +kernel
theorem dX6_entry_1 : decode cX6_entry 1 = .ok (.getfield 12, 3) := by decide +kernel
theorem dX6_entry_4 : decode cX6_entry 4 = .ok (.invokevirtual 50, 3) := by decide +kernel
theorem dX6_entry_7 : decode cX6_entry 7 = .ok (.istore_n 2, 1) := by decide +kernel
theorem dX6_entry_8 : decode cX6_entry 8 = .ok (.iload_n 2, 1) := by decide +kernel
theorem dX6_entry_9 : decode cX6_entry 9 = .ok (.bipush 24, 2) := by decide +kernel
theorem dX6_entry_11 : decode cX6_entry 11 = .ok (.if_icmp .lt 13, 3) := by decide +kernel
theorem dX6_entry_14 : decode cX6_entry 14 = .ok (.new 54, 3) := by decide +kernel
theorem dX6_entry_17 : decode cX6_entry 17 = .ok (.dup, 1) := by decide +kernel
theorem dX6_entry_18 : decode cX6_entry 18 = .ok (.ldc 56, 2) := by decide +kernel
theorem dX6_entry_20 : decode cX6_entry 20 = .ok (.invokespecial 58, 3) := by decide +kernel
theorem dX6_entry_23 : decode cX6_entry 23 = .ok (.athrow, 1) := by decide +kernel
theorem dX6_entry_24 : decode cX6_entry 24 = .ok (.aload_n 0, 1) := by decide +kernel
theorem dX6_entry_25 : decode cX6_entry 25 = .ok (.getfield 12, 3) := by decide +kernel
theorem dX6_entry_28 : decode cX6_entry 28 = .ok (.new 61, 3) := by decide +kernel
theorem dX6_entry_31 : decode cX6_entry 31 = .ok (.dup, 1) := by decide +kernel
theorem dX6_entry_32 : decode cX6_entry 32 = .ok (.iload_n 2, 1) := by decide +kernel
theorem dX6_entry_33 : decode cX6_entry 33 = .ok (.iload_n 1, 1) := by decide +kernel
theorem dX6_entry_34 : decode cX6_entry 34 = .ok (.invokespecial 63, 3) := by decide +kernel
theorem dX6_entry_37 : decode cX6_entry 37 = .ok (.invokevirtual 66, 3) := by decide +kernel
theorem dX6_entry_40 : decode cX6_entry 40 = .ok (.pop, 1) := by decide +kernel
theorem dX6_entry_41 : decode cX6_entry 41 = .ok (.iload_n 2, 1) := by decide +kernel
theorem dX6_entry_42 : decode cX6_entry 42 = .ok (.ireturn, 1) := by decide +kernel
theorem dX6_key_0 : decode cX6_key 0 = .ok (.aload_n 0, 1) := by decide +kernel
theorem dX6_key_1 : decode cX6_key 1 = .ok (.iload_n 1, 1) := by decide +kernel
theorem dX6_key_2 : decode cX6_key 2 = .ok (.invokevirtual 70, 3) := by decide +kernel
theorem dX6_key_5 : decode cX6_key 5 = .ok (.getfield 74, 3) := by decide +kernel
theorem dX6_key_8 : decode cX6_key 8 = .ok (.iload_n 2, 1) := by decide +kernel
theorem dX6_key_9 : decode cX6_key 9 = .ok (.bipush 16, 2) := by decide +kernel
theorem dX6_key_11 : decode cX6_key 11 = .ok (.invokestatic 77, 3) := by decide +kernel
theorem dX6_key_14 : decode cX6_key 14 = .ok (.return_, 1) := by decide +kernel
theorem dX6_field_0 : decode cX6_field 0 = .ok (.aload_n 0, 1) := by decide +kernel
theorem dX6_field_1 : decode cX6_field 1 = .ok (.iload_n 1, 1) := by decide +kernel
theorem dX6_field_2 : decode cX6_field 2 = .ok (.invokevirtual 70, 3) := by decide +kernel
theorem dX6_field_5 : decode cX6_field 5 = .ok (.astore 4, 2) := by decide +kernel
theorem dX6_field_7 : decode cX6_field 7 = .ok (.iload_n 2, 1) := by decide +kernel
theorem dX6_field_8 : decode cX6_field 8 = .ok (.ifCond .lt 9, 3) := by decide +kernel
theorem dX6_field_11 : decode cX6_field 11 = .ok (.iload_n 2, 1) := by decide +kernel
theorem dX6_field_12 : decode cX6_field 12 = .ok (.bipush 8, 2) := by decide +kernel
theorem dX6_field_14 : decode cX6_field 14 = .ok (.if_icmp .lt 13, 3) := by decide +kernel
theorem dX6_field_17 : decode cX6_field 17 = .ok (.new 81, 3) := by decide +kernel
theorem dX6_field_20 : decode cX6_field 20 = .ok (.dup, 1) := by decide +kernel
theorem dX6_field_21 : decode cX6_field 21 = .ok (.ldc 83, 2) := by decide +kernel
theorem dX6_field_23 : decode cX6_field 23 = .ok (.invokespecial 85, 3) := by decide +kernel
theorem dX6_field_26 : decode cX6_field 26 = .ok (.athrow, 1) := by decide +kernel
theorem dX6_field_27 : decode cX6_field 27 = .ok (.aload 4, 2) := by decide +kernel
theorem dX6_field_29 : decode cX6_field 29 = .ok (.iload_n 2, 1) := by decide +kernel
theorem dX6_field_30 : decode cX6_field 30 = .ok (.invokevirtual 86, 3) := by decide +kernel
theorem dX6_field_33 : decode cX6_field 33 = .ok (.iload_n 3, 1) := by decide +kernel
theorem dX6_field_34 : decode cX6_field 34 = .ok (.bipush 80, 2) := by decide +kernel
theorem dX6_field_36 : decode cX6_field 36 = .ok (.invokestatic 77, 3) := by decide +kernel
theorem dX6_field_39 : decode cX6_field 39 = .ok (.return_, 1) := by decide +kernel
theorem dX6_cite_0 : decode cX6_cite 0 = .ok (.aload_n 0, 1) := by decide +kernel
theorem dX6_cite_1 : decode cX6_cite 1 = .ok (.iload_n 1, 1) := by decide +kernel
theorem dX6_cite_2 : decode cX6_cite 2 = .ok (.invokevirtual 70, 3) := by decide +kernel
theorem dX6_cite_5 : decode cX6_cite 5 = .ok (.astore_n 2, 1) := by decide +kernel
theorem dX6_cite_6 : decode cX6_cite 6 = .ok (.aload_n 0, 1) := by decide +kernel
theorem dX6_cite_7 : decode cX6_cite 7 = .ok (.getfield 16, 3) := by decide +kernel
theorem dX6_cite_10 : decode cX6_cite 10 = .ok (.invokevirtual 50, 3) := by decide +kernel
theorem dX6_cite_13 : decode cX6_cite 13 = .ok (.bipush 60, 2) := by decide +kernel
theorem dX6_cite_15 : decode cX6_cite 15 = .ok (.if_icmp .lt 13, 3) := by decide +kernel
theorem dX6_cite_18 : decode cX6_cite 18 = .ok (.new 54, 3) := by decide +kernel
theorem dX6_cite_21 : decode cX6_cite 21 = .ok (.dup, 1) := by decide +kernel
theorem dX6_cite_22 : decode cX6_cite 22 = .ok (.ldc 90, 2) := by decide +kernel
theorem dX6_cite_24 : decode cX6_cite 24 = .ok (.invokespecial 58, 3) := by decide +kernel
theorem dX6_cite_27 : decode cX6_cite 27 = .ok (.athrow, 1) := by decide +kernel
theorem dX6_cite_28 : decode cX6_cite 28 = .ok (.aload_n 0, 1) := by decide +kernel
theorem dX6_cite_29 : decode cX6_cite 29 = .ok (.getfield 16, 3) := by decide +kernel
theorem dX6_cite_32 : decode cX6_cite 32 = .ok (.aload_n 2, 1) := by decide +kernel
theorem dX6_cite_33 : decode cX6_cite 33 = .ok (.invokevirtual 66, 3) := by decide +kernel
theorem dX6_cite_36 : decode cX6_cite 36 = .ok (.pop, 1) := by decide +kernel
theorem dX6_cite_37 : decode cX6_cite 37 = .ok (.aload_n 0, 1) := by decide +kernel
theorem dX6_cite_38 : decode cX6_cite 38 = .ok (.getfield 16, 3) := by decide +kernel
theorem dX6_cite_41 : decode cX6_cite 41 = .ok (.invokevirtual 50, 3) := by decide +kernel
theorem dX6_cite_44 : decode cX6_cite 44 = .ok (.ireturn, 1) := by decide +kernel
theorem dX6_cross_0 : decode cX6_cross 0 = .ok (.aload_n 0, 1) := by decide +kernel
theorem dX6_cross_1 : decode cX6_cross 1 = .ok (.iload_n 1, 1) := by decide +kernel
theorem dX6_cross_2 : decode cX6_cross 2 = .ok (.invokevirtual 70, 3) := by decide +kernel
theorem dX6_cross_5 : decode cX6_cross 5 = .ok (.astore_n 3, 1) := by decide +kernel
theorem dX6_cross_6 : decode cX6_cross 6 = .ok (.aload_n 0, 1) := by decide +kernel
theorem dX6_cross_7 : decode cX6_cross 7 = .ok (.iload_n 2, 1) := by decide +kernel
theorem dX6_cross_8 : decode cX6_cross 8 = .ok (.invokevirtual 70, 3) := by decide +kernel
theorem dX6_cross_11 : decode cX6_cross 11 = .ok (.astore 4, 2) := by decide +kernel
theorem dX6_cross_13 : decode cX6_cross 13 = .ok (.aload 4, 2) := by decide +kernel
theorem dX6_cross_15 : decode cX6_cross 15 = .ok (.aload_n 3, 1) := by decide +kernel
theorem dX6_cross_16 : decode cX6_cross 16 = .ok (.invokevirtual 92, 3) := by decide +kernel
theorem dX6_cross_19 : decode cX6_cross 19 = .ok (.ifCond .eq 5, 3) := by decide +kernel
theorem dX6_cross_22 : decode cX6_cross 22 = .ok (.iconst 0, 1) := by decide +kernel
theorem dX6_cross_23 : decode cX6_cross 23 = .ok (.ireturn, 1) := by decide +kernel
theorem dX6_cross_24 : decode cX6_cross 24 = .ok (.aload_n 3, 1) := by decide +kernel
theorem dX6_cross_25 : decode cX6_cross 25 = .ok (.aload 4, 2) := by decide +kernel
theorem dX6_cross_27 : decode cX6_cross 27 = .ok (.putfield 96, 3) := by decide +kernel
theorem dX6_cross_30 : decode cX6_cross 30 = .ok (.iconst 1, 1) := by decide +kernel
theorem dX6_cross_31 : decode cX6_cross 31 = .ok (.ireturn, 1) := by decide +kernel
theorem dX6_style_0 : decode cX6_style 0 = .ok (.iload_n 1, 1) := by decide +kernel
theorem dX6_style_1 : decode cX6_style 1 = .ok (.ifCond .lt 17, 3) := by decide +kernel
theorem dX6_style_4 : decode cX6_style 4 = .ok (.iload_n 1, 1) := by decide +kernel
theorem dX6_style_5 : decode cX6_style 5 = .ok (.iconst 2, 1) := by decide +kernel
theorem dX6_style_6 : decode cX6_style 6 = .ok (.if_icmp .gt 12, 3) := by decide +kernel
theorem dX6_style_9 : decode cX6_style 9 = .ok (.iload_n 2, 1) := by decide +kernel
theorem dX6_style_10 : decode cX6_style 10 = .ok (.ifCond .lt 8, 3) := by decide +kernel
theorem dX6_style_13 : decode cX6_style 13 = .ok (.iload_n 2, 1) := by decide +kernel
theorem dX6_style_14 : decode cX6_style 14 = .ok (.iconst 2, 1) := by decide +kernel
theorem dX6_style_15 : decode cX6_style 15 = .ok (.if_icmp .le 13, 3) := by decide +kernel
theorem dX6_style_18 : decode cX6_style 18 = .ok (.new 100, 3) := by decide +kernel
theorem dX6_style_21 : decode cX6_style 21 = .ok (.dup, 1) := by decide +kernel
theorem dX6_style_22 : decode cX6_style 22 = .ok (.ldc 102, 2) := by decide +kernel
theorem dX6_style_24 : decode cX6_style 24 = .ok (.invokespecial 104, 3) := by decide +kernel
theorem dX6_style_27 : decode cX6_style 27 = .ok (.athrow, 1) := by decide +kernel
theorem dX6_style_28 : decode cX6_style 28 = .ok (.bipush 10, 2) := by decide +kernel
theorem dX6_style_30 : decode cX6_style 30 = .ok (.aload_n 0, 1) := by decide +kernel
theorem dX6_style_31 : decode cX6_style 31 = .ok (.getfield 19, 3) := by decide +kernel
theorem dX6_style_34 : decode cX6_style 34 = .ok (.imul, 1) := by decide +kernel
theorem dX6_style_35 : decode cX6_style 35 = .ok (.aload_n 0, 1) := by decide +kernel
theorem dX6_style_36 : decode cX6_style 36 = .ok (.getfield 23, 3) := by decide +kernel
theorem dX6_style_39 : decode cX6_style 39 = .ok (.iadd, 1) := by decide +kernel
theorem dX6_style_40 : decode cX6_style 40 = .ok (.istore_n 3, 1) := by decide +kernel
theorem dX6_style_41 : decode cX6_style 41 = .ok (.aload_n 0, 1) := by decide +kernel
theorem dX6_style_42 : decode cX6_style 42 = .ok (.iload_n 1, 1) := by decide +kernel
theorem dX6_style_43 : decode cX6_style 43 = .ok (.putfield 19, 3) := by decide +kernel
theorem dX6_style_46 : decode cX6_style 46 = .ok (.aload_n 0, 1) := by decide +kernel
theorem dX6_style_47 : decode cX6_style 47 = .ok (.iload_n 2, 1) := by decide +kernel
theorem dX6_style_48 : decode cX6_style 48 = .ok (.putfield 23, 3) := by decide +kernel
theorem dX6_style_51 : decode cX6_style 51 = .ok (.iload_n 3, 1) := by decide +kernel
theorem dX6_style_52 : decode cX6_style 52 = .ok (.ireturn, 1) := by decide +kernel
theorem dX6_run_0 : decode cX6_run 0 = .ok (.aload_n 0, 1) := by decide +kernel
theorem dX6_run_1 : decode cX6_run 1 = .ok (.getfield 29, 3) := by decide +kernel
theorem dX6_run_4 : decode cX6_run 4 = .ok (.invokevirtual 105, 3) := by decide +kernel
theorem dX6_run_7 : decode cX6_run 7 = .ok (.iconst 0, 1) := by decide +kernel
theorem dX6_run_8 : decode cX6_run 8 = .ok (.istore_n 1, 1) := by decide +kernel
theorem dX6_run_9 : decode cX6_run 9 = .ok (.iload_n 1, 1) := by decide +kernel
theorem dX6_run_10 : decode cX6_run 10 = .ok (.aload_n 0, 1) := by decide +kernel
theorem dX6_run_11 : decode cX6_run 11 = .ok (.getfield 16, 3) := by decide +kernel
theorem dX6_run_14 : decode cX6_run 14 = .ok (.invokevirtual 50, 3) := by decide +kernel
theorem dX6_run_17 : decode cX6_run 17 = .ok (.if_icmp .ge 31, 3) := by decide +kernel
theorem dX6_run_20 : decode cX6_run 20 = .ok (.aload_n 0, 1) := by decide +kernel
theorem dX6_run_21 : decode cX6_run 21 = .ok (.getfield 29, 3) := by decide +kernel
theorem dX6_run_24 : decode cX6_run 24 = .ok (.aload_n 0, 1) := by decide +kernel
theorem dX6_run_25 : decode cX6_run 25 = .ok (.aload_n 0, 1) := by decide +kernel
theorem dX6_run_26 : decode cX6_run 26 = .ok (.getfield 16, 3) := by decide +kernel
theorem dX6_run_29 : decode cX6_run 29 = .ok (.iload_n 1, 1) := by decide +kernel
theorem dX6_run_30 : decode cX6_run 30 = .ok (.invokevirtual 108, 3) := by decide +kernel
theorem dX6_run_33 : decode cX6_run 33 = .ok (.checkcast 61, 3) := by decide +kernel
theorem dX6_run_36 : decode cX6_run 36 = .ok (.invokevirtual 112, 3) := by decide +kernel
theorem dX6_run_39 : decode cX6_run 39 = .ok (.invokevirtual 116, 3) := by decide +kernel
theorem dX6_run_42 : decode cX6_run 42 = .ok (.iinc 1 1, 3) := by decide +kernel
theorem dX6_run_45 : decode cX6_run 45 = .ok (.goto (-36), 3) := by decide +kernel
theorem dX6_run_48 : decode cX6_run 48 = .ok (.aload_n 0, 1) := by decide +kernel
theorem dX6_run_49 : decode cX6_run 49 = .ok (.getfield 29, 3) := by decide +kernel
theorem dX6_run_52 : decode cX6_run 52 = .ok (.aload_n 0, 1) := by decide +kernel
theorem dX6_run_53 : decode cX6_run 53 = .ok (.getfield 19, 3) := by decide +kernel
theorem dX6_run_56 : decode cX6_run 56 = .ok (.invokevirtual 120, 3) := by decide +kernel
theorem dX6_run_59 : decode cX6_run 59 = .ok (.aload_n 0, 1) := by decide +kernel
theorem dX6_run_60 : decode cX6_run 60 = .ok (.getfield 29, 3) := by decide +kernel
theorem dX6_run_63 : decode cX6_run 63 = .ok (.aload_n 0, 1) := by decide +kernel
theorem dX6_run_64 : decode cX6_run 64 = .ok (.getfield 23, 3) := by decide +kernel
theorem dX6_run_67 : decode cX6_run 67 = .ok (.invokevirtual 124, 3) := by decide +kernel
theorem dX6_run_70 : decode cX6_run 70 = .ok (.aload_n 0, 1) := by decide +kernel
theorem dX6_run_71 : decode cX6_run 71 = .ok (.getfield 29, 3) := by decide +kernel
theorem dX6_run_74 : decode cX6_run 74 = .ok (.invokevirtual 127, 3) := by decide +kernel
theorem dX6_run_77 : decode cX6_run 77 = .ok (.iconst 0, 1) := by decide +kernel
theorem dX6_run_78 : decode cX6_run 78 = .ok (.istore_n 1, 1) := by decide +kernel
theorem dX6_run_79 : decode cX6_run 79 = .ok (.iload_n 1, 1) := by decide +kernel
theorem dX6_run_80 : decode cX6_run 80 = .ok (.aload_n 0, 1) := by decide +kernel
theorem dX6_run_81 : decode cX6_run 81 = .ok (.getfield 29, 3) := by decide +kernel
theorem dX6_run_84 : decode cX6_run 84 = .ok (.invokevirtual 130, 3) := by decide +kernel
theorem dX6_run_87 : decode cX6_run 87 = .ok (.if_icmp .ge 25, 3) := by decide +kernel
theorem dX6_run_90 : decode cX6_run 90 = .ok (.aload_n 0, 1) := by decide +kernel
theorem dX6_run_91 : decode cX6_run 91 = .ok (.getfield 29, 3) := by decide +kernel
theorem dX6_run_94 : decode cX6_run 94 = .ok (.iload_n 1, 1) := by decide +kernel
theorem dX6_run_95 : decode cX6_run 95 = .ok (.invokevirtual 131, 3) := by decide +kernel
theorem dX6_run_98 : decode cX6_run 98 = .ok (.aload_n 0, 1) := by decide +kernel
theorem dX6_run_99 : decode cX6_run 99 = .ok (.getfield 23, 3) := by decide +kernel
theorem dX6_run_102 : decode cX6_run 102 = .ok (.iload_n 1, 1) := by decide +kernel
theorem dX6_run_103 : decode cX6_run 103 = .ok (.invokevirtual 134, 3) := by decide +kernel
theorem dX6_run_106 : decode cX6_run 106 = .ok (.iinc 1 1, 3) := by decide +kernel
theorem dX6_run_109 : decode cX6_run 109 = .ok (.goto (-30), 3) := by decide +kernel
theorem dX6_run_112 : decode cX6_run 112 = .ok (.aload_n 0, 1) := by decide +kernel
theorem dX6_run_113 : decode cX6_run 113 = .ok (.getfield 29, 3) := by decide +kernel
theorem dX6_run_116 : decode cX6_run 116 = .ok (.invokevirtual 139, 3) := by decide +kernel
theorem dX6_run_119 : decode cX6_run 119 = .ok (.aload_n 0, 1) := by decide +kernel
theorem dX6_run_120 : decode cX6_run 120 = .ok (.getfield 29, 3) := by decide +kernel
theorem dX6_run_123 : decode cX6_run 123 = .ok (.invokevirtual 130, 3) := by decide +kernel
theorem dX6_run_126 : decode cX6_run 126 = .ok (.ireturn, 1) := by decide +kernel
theorem dX6_row_0 : decode cX6_row 0 = .ok (.aload_n 0, 1) := by decide +kernel
theorem dX6_row_1 : decode cX6_row 1 = .ok (.iload_n 1, 1) := by decide +kernel
theorem dX6_row_2 : decode cX6_row 2 = .ok (.invokevirtual 142, 3) := by decide +kernel
theorem dX6_row_5 : decode cX6_row 5 = .ok (.getfield 145, 3) := by decide +kernel
theorem dX6_row_8 : decode cX6_row 8 = .ok (.getfield 148, 3) := by decide +kernel
theorem dX6_row_11 : decode cX6_row 11 = .ok (.ireturn, 1) := by decide +kernel
theorem dX6_letter_0 : decode cX6_letter 0 = .ok (.aload_n 0, 1) := by decide +kernel
theorem dX6_letter_1 : decode cX6_letter 1 = .ok (.iload_n 1, 1) := by decide +kernel
theorem dX6_letter_2 : decode cX6_letter 2 = .ok (.invokevirtual 142, 3) := by decide +kernel
theorem dX6_letter_5 : decode cX6_letter 5 = .ok (.getfield 151, 3) := by decide +kernel
theorem dX6_letter_8 : decode cX6_letter 8 = .ok (.ireturn, 1) := by decide +kernel
theorem dX6_initials_0 : decode cX6_initials 0 = .ok (.aload_n 0, 1) := by decide +kernel
theorem dX6_initials_1 : decode cX6_initials 1 = .ok (.getfield 43, 3) := by decide +kernel
theorem dX6_initials_4 : decode cX6_initials 4 = .ok (.aload_n 0, 1) := by decide +kernel
theorem dX6_initials_5 : decode cX6_initials 5 = .ok (.iload_n 1, 1) := by decide +kernel
theorem dX6_initials_6 : decode cX6_initials 6 = .ok (.invokevirtual 70, 3) := by decide +kernel
theorem dX6_initials_9 : decode cX6_initials 9 = .ok (.iconst 0, 1) := by decide +kernel
theorem dX6_initials_10 : decode cX6_initials 10 = .ok (.invokevirtual 154, 3) := by decide +kernel
theorem dX6_initials_13 : decode cX6_initials 13 = .ok (.invokevirtual 157, 3) := by decide +kernel
theorem dX6_initials_16 : decode cX6_initials 16 = .ok (.iload_n 2, 1) := by decide +kernel
theorem dX6_initials_17 : decode cX6_initials 17 = .ok (.ifCond .lt 14, 3) := by decide +kernel
theorem dX6_initials_20 : decode cX6_initials 20 = .ok (.iload_n 2, 1) := by decide +kernel
theorem dX6_initials_21 : decode cX6_initials 21 = .ok (.aload_n 0, 1) := by decide +kernel
theorem dX6_initials_22 : decode cX6_initials 22 = .ok (.getfield 43, 3) := by decide +kernel
theorem dX6_initials_25 : decode cX6_initials 25 = .ok (.invokevirtual 161, 3) := by decide +kernel
theorem dX6_initials_28 : decode cX6_initials 28 = .ok (.if_icmp .lt 13, 3) := by decide +kernel
theorem dX6_initials_31 : decode cX6_initials 31 = .ok (.new 81, 3) := by decide +kernel
theorem dX6_initials_34 : decode cX6_initials 34 = .ok (.dup, 1) := by decide +kernel
theorem dX6_initials_35 : decode cX6_initials 35 = .ok (.ldc 162, 2) := by decide +kernel
theorem dX6_initials_37 : decode cX6_initials 37 = .ok (.invokespecial 85, 3) := by decide +kernel
theorem dX6_initials_40 : decode cX6_initials 40 = .ok (.athrow, 1) := by decide +kernel
theorem dX6_initials_41 : decode cX6_initials 41 = .ok (.aload_n 0, 1) := by decide +kernel
theorem dX6_initials_42 : decode cX6_initials 42 = .ok (.getfield 47, 3) := by decide +kernel
theorem dX6_initials_45 : decode cX6_initials 45 = .ok (.invokevirtual 164, 3) := by decide +kernel
theorem dX6_initials_48 : decode cX6_initials 48 = .ok (.aload_n 0, 1) := by decide +kernel
theorem dX6_initials_49 : decode cX6_initials 49 = .ok (.getfield 43, 3) := by decide +kernel
theorem dX6_initials_52 : decode cX6_initials 52 = .ok (.iload_n 2, 1) := by decide +kernel
theorem dX6_initials_53 : decode cX6_initials 53 = .ok (.aload_n 0, 1) := by decide +kernel
theorem dX6_initials_54 : decode cX6_initials 54 = .ok (.getfield 47, 3) := by decide +kernel
theorem dX6_initials_57 : decode cX6_initials 57 = .ok (.invokevirtual 167, 3) := by decide +kernel
theorem dX6_initials_60 : decode cX6_initials 60 = .ok (.iload_n 3, 1) := by decide +kernel
theorem dX6_initials_61 : decode cX6_initials 61 = .ok (.iconst (-1), 1) := by decide +kernel
theorem dX6_initials_62 : decode cX6_initials 62 = .ok (.if_icmp .ne 13, 3) := by decide +kernel
theorem dX6_initials_65 : decode cX6_initials 65 = .ok (.aload_n 0, 1) := by decide +kernel
theorem dX6_initials_66 : decode cX6_initials 66 = .ok (.getfield 47, 3) := by decide +kernel
theorem dX6_initials_69 : decode cX6_initials 69 = .ok (.invokevirtual 171, 3) := by decide +kernel
theorem dX6_initials_72 : decode cX6_initials 72 = .ok (.goto 11, 3) := by decide +kernel
theorem dX6_initials_75 : decode cX6_initials 75 = .ok (.aload_n 0, 1) := by decide +kernel
theorem dX6_initials_76 : decode cX6_initials 76 = .ok (.getfield 47, 3) := by decide +kernel
theorem dX6_initials_79 : decode cX6_initials 79 = .ok (.iload_n 3, 1) := by decide +kernel
theorem dX6_initials_80 : decode cX6_initials 80 = .ok (.invokestatic 172, 3) := by decide +kernel
theorem dX6_initials_83 : decode cX6_initials 83 = .ok (.ireturn, 1) := by decide +kernel
theorem dX6_missing_0 : decode cX6_missing 0 = .ok (.iload_n 1, 1) := by decide +kernel
theorem dX6_missing_1 : decode cX6_missing 1 = .ok (.iconst (-1), 1) := by decide +kernel
theorem dX6_missing_2 : decode cX6_missing 2 = .ok (.if_icmp .ne 11, 3) := by decide +kernel
theorem dX6_missing_5 : decode cX6_missing 5 = .ok (.aload_n 0, 1) := by decide +kernel
theorem dX6_missing_6 : decode cX6_missing 6 = .ok (.getfield 29, 3) := by decide +kernel
theorem dX6_missing_9 : decode cX6_missing 9 = .ok (.getfield 176, 3) := by decide +kernel
theorem dX6_missing_12 : decode cX6_missing 12 = .ok (.ireturn, 1) := by decide +kernel
theorem dX6_missing_13 : decode cX6_missing 13 = .ok (.iload_n 1, 1) := by decide +kernel
theorem dX6_missing_14 : decode cX6_missing 14 = .ok (.ifCond .lt 23, 3) := by decide +kernel
theorem dX6_missing_17 : decode cX6_missing 17 = .ok (.iload_n 1, 1) := by decide +kernel
theorem dX6_missing_18 : decode cX6_missing 18 = .ok (.aload_n 0, 1) := by decide +kernel
theorem dX6_missing_19 : decode cX6_missing 19 = .ok (.getfield 29, 3) := by decide +kernel
theorem dX6_missing_22 : decode cX6_missing 22 = .ok (.getfield 176, 3) := by decide +kernel
theorem dX6_missing_25 : decode cX6_missing 25 = .ok (.if_icmp .ge 12, 3) := by decide +kernel
theorem dX6_missing_28 : decode cX6_missing 28 = .ok (.iload_n 2, 1) := by decide +kernel
theorem dX6_missing_29 : decode cX6_missing 29 = .ok (.ifCond .lt 8, 3) := by decide +kernel
theorem dX6_missing_32 : decode cX6_missing 32 = .ok (.iload_n 2, 1) := by decide +kernel
theorem dX6_missing_33 : decode cX6_missing 33 = .ok (.iconst 1, 1) := by decide +kernel
theorem dX6_missing_34 : decode cX6_missing 34 = .ok (.if_icmp .le 13, 3) := by decide +kernel
theorem dX6_missing_37 : decode cX6_missing 37 = .ok (.new 81, 3) := by decide +kernel
theorem dX6_missing_40 : decode cX6_missing 40 = .ok (.dup, 1) := by decide +kernel
theorem dX6_missing_41 : decode cX6_missing 41 = .ok (.ldc 179, 2) := by decide +kernel
theorem dX6_missing_43 : decode cX6_missing 43 = .ok (.invokespecial 85, 3) := by decide +kernel
theorem dX6_missing_46 : decode cX6_missing 46 = .ok (.athrow, 1) := by decide +kernel
theorem dX6_missing_47 : decode cX6_missing 47 = .ok (.iload_n 2, 1) := by decide +kernel
theorem dX6_missing_48 : decode cX6_missing 48 = .ok (.ifCond .ne 15, 3) := by decide +kernel
theorem dX6_missing_51 : decode cX6_missing 51 = .ok (.aload_n 0, 1) := by decide +kernel
theorem dX6_missing_52 : decode cX6_missing 52 = .ok (.getfield 29, 3) := by decide +kernel
theorem dX6_missing_55 : decode cX6_missing 55 = .ok (.getfield 181, 3) := by decide +kernel
theorem dX6_missing_58 : decode cX6_missing 58 = .ok (.iload_n 1, 1) := by decide +kernel
theorem dX6_missing_59 : decode cX6_missing 59 = .ok (.iaload, 1) := by decide +kernel
theorem dX6_missing_60 : decode cX6_missing 60 = .ok (.goto 12, 3) := by decide +kernel
theorem dX6_missing_63 : decode cX6_missing 63 = .ok (.aload_n 0, 1) := by decide +kernel
theorem dX6_missing_64 : decode cX6_missing 64 = .ok (.getfield 29, 3) := by decide +kernel
theorem dX6_missing_67 : decode cX6_missing 67 = .ok (.getfield 185, 3) := by decide +kernel
theorem dX6_missing_70 : decode cX6_missing 70 = .ok (.iload_n 1, 1) := by decide +kernel
theorem dX6_missing_71 : decode cX6_missing 71 = .ok (.iaload, 1) := by decide +kernel
theorem dX6_missing_72 : decode cX6_missing 72 = .ok (.ireturn, 1) := by decide +kernel
theorem dX6_print_0 : decode cX6_print 0 = .ok (.iload_n 1, 1) := by decide +kernel
theorem dX6_print_1 : decode cX6_print 1 = .ok (.iconst (-1), 1) := by decide +kernel
theorem dX6_print_2 : decode cX6_print 2 = .ok (.if_icmp .ne 10, 3) := by decide +kernel
theorem dX6_print_5 : decode cX6_print 5 = .ok (.aload_n 0, 1) := by decide +kernel
theorem dX6_print_6 : decode cX6_print 6 = .ok (.invokevirtual 188, 3) := by decide +kernel
theorem dX6_print_9 : decode cX6_print 9 = .ok (.goto 27, 3) := by decide +kernel
theorem dX6_print_12 : decode cX6_print 12 = .ok (.aload_n 0, 1) := by decide +kernel
theorem dX6_print_13 : decode cX6_print 13 = .ok (.iload_n 1, 1) := by decide +kernel
theorem dX6_print_14 : decode cX6_print 14 = .ok (.invokevirtual 142, 3) := by decide +kernel
theorem dX6_print_17 : decode cX6_print 17 = .ok (.getfield 191, 3) := by decide +kernel
theorem dX6_print_20 : decode cX6_print 20 = .ok (.astore_n 2, 1) := by decide +kernel
theorem dX6_print_21 : decode cX6_print 21 = .ok (.aload_n 0, 1) := by decide +kernel
theorem dX6_print_22 : decode cX6_print 22 = .ok (.getfield 36, 3) := by decide +kernel
theorem dX6_print_25 : decode cX6_print 25 = .ok (.invokevirtual 164, 3) := by decide +kernel
theorem dX6_print_28 : decode cX6_print 28 = .ok (.aload_n 0, 1) := by decide +kernel
theorem dX6_print_29 : decode cX6_print 29 = .ok (.getfield 36, 3) := by decide +kernel
theorem dX6_print_32 : decode cX6_print 32 = .ok (.aload_n 2, 1) := by decide +kernel
theorem dX6_print_33 : decode cX6_print 33 = .ok (.invokevirtual 194, 3) := by decide +kernel
theorem dX6_print_36 : decode cX6_print 36 = .ok (.aload_n 0, 1) := by decide +kernel
theorem dX6_print_37 : decode cX6_print 37 = .ok (.getfield 36, 3) := by decide +kernel
theorem dX6_print_40 : decode cX6_print 40 = .ok (.invokevirtual 171, 3) := by decide +kernel
theorem dX6_print_43 : decode cX6_print 43 = .ok (.ireturn, 1) := by decide +kernel
theorem dX6_at_0 : decode cX6_at 0 = .ok (.aload_n 0, 1) := by decide +kernel
theorem dX6_at_1 : decode cX6_at 1 = .ok (.getfield 36, 3) := by decide +kernel
theorem dX6_at_4 : decode cX6_at 4 = .ok (.iload_n 1, 1) := by decide +kernel
theorem dX6_at_5 : decode cX6_at 5 = .ok (.invokestatic 172, 3) := by decide +kernel
theorem dX6_at_8 : decode cX6_at 8 = .ok (.ireturn, 1) := by decide +kernel
theorem dX6_twice_0 : decode cX6_twice 0 = .ok (.iconst 0, 1) := by decide +kernel
theorem dX6_twice_1 : decode cX6_twice 1 = .ok (.istore_n 2, 1) := by decide +kernel
theorem dX6_twice_2 : decode cX6_twice 2 = .ok (.iconst 0, 1) := by decide +kernel
theorem dX6_twice_3 : decode cX6_twice 3 = .ok (.istore_n 3, 1) := by decide +kernel
theorem dX6_twice_4 : decode cX6_twice 4 = .ok (.iload_n 3, 1) := by decide +kernel
theorem dX6_twice_5 : decode cX6_twice 5 = .ok (.aload_n 0, 1) := by decide +kernel
theorem dX6_twice_6 : decode cX6_twice 6 = .ok (.getfield 12, 3) := by decide +kernel
theorem dX6_twice_9 : decode cX6_twice 9 = .ok (.invokevirtual 50, 3) := by decide +kernel
theorem dX6_twice_12 : decode cX6_twice 12 = .ok (.if_icmp .ge 43, 3) := by decide +kernel
theorem dX6_twice_15 : decode cX6_twice 15 = .ok (.aload_n 0, 1) := by decide +kernel
theorem dX6_twice_16 : decode cX6_twice 16 = .ok (.getfield 12, 3) := by decide +kernel
theorem dX6_twice_19 : decode cX6_twice 19 = .ok (.iload_n 3, 1) := by decide +kernel
theorem dX6_twice_20 : decode cX6_twice 20 = .ok (.invokevirtual 108, 3) := by decide +kernel
theorem dX6_twice_23 : decode cX6_twice 23 = .ok (.checkcast 61, 3) := by decide +kernel
theorem dX6_twice_26 : decode cX6_twice 26 = .ok (.astore 4, 2) := by decide +kernel
theorem dX6_twice_28 : decode cX6_twice 28 = .ok (.aload_n 0, 1) := by decide +kernel
theorem dX6_twice_29 : decode cX6_twice 29 = .ok (.aload 4, 2) := by decide +kernel
theorem dX6_twice_31 : decode cX6_twice 31 = .ok (.invokevirtual 112, 3) := by decide +kernel
theorem dX6_twice_34 : decode cX6_twice 34 = .ok (.aload 4, 2) := by decide +kernel
theorem dX6_twice_36 : decode cX6_twice 36 = .ok (.if_acmp .eq 13, 3) := by decide +kernel
theorem dX6_twice_39 : decode cX6_twice 39 = .ok (.iload_n 2, 1) := by decide +kernel
theorem dX6_twice_40 : decode cX6_twice 40 = .ok (.iload_n 1, 1) := by decide +kernel
theorem dX6_twice_41 : decode cX6_twice 41 = .ok (.if_icmp .ne 5, 3) := by decide +kernel
theorem dX6_twice_44 : decode cX6_twice 44 = .ok (.iload_n 3, 1) := by decide +kernel
theorem dX6_twice_45 : decode cX6_twice 45 = .ok (.ireturn, 1) := by decide +kernel
theorem dX6_twice_46 : decode cX6_twice 46 = .ok (.iinc 2 1, 3) := by decide +kernel
theorem dX6_twice_49 : decode cX6_twice 49 = .ok (.iinc 3 1, 3) := by decide +kernel
theorem dX6_twice_52 : decode cX6_twice 52 = .ok (.goto (-48), 3) := by decide +kernel
theorem dX6_twice_55 : decode cX6_twice 55 = .ok (.iload_n 1, 1) := by decide +kernel
theorem dX6_twice_56 : decode cX6_twice 56 = .ok (.iconst (-1), 1) := by decide +kernel
theorem dX6_twice_57 : decode cX6_twice 57 = .ok (.if_icmp .eq 13, 3) := by decide +kernel
theorem dX6_twice_60 : decode cX6_twice 60 = .ok (.new 81, 3) := by decide +kernel
theorem dX6_twice_63 : decode cX6_twice 63 = .ok (.dup, 1) := by decide +kernel
theorem dX6_twice_64 : decode cX6_twice 64 = .ok (.ldc 197, 2) := by decide +kernel
theorem dX6_twice_66 : decode cX6_twice 66 = .ok (.invokespecial 85, 3) := by decide +kernel
theorem dX6_twice_69 : decode cX6_twice 69 = .ok (.athrow, 1) := by decide +kernel
theorem dX6_twice_70 : decode cX6_twice 70 = .ok (.iload_n 2, 1) := by decide +kernel
theorem dX6_twice_71 : decode cX6_twice 71 = .ok (.ireturn, 1) := by decide +kernel
theorem dX6_entryNumbered_0 : decode cX6_entryNumbered 0 = .ok (.iload_n 1, 1) := by decide +kernel
theorem dX6_entryNumbered_1 : decode cX6_entryNumbered 1 = .ok (.ifCond .lt 14, 3) := by decide +kernel
theorem dX6_entryNumbered_4 : decode cX6_entryNumbered 4 = .ok (.iload_n 1, 1) := by decide +kernel
theorem dX6_entryNumbered_5 : decode cX6_entryNumbered 5 = .ok (.aload_n 0, 1) := by decide +kernel
theorem dX6_entryNumbered_6 : decode cX6_entryNumbered 6 = .ok (.getfield 12, 3) := by decide +kernel
theorem dX6_entryNumbered_9 : decode cX6_entryNumbered 9 = .ok (.invokevirtual 50, 3) := by decide +kernel
theorem dX6_entryNumbered_12 : decode cX6_entryNumbered 12 = .ok (.if_icmp .lt 13, 3) := by decide +kernel
theorem dX6_entryNumbered_15 : decode cX6_entryNumbered 15 = .ok (.new 199, 3) := by decide +kernel
theorem dX6_entryNumbered_18 : decode cX6_entryNumbered 18 = .ok (.dup, 1) := by decide +kernel
theorem dX6_entryNumbered_19 : decode cX6_entryNumbered 19 = .ok (.ldc 201, 2) := by decide +kernel
theorem dX6_entryNumbered_21 : decode cX6_entryNumbered 21 = .ok (.invokespecial 203, 3) := by decide +kernel
theorem dX6_entryNumbered_24 : decode cX6_entryNumbered 24 = .ok (.athrow, 1) := by decide +kernel
theorem dX6_entryNumbered_25 : decode cX6_entryNumbered 25 = .ok (.aload_n 0, 1) := by decide +kernel
theorem dX6_entryNumbered_26 : decode cX6_entryNumbered 26 = .ok (.getfield 12, 3) := by decide +kernel
theorem dX6_entryNumbered_29 : decode cX6_entryNumbered 29 = .ok (.iload_n 1, 1) := by decide +kernel
theorem dX6_entryNumbered_30 : decode cX6_entryNumbered 30 = .ok (.invokevirtual 108, 3) := by decide +kernel
theorem dX6_entryNumbered_33 : decode cX6_entryNumbered 33 = .ok (.checkcast 61, 3) := by decide +kernel
theorem dX6_entryNumbered_36 : decode cX6_entryNumbered 36 = .ok (.areturn, 1) := by decide +kernel
theorem dX6_rowAt_0 : decode cX6_rowAt 0 = .ok (.iload_n 1, 1) := by decide +kernel
theorem dX6_rowAt_1 : decode cX6_rowAt 1 = .ok (.ifCond .lt 14, 3) := by decide +kernel
theorem dX6_rowAt_4 : decode cX6_rowAt 4 = .ok (.iload_n 1, 1) := by decide +kernel
