theorem dX0_init_0 : decode cX0_init 0 = .ok (.aload_n 0, 1) := by decide +kernel
theorem dX0_init_1 : decode cX0_init 1 = .ok (.invokespecial 3, 3) := by decide +kernel
theorem dX0_init_4 : decode cX0_init 4 = .ok (.aload_n 0, 1) := by decide +kernel
theorem dX0_init_5 : decode cX0_init 5 = .ok (.new 9, 3) := by decide +kernel
theorem dX0_init_8 : decode cX0_init 8 = .ok (.dup, 1) := by decide +kernel
theorem dX0_init_9 : decode cX0_init 9 = .ok (.invokespecial 11, 3) := by decide +kernel
theorem dX0_init_12 : decode cX0_init 12 = .ok (.putfield 12, 3) := by decide +kernel
theorem dX0_init_15 : decode cX0_init 15 = .ok (.aload_n 0, 1) := by decide +kernel
theorem dX0_init_16 : decode cX0_init 16 = .ok (.bipush 8, 2) := by decide +kernel
theorem dX0_init_18 : decode cX0_init 18 = .ok (.anewarray 9, 3) := by decide +kernel
theorem dX0_init_21 : decode cX0_init 21 = .ok (.putfield 18, 3) := by decide +kernel
theorem dX0_init_24 : decode cX0_init 24 = .ok (.aload_n 0, 1) := by decide +kernel
theorem dX0_init_25 : decode cX0_init 25 = .ok (.aconst_null, 1) := by decide +kernel
theorem dX0_init_26 : decode cX0_init 26 = .ok (.putfield 22, 3) := by decide +kernel
theorem dX0_init_29 : decode cX0_init 29 = .ok (.aload_n 0, 1) := by decide +kernel
theorem dX0_init_30 : decode cX0_init 30 = .ok (.iload_n 1, 1) := by decide +kernel
theorem dX0_init_31 : decode cX0_init 31 = .ok (.putfield 26, 3) := by decide +kernel
theorem dX0_init_34 : decode cX0_init 34 = .ok (.aload_n 0, 1) := by decide +kernel
theorem dX0_init_35 : decode cX0_init 35 = .ok (.iload_n 2, 1) := by decide +kernel
theorem dX0_init_36 : decode cX0_init 36 = .ok (.ifCond .lt 8, 3) := by decide +kernel
theorem dX0_init_39 : decode cX0_init 39 = .ok (.iload_n 2, 1) := by decide +kernel
theorem dX0_init_40 : decode cX0_init 40 = .ok (.iconst 4, 1) := by decide +kernel
theorem dX0_init_41 : decode cX0_init 41 = .ok (.if_icmp .le 7, 3) := by decide +kernel
theorem dX0_init_44 : decode cX0_init 44 = .ok (.iconst 4, 1) := by decide +kernel
theorem dX0_init_45 : decode cX0_init 45 = .ok (.goto 4, 3) := by decide +kernel
theorem dX0_init_48 : decode cX0_init 48 = .ok (.iload_n 2, 1) := by decide +kernel
theorem dX0_init_49 : decode cX0_init 49 = .ok (.putfield 30, 3) := by decide +kernel
theorem dX0_init_52 : decode cX0_init 52 = .ok (.iconst 0, 1) := by decide +kernel
theorem dX0_init_53 : decode cX0_init 53 = .ok (.istore_n 3, 1) := by decide +kernel
theorem dX0_init_54 : decode cX0_init 54 = .ok (.iload_n 3, 1) := by decide +kernel
theorem dX0_init_55 : decode cX0_init 55 = .ok (.bipush 8, 2) := by decide +kernel
theorem dX0_init_57 : decode cX0_init 57 = .ok (.if_icmp .ge 22, 3) := by decide +kernel
theorem dX0_init_60 : decode cX0_init 60 = .ok (.aload_n 0, 1) := by decide +kernel
theorem dX0_init_61 : decode cX0_init 61 = .ok (.getfield 18, 3) := by decide +kernel
theorem dX0_init_64 : decode cX0_init 64 = .ok (.iload_n 3, 1) := by decide +kernel
theorem dX0_init_65 : decode cX0_init 65 = .ok (.new 9, 3) := by decide +kernel
theorem dX0_init_68 : decode cX0_init 68 = .ok (.dup, 1) := by decide +kernel
theorem dX0_init_69 : decode cX0_init 69 = .ok (.invokespecial 11, 3) := by decide +kernel
theorem dX0_init_72 : decode cX0_init 72 = .ok (.aastore, 1) := by decide +kernel
theorem dX0_init_73 : decode cX0_init 73 = .ok (.iinc 3 1, 3) := by decide +kernel
theorem dX0_init_76 : decode cX0_init 76 = .ok (.goto (-22), 3) := by decide +kernel
theorem dX0_init_79 : decode cX0_init 79 = .ok (.return_, 1) := by decide +kernel
theorem dX0_own_0 : decode cX0_own 0 = .ok (.aload_n 0, 1) := by decide +kernel
theorem dX0_own_1 : decode cX0_own 1 = .ok (.getfield 18, 3) := by decide +kernel
theorem dX0_own_4 : decode cX0_own 4 = .ok (.iload_n 1, 1) := by decide +kernel
theorem dX0_own_5 : decode cX0_own 5 = .ok (.bipush 7, 2) := by decide +kernel
theorem dX0_own_7 : decode cX0_own 7 = .ok (.iand, 1) := by decide +kernel
theorem dX0_own_8 : decode cX0_own 8 = .ok (.aaload, 1) := by decide +kernel
theorem dX0_own_9 : decode cX0_own 9 = .ok (.areturn, 1) := by decide +kernel
theorem dX0_has_0 : decode cX0_has 0 = .ok (.aload_n 0, 1) := by decide +kernel
theorem dX0_has_1 : decode cX0_has 1 = .ok (.iload_n 1, 1) := by decide +kernel
theorem dX0_has_2 : decode cX0_has 2 = .ok (.invokevirtual 33, 3) := by decide +kernel
theorem dX0_has_5 : decode cX0_has 5 = .ok (.invokevirtual 37, 3) := by decide +kernel
theorem dX0_has_8 : decode cX0_has 8 = .ok (.ifCond .ne 7, 3) := by decide +kernel
theorem dX0_has_11 : decode cX0_has 11 = .ok (.iconst 1, 1) := by decide +kernel
theorem dX0_has_12 : decode cX0_has 12 = .ok (.goto 4, 3) := by decide +kernel
theorem dX0_has_15 : decode cX0_has 15 = .ok (.iconst 0, 1) := by decide +kernel
theorem dX0_has_16 : decode cX0_has 16 = .ok (.ireturn, 1) := by decide +kernel
theorem dX0_value_0 : decode cX0_value 0 = .ok (.aload_n 0, 1) := by decide +kernel
theorem dX0_value_1 : decode cX0_value 1 = .ok (.iload_n 1, 1) := by decide +kernel
theorem dX0_value_2 : decode cX0_value 2 = .ok (.invokevirtual 41, 3) := by decide +kernel
theorem dX0_value_5 : decode cX0_value 5 = .ok (.astore_n 2, 1) := by decide +kernel
theorem dX0_value_6 : decode cX0_value 6 = .ok (.aload_n 0, 1) := by decide +kernel
theorem dX0_value_7 : decode cX0_value 7 = .ok (.getfield 22, 3) := by decide +kernel
theorem dX0_value_10 : decode cX0_value 10 = .ok (.astore_n 3, 1) := by decide +kernel
theorem dX0_value_11 : decode cX0_value 11 = .ok (.iconst 0, 1) := by decide +kernel
theorem dX0_value_12 : decode cX0_value 12 = .ok (.istore 4, 2) := by decide +kernel
theorem dX0_value_14 : decode cX0_value 14 = .ok (.iload 4, 2) := by decide +kernel
theorem dX0_value_16 : decode cX0_value 16 = .ok (.bipush 24, 2) := by decide +kernel
theorem dX0_value_18 : decode cX0_value 18 = .ok (.if_icmp .ge 72, 3) := by decide +kernel
theorem dX0_value_21 : decode cX0_value 21 = .ok (.iload_n 1, 1) := by decide +kernel
theorem dX0_value_22 : decode cX0_value 22 = .ok (.iconst 1, 1) := by decide +kernel
theorem dX0_value_23 : decode cX0_value 23 = .ok (.if_icmp .eq 67, 3) := by decide +kernel
theorem dX0_value_26 : decode cX0_value 26 = .ok (.aload_n 3, 1) := by decide +kernel
theorem dX0_value_27 : decode cX0_value 27 = .ok (.ifnull 63, 3) := by decide +kernel
theorem dX0_value_30 : decode cX0_value 30 = .ok (.aload_n 2, 1) := by decide +kernel
theorem dX0_value_31 : decode cX0_value 31 = .ok (.invokevirtual 37, 3) := by decide +kernel
theorem dX0_value_34 : decode cX0_value 34 = .ok (.ifCond .ne 6, 3) := by decide +kernel
theorem dX0_value_37 : decode cX0_value 37 = .ok (.goto 53, 3) := by decide +kernel
theorem dX0_value_40 : decode cX0_value 40 = .ok (.iload_n 1, 1) := by decide +kernel
theorem dX0_value_41 : decode cX0_value 41 = .ok (.bipush 6, 2) := by decide +kernel
theorem dX0_value_43 : decode cX0_value 43 = .ok (.if_icmp .ne 18, 3) := by decide +kernel
theorem dX0_value_46 : decode cX0_value 46 = .ok (.aload_n 3, 1) := by decide +kernel
theorem dX0_value_47 : decode cX0_value 47 = .ok (.iconst 1, 1) := by decide +kernel
theorem dX0_value_48 : decode cX0_value 48 = .ok (.invokevirtual 41, 3) := by decide +kernel
theorem dX0_value_51 : decode cX0_value 51 = .ok (.invokevirtual 37, 3) := by decide +kernel
theorem dX0_value_54 : decode cX0_value 54 = .ok (.ifCond .ne 7, 3) := by decide +kernel
theorem dX0_value_57 : decode cX0_value 57 = .ok (.iconst 1, 1) := by decide +kernel
theorem dX0_value_58 : decode cX0_value 58 = .ok (.goto 4, 3) := by decide +kernel
theorem dX0_value_61 : decode cX0_value 61 = .ok (.iconst 0, 1) := by decide +kernel
theorem dX0_value_62 : decode cX0_value 62 = .ok (.istore 5, 2) := by decide +kernel
theorem dX0_value_64 : decode cX0_value 64 = .ok (.aload_n 3, 1) := by decide +kernel
theorem dX0_value_65 : decode cX0_value 65 = .ok (.iload 5, 2) := by decide +kernel
theorem dX0_value_67 : decode cX0_value 67 = .ok (.ifCond .eq 7, 3) := by decide +kernel
theorem dX0_value_70 : decode cX0_value 70 = .ok (.iconst 1, 1) := by decide +kernel
theorem dX0_value_71 : decode cX0_value 71 = .ok (.goto 4, 3) := by decide +kernel
theorem dX0_value_74 : decode cX0_value 74 = .ok (.iload_n 1, 1) := by decide +kernel
theorem dX0_value_75 : decode cX0_value 75 = .ok (.invokevirtual 41, 3) := by decide +kernel
theorem dX0_value_78 : decode cX0_value 78 = .ok (.astore_n 2, 1) := by decide +kernel
theorem dX0_value_79 : decode cX0_value 79 = .ok (.aload_n 3, 1) := by decide +kernel
theorem dX0_value_80 : decode cX0_value 80 = .ok (.getfield 22, 3) := by decide +kernel
theorem dX0_value_83 : decode cX0_value 83 = .ok (.astore_n 3, 1) := by decide +kernel
theorem dX0_value_84 : decode cX0_value 84 = .ok (.iinc 4 1, 3) := by decide +kernel
theorem dX0_value_87 : decode cX0_value 87 = .ok (.goto (-73), 3) := by decide +kernel
theorem dX0_value_90 : decode cX0_value 90 = .ok (.aload_n 2, 1) := by decide +kernel
theorem dX0_value_91 : decode cX0_value 91 = .ok (.areturn, 1) := by decide +kernel
theorem dX0_leadsTo_0 : decode cX0_leadsTo 0 = .ok (.aload_n 0, 1) := by decide +kernel
theorem dX0_leadsTo_1 : decode cX0_leadsTo 1 = .ok (.astore_n 2, 1) := by decide +kernel
theorem dX0_leadsTo_2 : decode cX0_leadsTo 2 = .ok (.iconst 0, 1) := by decide +kernel
theorem dX0_leadsTo_3 : decode cX0_leadsTo 3 = .ok (.istore_n 3, 1) := by decide +kernel
theorem dX0_leadsTo_4 : decode cX0_leadsTo 4 = .ok (.iload_n 3, 1) := by decide +kernel
theorem dX0_leadsTo_5 : decode cX0_leadsTo 5 = .ok (.bipush 24, 2) := by decide +kernel
theorem dX0_leadsTo_7 : decode cX0_leadsTo 7 = .ok (.if_icmp .ge 25, 3) := by decide +kernel
theorem dX0_leadsTo_10 : decode cX0_leadsTo 10 = .ok (.aload_n 2, 1) := by decide +kernel
theorem dX0_leadsTo_11 : decode cX0_leadsTo 11 = .ok (.ifnull 21, 3) := by decide +kernel
theorem dX0_leadsTo_14 : decode cX0_leadsTo 14 = .ok (.aload_n 2, 1) := by decide +kernel
theorem dX0_leadsTo_15 : decode cX0_leadsTo 15 = .ok (.aload_n 1, 1) := by decide +kernel
theorem dX0_leadsTo_16 : decode cX0_leadsTo 16 = .ok (.if_acmp .ne 5, 3) := by decide +kernel
theorem dX0_leadsTo_19 : decode cX0_leadsTo 19 = .ok (.iconst 1, 1) := by decide +kernel
theorem dX0_leadsTo_20 : decode cX0_leadsTo 20 = .ok (.ireturn, 1) := by decide +kernel
theorem dX0_leadsTo_21 : decode cX0_leadsTo 21 = .ok (.aload_n 2, 1) := by decide +kernel
theorem dX0_leadsTo_22 : decode cX0_leadsTo 22 = .ok (.getfield 22, 3) := by decide +kernel
theorem dX0_leadsTo_25 : decode cX0_leadsTo 25 = .ok (.astore_n 2, 1) := by decide +kernel
theorem dX0_leadsTo_26 : decode cX0_leadsTo 26 = .ok (.iinc 3 1, 3) := by decide +kernel
theorem dX0_leadsTo_29 : decode cX0_leadsTo 29 = .ok (.goto (-25), 3) := by decide +kernel
theorem dX0_leadsTo_32 : decode cX0_leadsTo 32 = .ok (.iconst 0, 1) := by decide +kernel
theorem dX0_leadsTo_33 : decode cX0_leadsTo 33 = .ok (.ireturn, 1) := by decide +kernel
theorem dX1_init_0 : decode cX1_init 0 = .ok (.aload_n 0, 1) := by decide +kernel
theorem dX1_init_1 : decode cX1_init 1 = .ok (.invokespecial 3, 3) := by decide +kernel
theorem dX1_init_4 : decode cX1_init 4 = .ok (.aload_n 0, 1) := by decide +kernel
theorem dX1_init_5 : decode cX1_init 5 = .ok (.new 9, 3) := by decide +kernel
theorem dX1_init_8 : decode cX1_init 8 = .ok (.dup, 1) := by decide +kernel
theorem dX1_init_9 : decode cX1_init 9 = .ok (.invokespecial 11, 3) := by decide +kernel
theorem dX1_init_12 : decode cX1_init 12 = .ok (.putfield 12, 3) := by decide +kernel
theorem dX1_init_15 : decode cX1_init 15 = .ok (.aload_n 0, 1) := by decide +kernel
theorem dX1_init_16 : decode cX1_init 16 = .ok (.iconst 0, 1) := by decide +kernel
theorem dX1_init_17 : decode cX1_init 17 = .ok (.putfield 18, 3) := by decide +kernel
theorem dX1_init_20 : decode cX1_init 20 = .ok (.aload_n 0, 1) := by decide +kernel
theorem dX1_init_21 : decode cX1_init 21 = .ok (.iconst 0, 1) := by decide +kernel
theorem dX1_init_22 : decode cX1_init 22 = .ok (.putfield 22, 3) := by decide +kernel
theorem dX1_init_25 : decode cX1_init 25 = .ok (.aload_n 0, 1) := by decide +kernel
theorem dX1_init_26 : decode cX1_init 26 = .ok (.bipush 96, 2) := by decide +kernel
theorem dX1_init_28 : decode cX1_init 28 = .ok (.newarray .int, 2) := by decide +kernel
theorem dX1_init_30 : decode cX1_init 30 = .ok (.putfield 26, 3) := by decide +kernel
theorem dX1_init_33 : decode cX1_init 33 = .ok (.aload_n 0, 1) := by decide +kernel
theorem dX1_init_34 : decode cX1_init 34 = .ok (.bipush 96, 2) := by decide +kernel
theorem dX1_init_36 : decode cX1_init 36 = .ok (.newarray .int, 2) := by decide +kernel
theorem dX1_init_38 : decode cX1_init 38 = .ok (.putfield 30, 3) := by decide +kernel
theorem dX1_init_41 : decode cX1_init 41 = .ok (.aload_n 0, 1) := by decide +kernel
theorem dX1_init_42 : decode cX1_init 42 = .ok (.iconst 0, 1) := by decide +kernel
theorem dX1_init_43 : decode cX1_init 43 = .ok (.putfield 33, 3) := by decide +kernel
theorem dX1_init_46 : decode cX1_init 46 = .ok (.return_, 1) := by decide +kernel
theorem dX1_size_0 : decode cX1_size 0 = .ok (.aload_n 0, 1) := by decide +kernel
theorem dX1_size_1 : decode cX1_size 1 = .ok (.getfield 18, 3) := by decide +kernel
theorem dX1_size_4 : decode cX1_size 4 = .ok (.ireturn, 1) := by decide +kernel
theorem dX1_get_0 : decode cX1_get 0 = .ok (.aload_n 0, 1) := by decide +kernel
theorem dX1_get_1 : decode cX1_get 1 = .ok (.getfield 12, 3) := by decide +kernel
theorem dX1_get_4 : decode cX1_get 4 = .ok (.iload_n 1, 1) := by decide +kernel
theorem dX1_get_5 : decode cX1_get 5 = .ok (.invokevirtual 36, 3) := by decide +kernel
theorem dX1_get_8 : decode cX1_get 8 = .ok (.checkcast 40, 3) := by decide +kernel
theorem dX1_get_11 : decode cX1_get 11 = .ok (.areturn, 1) := by decide +kernel
theorem dX1_begin_0 : decode cX1_begin 0 = .ok (.aload_n 0, 1) := by decide +kernel
theorem dX1_begin_1 : decode cX1_begin 1 = .ok (.iconst 1, 1) := by decide +kernel
theorem dX1_begin_2 : decode cX1_begin 2 = .ok (.putfield 22, 3) := by decide +kernel
theorem dX1_begin_5 : decode cX1_begin 5 = .ok (.aload_n 0, 1) := by decide +kernel
theorem dX1_begin_6 : decode cX1_begin 6 = .ok (.iconst 0, 1) := by decide +kernel
theorem dX1_begin_7 : decode cX1_begin 7 = .ok (.putfield 18, 3) := by decide +kernel
theorem dX1_begin_10 : decode cX1_begin 10 = .ok (.return_, 1) := by decide +kernel
theorem dX1_list_0 : decode cX1_list 0 = .ok (.iconst 0, 1) := by decide +kernel
theorem dX1_list_1 : decode cX1_list 1 = .ok (.istore_n 2, 1) := by decide +kernel
theorem dX1_list_2 : decode cX1_list 2 = .ok (.iload_n 2, 1) := by decide +kernel
theorem dX1_list_3 : decode cX1_list 3 = .ok (.aload_n 0, 1) := by decide +kernel
theorem dX1_list_4 : decode cX1_list 4 = .ok (.getfield 18, 3) := by decide +kernel
theorem dX1_list_7 : decode cX1_list 7 = .ok (.if_icmp .ge 28, 3) := by decide +kernel
theorem dX1_list_10 : decode cX1_list 10 = .ok (.aload_n 0, 1) := by decide +kernel
theorem dX1_list_11 : decode cX1_list 11 = .ok (.getfield 12, 3) := by decide +kernel
theorem dX1_list_14 : decode cX1_list 14 = .ok (.iload_n 2, 1) := by decide +kernel
theorem dX1_list_15 : decode cX1_list 15 = .ok (.invokevirtual 36, 3) := by decide +kernel
theorem dX1_list_18 : decode cX1_list 18 = .ok (.checkcast 40, 3) := by decide +kernel
theorem dX1_list_21 : decode cX1_list 21 = .ok (.getfield 42, 3) := by decide +kernel
theorem dX1_list_24 : decode cX1_list 24 = .ok (.aload_n 1, 1) := by decide +kernel
theorem dX1_list_25 : decode cX1_list 25 = .ok (.if_acmp .ne 4, 3) := by decide +kernel
theorem dX1_list_28 : decode cX1_list 28 = .ok (.return_, 1) := by decide +kernel
theorem dX1_list_29 : decode cX1_list 29 = .ok (.iinc 2 1, 3) := by decide +kernel
theorem dX1_list_32 : decode cX1_list 32 = .ok (.goto (-30), 3) := by decide +kernel
theorem dX1_list_35 : decode cX1_list 35 = .ok (.aload_n 0, 1) := by decide +kernel
theorem dX1_list_36 : decode cX1_list 36 = .ok (.getfield 18, 3) := by decide +kernel
theorem dX1_list_39 : decode cX1_list 39 = .ok (.aload_n 0, 1) := by decide +kernel
theorem dX1_list_40 : decode cX1_list 40 = .ok (.getfield 12, 3) := by decide +kernel
theorem dX1_list_43 : decode cX1_list 43 = .ok (.invokevirtual 46, 3) := by decide +kernel
theorem dX1_list_46 : decode cX1_list 46 = .ok (.if_icmp .lt 19, 3) := by decide +kernel
theorem dX1_list_49 : decode cX1_list 49 = .ok (.aload_n 0, 1) := by decide +kernel
theorem dX1_list_50 : decode cX1_list 50 = .ok (.getfield 12, 3) := by decide +kernel
theorem dX1_list_53 : decode cX1_list 53 = .ok (.new 40, 3) := by decide +kernel
theorem dX1_list_56 : decode cX1_list 56 = .ok (.dup, 1) := by decide +kernel
theorem dX1_list_57 : decode cX1_list 57 = .ok (.aload_n 1, 1) := by decide +kernel
theorem dX1_list_58 : decode cX1_list 58 = .ok (.invokespecial 50, 3) := by decide +kernel
theorem dX1_list_61 : decode cX1_list 61 = .ok (.invokevirtual 53, 3) := by decide +kernel
theorem dX1_list_64 : decode cX1_list 64 = .ok (.pop, 1) := by decide +kernel
theorem dX1_list_65 : decode cX1_list 65 = .ok (.aload_n 0, 1) := by decide +kernel
theorem dX1_list_66 : decode cX1_list 66 = .ok (.getfield 12, 3) := by decide +kernel
theorem dX1_list_69 : decode cX1_list 69 = .ok (.aload_n 0, 1) := by decide +kernel
theorem dX1_list_70 : decode cX1_list 70 = .ok (.getfield 18, 3) := by decide +kernel
theorem dX1_list_73 : decode cX1_list 73 = .ok (.invokevirtual 36, 3) := by decide +kernel
theorem dX1_list_76 : decode cX1_list 76 = .ok (.checkcast 40, 3) := by decide +kernel
theorem dX1_list_79 : decode cX1_list 79 = .ok (.aload_n 1, 1) := by decide +kernel
theorem dX1_list_80 : decode cX1_list 80 = .ok (.invokevirtual 57, 3) := by decide +kernel
theorem dX1_list_83 : decode cX1_list 83 = .ok (.aload_n 0, 1) := by decide +kernel
theorem dX1_list_84 : decode cX1_list 84 = .ok (.dup, 1) := by decide +kernel
theorem dX1_list_85 : decode cX1_list 85 = .ok (.getfield 18, 3) := by decide +kernel
theorem dX1_list_88 : decode cX1_list 88 = .ok (.iconst 1, 1) := by decide +kernel
theorem dX1_list_89 : decode cX1_list 89 = .ok (.iadd, 1) := by decide +kernel
theorem dX1_list_90 : decode cX1_list 90 = .ok (.putfield 18, 3) := by decide +kernel
theorem dX1_list_93 : decode cX1_list 93 = .ok (.return_, 1) := by decide +kernel
theorem dX1_arrange_0 : decode cX1_arrange 0 = .ok (.iload_n 1, 1) := by decide +kernel
theorem dX1_arrange_1 : decode cX1_arrange 1 = .ok (.ifCond .ne 4, 3) := by decide +kernel
theorem dX1_arrange_4 : decode cX1_arrange 4 = .ok (.return_, 1) := by decide +kernel
theorem dX1_arrange_5 : decode cX1_arrange 5 = .ok (.iconst 0, 1) := by decide +kernel
theorem dX1_arrange_6 : decode cX1_arrange 6 = .ok (.istore_n 2, 1) := by decide +kernel
theorem dX1_arrange_7 : decode cX1_arrange 7 = .ok (.iload_n 2, 1) := by decide +kernel
theorem dX1_arrange_8 : decode cX1_arrange 8 = .ok (.aload_n 0, 1) := by decide +kernel
theorem dX1_arrange_9 : decode cX1_arrange 9 = .ok (.getfield 18, 3) := by decide +kernel
theorem dX1_arrange_12 : decode cX1_arrange 12 = .ok (.if_icmp .ge 102, 3) := by decide +kernel
theorem dX1_arrange_15 : decode cX1_arrange 15 = .ok (.aload_n 0, 1) := by decide +kernel
theorem dX1_arrange_16 : decode cX1_arrange 16 = .ok (.getfield 12, 3) := by decide +kernel
theorem dX1_arrange_19 : decode cX1_arrange 19 = .ok (.iload_n 2, 1) := by decide +kernel
theorem dX1_arrange_20 : decode cX1_arrange 20 = .ok (.invokevirtual 36, 3) := by decide +kernel
theorem dX1_arrange_23 : decode cX1_arrange 23 = .ok (.checkcast 40, 3) := by decide +kernel
theorem dX1_arrange_26 : decode cX1_arrange 26 = .ok (.astore_n 3, 1) := by decide +kernel
theorem dX1_arrange_27 : decode cX1_arrange 27 = .ok (.aload_n 3, 1) := by decide +kernel
theorem dX1_arrange_28 : decode cX1_arrange 28 = .ok (.iload_n 1, 1) := by decide +kernel
theorem dX1_arrange_29 : decode cX1_arrange 29 = .ok (.invokevirtual 60, 3) := by decide +kernel
theorem dX1_arrange_32 : decode cX1_arrange 32 = .ok (.iload_n 2, 1) := by decide +kernel
theorem dX1_arrange_33 : decode cX1_arrange 33 = .ok (.istore 4, 2) := by decide +kernel
theorem dX1_arrange_35 : decode cX1_arrange 35 = .ok (.iload 4, 2) := by decide +kernel
theorem dX1_arrange_37 : decode cX1_arrange 37 = .ok (.ifCond .le 60, 3) := by decide +kernel
theorem dX1_arrange_40 : decode cX1_arrange 40 = .ok (.aload_n 0, 1) := by decide +kernel
theorem dX1_arrange_41 : decode cX1_arrange 41 = .ok (.getfield 12, 3) := by decide +kernel
theorem dX1_arrange_44 : decode cX1_arrange 44 = .ok (.iload 4, 2) := by decide +kernel
theorem dX1_arrange_46 : decode cX1_arrange 46 = .ok (.iconst 1, 1) := by decide +kernel
theorem dX1_arrange_47 : decode cX1_arrange 47 = .ok (.isub, 1) := by decide +kernel
theorem dX1_arrange_48 : decode cX1_arrange 48 = .ok (.invokevirtual 36, 3) := by decide +kernel
theorem dX1_arrange_51 : decode cX1_arrange 51 = .ok (.checkcast 40, 3) := by decide +kernel
theorem dX1_arrange_54 : decode cX1_arrange 54 = .ok (.getfield 64, 3) := by decide +kernel
theorem dX1_arrange_57 : decode cX1_arrange 57 = .ok (.aload_n 3, 1) := by decide +kernel
theorem dX1_arrange_58 : decode cX1_arrange 58 = .ok (.getfield 64, 3) := by decide +kernel
theorem dX1_arrange_61 : decode cX1_arrange 61 = .ok (.invokevirtual 68, 3) := by decide +kernel
theorem dX1_arrange_64 : decode cX1_arrange 64 = .ok (.ifCond .le 33, 3) := by decide +kernel
theorem dX1_arrange_67 : decode cX1_arrange 67 = .ok (.aload_n 0, 1) := by decide +kernel
theorem dX1_arrange_68 : decode cX1_arrange 68 = .ok (.getfield 12, 3) := by decide +kernel
theorem dX1_arrange_71 : decode cX1_arrange 71 = .ok (.iload 4, 2) := by decide +kernel
theorem dX1_arrange_73 : decode cX1_arrange 73 = .ok (.aload_n 0, 1) := by decide +kernel
theorem dX1_arrange_74 : decode cX1_arrange 74 = .ok (.getfield 12, 3) := by decide +kernel
theorem dX1_arrange_77 : decode cX1_arrange 77 = .ok (.iload 4, 2) := by decide +kernel
theorem dX1_arrange_79 : decode cX1_arrange 79 = .ok (.iconst 1, 1) := by decide +kernel
theorem dX1_arrange_80 : decode cX1_arrange 80 = .ok (.isub, 1) := by decide +kernel
theorem dX1_arrange_81 : decode cX1_arrange 81 = .ok (.invokevirtual 36, 3) := by decide +kernel
theorem dX1_arrange_84 : decode cX1_arrange 84 = .ok (.checkcast 40, 3) := by decide +kernel
theorem dX1_arrange_87 : decode cX1_arrange 87 = .ok (.invokevirtual 74, 3) := by decide +kernel
theorem dX1_arrange_90 : decode cX1_arrange 90 = .ok (.pop, 1) := by decide +kernel
theorem dX1_arrange_91 : decode cX1_arrange 91 = .ok (.iinc 4 (-1), 3) := by decide +kernel
theorem dX1_arrange_94 : decode cX1_arrange 94 = .ok (.goto (-59), 3) := by decide +kernel
theorem dX1_arrange_97 : decode cX1_arrange 97 = .ok (.aload_n 0, 1) := by decide +kernel
theorem dX1_arrange_98 : decode cX1_arrange 98 = .ok (.getfield 12, 3) := by decide +kernel
theorem dX1_arrange_101 : decode cX1_arrange 101 = .ok (.iload 4, 2) := by decide +kernel
theorem dX1_arrange_103 : decode cX1_arrange 103 = .ok (.aload_n 3, 1) := by decide +kernel
theorem dX1_arrange_104 : decode cX1_arrange 104 = .ok (.invokevirtual 74, 3) := by decide +kernel
theorem dX1_arrange_107 : decode cX1_arrange 107 = .ok (.pop, 1) := by decide +kernel
theorem dX1_arrange_108 : decode cX1_arrange 108 = .ok (.iinc 2 1, 3) := by decide +kernel
theorem dX1_arrange_111 : decode cX1_arrange 111 = .ok (.goto (-104), 3) := by decide +kernel
theorem dX1_arrange_114 : decode cX1_arrange 114 = .ok (.return_, 1) := by decide +kernel
theorem dX1_setBases_0 : decode cX1_setBases 0 = .ok (.iconst 0, 1) := by decide +kernel
theorem dX1_setBases_1 : decode cX1_setBases 1 = .ok (.istore_n 2, 1) := by decide +kernel
theorem dX1_setBases_2 : decode cX1_setBases 2 = .ok (.iload_n 2, 1) := by decide +kernel
theorem dX1_setBases_3 : decode cX1_setBases 3 = .ok (.aload_n 0, 1) := by decide +kernel
theorem dX1_setBases_4 : decode cX1_setBases 4 = .ok (.getfield 18, 3) := by decide +kernel
theorem dX1_setBases_7 : decode cX1_setBases 7 = .ok (.if_icmp .ge 39, 3) := by decide +kernel
theorem dX1_setBases_10 : decode cX1_setBases 10 = .ok (.aload_n 0, 1) := by decide +kernel
theorem dX1_setBases_11 : decode cX1_setBases 11 = .ok (.getfield 12, 3) := by decide +kernel
theorem dX1_setBases_14 : decode cX1_setBases 14 = .ok (.iload_n 2, 1) := by decide +kernel
theorem dX1_setBases_15 : decode cX1_setBases 15 = .ok (.invokevirtual 36, 3) := by decide +kernel
theorem dX1_setBases_18 : decode cX1_setBases 18 = .ok (.checkcast 40, 3) := by decide +kernel
theorem dX1_setBases_21 : decode cX1_setBases 21 = .ok (.iload_n 1, 1) := by decide +kernel
theorem dX1_setBases_22 : decode cX1_setBases 22 = .ok (.aload_n 0, 1) := by decide +kernel
theorem dX1_setBases_23 : decode cX1_setBases 23 = .ok (.aload_n 0, 1) := by decide +kernel
theorem dX1_setBases_24 : decode cX1_setBases 24 = .ok (.getfield 12, 3) := by decide +kernel
theorem dX1_setBases_27 : decode cX1_setBases 27 = .ok (.iload_n 2, 1) := by decide +kernel
theorem dX1_setBases_28 : decode cX1_setBases 28 = .ok (.invokevirtual 36, 3) := by decide +kernel
theorem dX1_setBases_31 : decode cX1_setBases 31 = .ok (.checkcast 40, 3) := by decide +kernel
theorem dX1_setBases_34 : decode cX1_setBases 34 = .ok (.invokevirtual 78, 3) := by decide +kernel
theorem dX1_setBases_37 : decode cX1_setBases 37 = .ok (.invokevirtual 82, 3) := by decide +kernel
theorem dX1_setBases_40 : decode cX1_setBases 40 = .ok (.iinc 2 1, 3) := by decide +kernel
theorem dX1_setBases_43 : decode cX1_setBases 43 = .ok (.goto (-41), 3) := by decide +kernel
theorem dX1_setBases_46 : decode cX1_setBases 46 = .ok (.return_, 1) := by decide +kernel
theorem dX1_isMistaken_0 : decode cX1_isMistaken 0 = .ok (.iconst 0, 1) := by decide +kernel
theorem dX1_isMistaken_1 : decode cX1_isMistaken 1 = .ok (.istore_n 2, 1) := by decide +kernel
theorem dX1_isMistaken_2 : decode cX1_isMistaken 2 = .ok (.iload_n 2, 1) := by decide +kernel
theorem dX1_isMistaken_3 : decode cX1_isMistaken 3 = .ok (.aload_n 0, 1) := by decide +kernel
theorem dX1_isMistaken_4 : decode cX1_isMistaken 4 = .ok (.getfield 18, 3) := by decide +kernel
theorem dX1_isMistaken_7 : decode cX1_isMistaken 7 = .ok (.if_icmp .ge 29, 3) := by decide +kernel
theorem dX1_isMistaken_10 : decode cX1_isMistaken 10 = .ok (.aload_n 1, 1) := by decide +kernel
theorem dX1_isMistaken_11 : decode cX1_isMistaken 11 = .ok (.aload_n 0, 1) := by decide +kernel
theorem dX1_isMistaken_12 : decode cX1_isMistaken 12 = .ok (.getfield 12, 3) := by decide +kernel
theorem dX1_isMistaken_15 : decode cX1_isMistaken 15 = .ok (.iload_n 2, 1) := by decide +kernel
theorem dX1_isMistaken_16 : decode cX1_isMistaken 16 = .ok (.invokevirtual 36, 3) := by decide +kernel
theorem dX1_isMistaken_19 : decode cX1_isMistaken 19 = .ok (.checkcast 40, 3) := by decide +kernel
theorem dX1_isMistaken_22 : decode cX1_isMistaken 22 = .ok (.invokevirtual 86, 3) := by decide +kernel
theorem dX1_isMistaken_25 : decode cX1_isMistaken 25 = .ok (.ifCond .eq 5, 3) := by decide +kernel
theorem dX1_isMistaken_28 : decode cX1_isMistaken 28 = .ok (.iconst 1, 1) := by decide +kernel
theorem dX1_isMistaken_29 : decode cX1_isMistaken 29 = .ok (.ireturn, 1) := by decide +kernel
theorem dX1_isMistaken_30 : decode cX1_isMistaken 30 = .ok (.iinc 2 1, 3) := by decide +kernel
theorem dX1_isMistaken_33 : decode cX1_isMistaken 33 = .ok (.goto (-31), 3) := by decide +kernel
theorem dX1_isMistaken_36 : decode cX1_isMistaken 36 = .ok (.iconst 0, 1) := by decide +kernel
theorem dX1_isMistaken_37 : decode cX1_isMistaken 37 = .ok (.ireturn, 1) := by decide +kernel
theorem dX1_setSuffixes_0 : decode cX1_setSuffixes 0 = .ok (.iconst 0, 1) := by decide +kernel
theorem dX1_setSuffixes_1 : decode cX1_setSuffixes 1 = .ok (.istore_n 1, 1) := by decide +kernel
theorem dX1_setSuffixes_2 : decode cX1_setSuffixes 2 = .ok (.iload_n 1, 1) := by decide +kernel
theorem dX1_setSuffixes_3 : decode cX1_setSuffixes 3 = .ok (.aload_n 0, 1) := by decide +kernel
theorem dX1_setSuffixes_4 : decode cX1_setSuffixes 4 = .ok (.getfield 18, 3) := by decide +kernel
theorem dX1_setSuffixes_7 : decode cX1_setSuffixes 7 = .ok (.if_icmp .ge 24, 3) := by decide +kernel
theorem dX1_setSuffixes_10 : decode cX1_setSuffixes 10 = .ok (.aload_n 0, 1) := by decide +kernel
theorem dX1_setSuffixes_11 : decode cX1_setSuffixes 11 = .ok (.getfield 12, 3) := by decide +kernel
theorem dX1_setSuffixes_14 : decode cX1_setSuffixes 14 = .ok (.iload_n 1, 1) := by decide +kernel
theorem dX1_setSuffixes_15 : decode cX1_setSuffixes 15 = .ok (.invokevirtual 36, 3) := by decide +kernel
theorem dX1_setSuffixes_18 : decode cX1_setSuffixes 18 = .ok (.checkcast 40, 3) := by decide +kernel
theorem dX1_setSuffixes_21 : decode cX1_setSuffixes 21 = .ok (.iconst 0, 1) := by decide +kernel
theorem dX1_setSuffixes_22 : decode cX1_setSuffixes 22 = .ok (.putfield 89, 3) := by decide +kernel
theorem dX1_setSuffixes_25 : decode cX1_setSuffixes 25 = .ok (.iinc 1 1, 3) := by decide +kernel
theorem dX1_setSuffixes_28 : decode cX1_setSuffixes 28 = .ok (.goto (-26), 3) := by decide +kernel
theorem dX1_setSuffixes_31 : decode cX1_setSuffixes 31 = .ok (.iconst 0, 1) := by decide +kernel
theorem dX1_setSuffixes_32 : decode cX1_setSuffixes 32 = .ok (.istore_n 1, 1) := by decide +kernel
theorem dX1_setSuffixes_33 : decode cX1_setSuffixes 33 = .ok (.iload_n 1, 1) := by decide +kernel
theorem dX1_setSuffixes_34 : decode cX1_setSuffixes 34 = .ok (.aload_n 0, 1) := by decide +kernel
theorem dX1_setSuffixes_35 : decode cX1_setSuffixes 35 = .ok (.getfield 18, 3) := by decide +kernel
theorem dX1_setSuffixes_38 : decode cX1_setSuffixes 38 = .ok (.if_icmp .ge 51, 3) := by decide +kernel
theorem dX1_setSuffixes_41 : decode cX1_setSuffixes 41 = .ok (.aload_n 0, 1) := by decide +kernel
theorem dX1_setSuffixes_42 : decode cX1_setSuffixes 42 = .ok (.getfield 12, 3) := by decide +kernel
theorem dX1_setSuffixes_45 : decode cX1_setSuffixes 45 = .ok (.iload_n 1, 1) := by decide +kernel
theorem dX1_setSuffixes_46 : decode cX1_setSuffixes 46 = .ok (.invokevirtual 36, 3) := by decide +kernel
theorem dX1_setSuffixes_49 : decode cX1_setSuffixes 49 = .ok (.checkcast 40, 3) := by decide +kernel
theorem dX1_setSuffixes_52 : decode cX1_setSuffixes 52 = .ok (.getfield 89, 3) := by decide +kernel
theorem dX1_setSuffixes_55 : decode cX1_setSuffixes 55 = .ok (.ifCond .ne 28, 3) := by decide +kernel
theorem dX1_setSuffixes_58 : decode cX1_setSuffixes 58 = .ok (.aload_n 0, 1) := by decide +kernel
theorem dX1_setSuffixes_59 : decode cX1_setSuffixes 59 = .ok (.getfield 12, 3) := by decide +kernel
theorem dX1_setSuffixes_62 : decode cX1_setSuffixes 62 = .ok (.iload_n 1, 1) := by decide +kernel
theorem dX1_setSuffixes_63 : decode cX1_setSuffixes 63 = .ok (.invokevirtual 36, 3) := by decide +kernel
theorem dX1_setSuffixes_66 : decode cX1_setSuffixes 66 = .ok (.checkcast 40, 3) := by decide +kernel
theorem dX1_setSuffixes_69 : decode cX1_setSuffixes 69 = .ok (.getfield 92, 3) := by decide +kernel
theorem dX1_setSuffixes_72 : decode cX1_setSuffixes 72 = .ok (.invokevirtual 95, 3) := by decide +kernel
theorem dX1_setSuffixes_75 : decode cX1_setSuffixes 75 = .ok (.ifCond .ne 8, 3) := by decide +kernel
theorem dX1_setSuffixes_78 : decode cX1_setSuffixes 78 = .ok (.aload_n 0, 1) := by decide +kernel
theorem dX1_setSuffixes_79 : decode cX1_setSuffixes 79 = .ok (.iload_n 1, 1) := by decide +kernel
theorem dX1_setSuffixes_80 : decode cX1_setSuffixes 80 = .ok (.invokevirtual 99, 3) := by decide +kernel
theorem dX1_setSuffixes_83 : decode cX1_setSuffixes 83 = .ok (.iinc 1 1, 3) := by decide +kernel
theorem dX1_setSuffixes_86 : decode cX1_setSuffixes 86 = .ok (.goto (-53), 3) := by decide +kernel
theorem dX1_setSuffixes_89 : decode cX1_setSuffixes 89 = .ok (.return_, 1) := by decide +kernel
theorem dX1_markAlike_0 : decode cX1_markAlike 0 = .ok (.aload_n 0, 1) := by decide +kernel
theorem dX1_markAlike_1 : decode cX1_markAlike 1 = .ok (.getfield 12, 3) := by decide +kernel
theorem dX1_markAlike_4 : decode cX1_markAlike 4 = .ok (.iload_n 1, 1) := by decide +kernel
theorem dX1_markAlike_5 : decode cX1_markAlike 5 = .ok (.invokevirtual 36, 3) := by decide +kernel
theorem dX1_markAlike_8 : decode cX1_markAlike 8 = .ok (.checkcast 40, 3) := by decide +kernel
theorem dX1_markAlike_11 : decode cX1_markAlike 11 = .ok (.astore_n 2, 1) := by decide +kernel
theorem dX1_markAlike_12 : decode cX1_markAlike 12 = .ok (.iconst 1, 1) := by decide +kernel
theorem dX1_markAlike_13 : decode cX1_markAlike 13 = .ok (.istore_n 3, 1) := by decide +kernel
theorem dX1_markAlike_14 : decode cX1_markAlike 14 = .ok (.iload_n 1, 1) := by decide +kernel
theorem dX1_markAlike_15 : decode cX1_markAlike 15 = .ok (.iconst 1, 1) := by decide +kernel
theorem dX1_markAlike_16 : decode cX1_markAlike 16 = .ok (.iadd, 1) := by decide +kernel
theorem dX1_markAlike_17 : decode cX1_markAlike 17 = .ok (.istore 4, 2) := by decide +kernel
theorem dX1_markAlike_19 : decode cX1_markAlike 19 = .ok (.iload 4, 2) := by decide +kernel
theorem dX1_markAlike_21 : decode cX1_markAlike 21 = .ok (.aload_n 0, 1) := by decide +kernel
theorem dX1_markAlike_22 : decode cX1_markAlike 22 = .ok (.getfield 18, 3) := by decide +kernel
theorem dX1_markAlike_25 : decode cX1_markAlike 25 = .ok (.if_icmp .ge 58, 3) := by decide +kernel
theorem dX1_markAlike_28 : decode cX1_markAlike 28 = .ok (.aload_n 0, 1) := by decide +kernel
theorem dX1_markAlike_29 : decode cX1_markAlike 29 = .ok (.getfield 12, 3) := by decide +kernel
theorem dX1_markAlike_32 : decode cX1_markAlike 32 = .ok (.iload 4, 2) := by decide +kernel
theorem dX1_markAlike_34 : decode cX1_markAlike 34 = .ok (.invokevirtual 36, 3) := by decide +kernel
theorem dX1_markAlike_37 : decode cX1_markAlike 37 = .ok (.checkcast 40, 3) := by decide +kernel
theorem dX1_markAlike_40 : decode cX1_markAlike 40 = .ok (.getfield 92, 3) := by decide +kernel
theorem dX1_markAlike_43 : decode cX1_markAlike 43 = .ok (.aload_n 2, 1) := by decide +kernel
theorem dX1_markAlike_44 : decode cX1_markAlike 44 = .ok (.getfield 92, 3) := by decide +kernel
theorem dX1_markAlike_47 : decode cX1_markAlike 47 = .ok (.invokevirtual 102, 3) := by decide +kernel
theorem dX1_markAlike_50 : decode cX1_markAlike 50 = .ok (.ifCond .eq 27, 3) := by decide +kernel
theorem dX1_markAlike_53 : decode cX1_markAlike 53 = .ok (.aload_n 2, 1) := by decide +kernel
theorem dX1_markAlike_54 : decode cX1_markAlike 54 = .ok (.iconst 1, 1) := by decide +kernel
theorem dX1_markAlike_55 : decode cX1_markAlike 55 = .ok (.putfield 89, 3) := by decide +kernel
theorem dX1_markAlike_58 : decode cX1_markAlike 58 = .ok (.iinc 3 1, 3) := by decide +kernel
theorem dX1_markAlike_61 : decode cX1_markAlike 61 = .ok (.aload_n 0, 1) := by decide +kernel
theorem dX1_markAlike_62 : decode cX1_markAlike 62 = .ok (.getfield 12, 3) := by decide +kernel
theorem dX1_markAlike_65 : decode cX1_markAlike 65 = .ok (.iload 4, 2) := by decide +kernel
theorem dX1_markAlike_67 : decode cX1_markAlike 67 = .ok (.invokevirtual 36, 3) := by decide +kernel
theorem dX1_markAlike_70 : decode cX1_markAlike 70 = .ok (.checkcast 40, 3) := by decide +kernel
theorem dX1_markAlike_73 : decode cX1_markAlike 73 = .ok (.iload_n 3, 1) := by decide +kernel
theorem dX1_markAlike_74 : decode cX1_markAlike 74 = .ok (.putfield 89, 3) := by decide +kernel
theorem dX1_markAlike_77 : decode cX1_markAlike 77 = .ok (.iinc 4 1, 3) := by decide +kernel
theorem dX1_markAlike_80 : decode cX1_markAlike 80 = .ok (.goto (-61), 3) := by decide +kernel
theorem dX1_markAlike_83 : decode cX1_markAlike 83 = .ok (.return_, 1) := by decide +kernel
theorem dX1_findMissing_0 : decode cX1_findMissing 0 = .ok (.aload_n 0, 1) := by decide +kernel
theorem dX1_findMissing_1 : decode cX1_findMissing 1 = .ok (.iconst 0, 1) := by decide +kernel
theorem dX1_findMissing_2 : decode cX1_findMissing 2 = .ok (.putfield 33, 3) := by decide +kernel
theorem dX1_findMissing_5 : decode cX1_findMissing 5 = .ok (.iconst 0, 1) := by decide +kernel
theorem dX1_findMissing_6 : decode cX1_findMissing 6 = .ok (.istore_n 1, 1) := by decide +kernel
theorem dX1_findMissing_7 : decode cX1_findMissing 7 = .ok (.iload_n 1, 1) := by decide +kernel
theorem dX1_findMissing_8 : decode cX1_findMissing 8 = .ok (.aload_n 0, 1) := by decide +kernel
theorem dX1_findMissing_9 : decode cX1_findMissing 9 = .ok (.getfield 18, 3) := by decide +kernel
theorem dX1_findMissing_12 : decode cX1_findMissing 12 = .ok (.if_icmp .ge 108, 3) := by decide +kernel
theorem dX1_findMissing_15 : decode cX1_findMissing 15 = .ok (.aload_n 0, 1) := by decide +kernel
theorem dX1_findMissing_16 : decode cX1_findMissing 16 = .ok (.getfield 12, 3) := by decide +kernel
theorem dX1_findMissing_19 : decode cX1_findMissing 19 = .ok (.iload_n 1, 1) := by decide +kernel
theorem dX1_findMissing_20 : decode cX1_findMissing 20 = .ok (.invokevirtual 36, 3) := by decide +kernel
theorem dX1_findMissing_23 : decode cX1_findMissing 23 = .ok (.checkcast 40, 3) := by decide +kernel
theorem dX1_findMissing_26 : decode cX1_findMissing 26 = .ok (.getfield 42, 3) := by decide +kernel
theorem dX1_findMissing_29 : decode cX1_findMissing 29 = .ok (.astore_n 2, 1) := by decide +kernel
theorem dX1_findMissing_30 : decode cX1_findMissing 30 = .ok (.iconst 0, 1) := by decide +kernel
theorem dX1_findMissing_31 : decode cX1_findMissing 31 = .ok (.istore_n 3, 1) := by decide +kernel
theorem dX1_findMissing_32 : decode cX1_findMissing 32 = .ok (.iload_n 3, 1) := by decide +kernel
theorem dX1_findMissing_33 : decode cX1_findMissing 33 = .ok (.iconst 4, 1) := by decide +kernel
theorem dX1_findMissing_34 : decode cX1_findMissing 34 = .ok (.if_icmp .ge 80, 3) := by decide +kernel
theorem dX1_findMissing_37 : decode cX1_findMissing 37 = .ok (.getstatic 106, 3) := by decide +kernel
theorem dX1_findMissing_40 : decode cX1_findMissing 40 = .ok (.aload_n 2, 1) := by decide +kernel
theorem dX1_findMissing_41 : decode cX1_findMissing 41 = .ok (.getfield 109, 3) := by decide +kernel
theorem dX1_findMissing_44 : decode cX1_findMissing 44 = .ok (.iconst 4, 1) := by decide +kernel
theorem dX1_findMissing_45 : decode cX1_findMissing 45 = .ok (.imul, 1) := by decide +kernel
theorem dX1_findMissing_46 : decode cX1_findMissing 46 = .ok (.iload_n 3, 1) := by decide +kernel
theorem dX1_findMissing_47 : decode cX1_findMissing 47 = .ok (.iadd, 1) := by decide +kernel
theorem dX1_findMissing_48 : decode cX1_findMissing 48 = .ok (.iaload, 1) := by decide +kernel
theorem dX1_findMissing_49 : decode cX1_findMissing 49 = .ok (.istore 4, 2) := by decide +kernel
theorem dX1_findMissing_51 : decode cX1_findMissing 51 = .ok (.iload 4, 2) := by decide +kernel
theorem dX1_findMissing_53 : decode cX1_findMissing 53 = .ok (.ifCond .lt 55, 3) := by decide +kernel
theorem dX1_findMissing_56 : decode cX1_findMissing 56 = .ok (.aload_n 2, 1) := by decide +kernel
theorem dX1_findMissing_57 : decode cX1_findMissing 57 = .ok (.iload 4, 2) := by decide +kernel
theorem dX1_findMissing_59 : decode cX1_findMissing 59 = .ok (.invokevirtual 114, 3) := by decide +kernel
theorem dX1_findMissing_62 : decode cX1_findMissing 62 = .ok (.ifCond .ne 46, 3) := by decide +kernel
theorem dX1_findMissing_65 : decode cX1_findMissing 65 = .ok (.aload_n 0, 1) := by decide +kernel
theorem dX1_findMissing_66 : decode cX1_findMissing 66 = .ok (.getfield 33, 3) := by decide +kernel
theorem dX1_findMissing_69 : decode cX1_findMissing 69 = .ok (.bipush 96, 2) := by decide +kernel
theorem dX1_findMissing_71 : decode cX1_findMissing 71 = .ok (.if_icmp .ge 37, 3) := by decide +kernel
theorem dX1_findMissing_74 : decode cX1_findMissing 74 = .ok (.aload_n 0, 1) := by decide +kernel
theorem dX1_findMissing_75 : decode cX1_findMissing 75 = .ok (.getfield 26, 3) := by decide +kernel
theorem dX1_findMissing_78 : decode cX1_findMissing 78 = .ok (.aload_n 0, 1) := by decide +kernel
theorem dX1_findMissing_79 : decode cX1_findMissing 79 = .ok (.getfield 33, 3) := by decide +kernel
theorem dX1_findMissing_82 : decode cX1_findMissing 82 = .ok (.aload_n 2, 1) := by decide +kernel
theorem dX1_findMissing_83 : decode cX1_findMissing 83 = .ok (.getfield 118, 3) := by decide +kernel
theorem dX1_findMissing_86 : decode cX1_findMissing 86 = .ok (.iastore, 1) := by decide +kernel
theorem dX1_findMissing_87 : decode cX1_findMissing 87 = .ok (.aload_n 0, 1) := by decide +kernel
theorem dX1_findMissing_88 : decode cX1_findMissing 88 = .ok (.getfield 30, 3) := by decide +kernel
theorem dX1_findMissing_91 : decode cX1_findMissing 91 = .ok (.aload_n 0, 1) := by decide +kernel
theorem dX1_findMissing_92 : decode cX1_findMissing 92 = .ok (.getfield 33, 3) := by decide +kernel
theorem dX1_findMissing_95 : decode cX1_findMissing 95 = .ok (.iload 4, 2) := by decide +kernel
theorem dX1_findMissing_97 : decode cX1_findMissing 97 = .ok (.iastore, 1) := by decide +kernel
theorem dX1_findMissing_98 : decode cX1_findMissing 98 = .ok (.aload_n 0, 1) := by decide +kernel
theorem dX1_findMissing_99 : decode cX1_findMissing 99 = .ok (.dup, 1) := by decide +kernel
theorem dX1_findMissing_100 : decode cX1_findMissing 100 = .ok (.getfield 33, 3) := by decide +kernel
theorem dX1_findMissing_103 : decode cX1_findMissing 103 = .ok (.iconst 1, 1) := by decide +kernel
theorem dX1_findMissing_104 : decode cX1_findMissing 104 = .ok (.iadd, 1) := by decide +kernel
theorem dX1_findMissing_105 : decode cX1_findMissing 105 = .ok (.putfield 33, 3) := by decide +kernel
theorem dX1_findMissing_108 : decode cX1_findMissing 108 = .ok (.iinc 3 1, 3) := by decide +kernel
theorem dX1_findMissing_111 : decode cX1_findMissing 111 = .ok (.goto (-79), 3) := by decide +kernel
theorem dX1_findMissing_114 : decode cX1_findMissing 114 = .ok (.iinc 1 1, 3) := by decide +kernel
theorem dX1_findMissing_117 : decode cX1_findMissing 117 = .ok (.goto (-110), 3) := by decide +kernel
theorem dX1_findMissing_120 : decode cX1_findMissing 120 = .ok (.return_, 1) := by decide +kernel
theorem dX2_init_0 : decode cX2_init 0 = .ok (.aload_n 0, 1) := by decide +kernel
theorem dX2_init_1 : decode cX2_init 1 = .ok (.invokespecial 1, 3) := by decide +kernel
theorem dX2_init_4 : decode cX2_init 4 = .ok (.aload_n 0, 1) := by decide +kernel
theorem dX2_init_5 : decode cX2_init 5 = .ok (.iconst 0, 1) := by decide +kernel
theorem dX2_init_6 : decode cX2_init 6 = .ok (.putfield 7, 3) := by decide +kernel
theorem dX2_init_9 : decode cX2_init 9 = .ok (.aload_n 0, 1) := by decide +kernel
theorem dX2_init_10 : decode cX2_init 10 = .ok (.iconst 0, 1) := by decide +kernel
theorem dX2_init_11 : decode cX2_init 11 = .ok (.putfield 13, 3) := by decide +kernel
theorem dX2_init_14 : decode cX2_init 14 = .ok (.aload_n 0, 1) := by decide +kernel
theorem dX2_init_15 : decode cX2_init 15 = .ok (.iconst 0, 1) := by decide +kernel
theorem dX2_init_16 : decode cX2_init 16 = .ok (.putfield 16, 3) := by decide +kernel
theorem dX2_init_19 : decode cX2_init 19 = .ok (.aload_n 0, 1) := by decide +kernel
theorem dX2_init_20 : decode cX2_init 20 = .ok (.iconst 0, 1) := by decide +kernel
theorem dX2_init_21 : decode cX2_init 21 = .ok (.putfield 19, 3) := by decide +kernel
theorem dX2_init_24 : decode cX2_init 24 = .ok (.aload_n 0, 1) := by decide +kernel
theorem dX2_init_25 : decode cX2_init 25 = .ok (.iconst 0, 1) := by decide +kernel
theorem dX2_init_26 : decode cX2_init 26 = .ok (.putfield 22, 3) := by decide +kernel
theorem dX2_init_29 : decode cX2_init 29 = .ok (.return_, 1) := by decide +kernel
theorem dX2_hasGiven_0 : decode cX2_hasGiven 0 = .ok (.aload_n 0, 1) := by decide +kernel
theorem dX2_hasGiven_1 : decode cX2_hasGiven 1 = .ok (.getfield 7, 3) := by decide +kernel
theorem dX2_hasGiven_4 : decode cX2_hasGiven 4 = .ok (.aload_n 0, 1) := by decide +kernel
theorem dX2_hasGiven_5 : decode cX2_hasGiven 5 = .ok (.getfield 13, 3) := by decide +kernel
theorem dX2_hasGiven_8 : decode cX2_hasGiven 8 = .ok (.if_icmp .ge 7, 3) := by decide +kernel
theorem dX2_hasGiven_11 : decode cX2_hasGiven 11 = .ok (.iconst 1, 1) := by decide +kernel
theorem dX2_hasGiven_12 : decode cX2_hasGiven 12 = .ok (.goto 4, 3) := by decide +kernel
theorem dX2_hasGiven_15 : decode cX2_hasGiven 15 = .ok (.iconst 0, 1) := by decide +kernel
theorem dX2_hasGiven_16 : decode cX2_hasGiven 16 = .ok (.ireturn, 1) := by decide +kernel
theorem dX3_init_0 : decode cX3_init 0 = .ok (.aload_n 0, 1) := by decide +kernel
theorem dX3_init_1 : decode cX3_init 1 = .ok (.invokespecial 3, 3) := by decide +kernel
theorem dX3_init_4 : decode cX3_init 4 = .ok (.aload_n 0, 1) := by decide +kernel
theorem dX3_init_5 : decode cX3_init 5 = .ok (.new 9, 3) := by decide +kernel
theorem dX3_init_8 : decode cX3_init 8 = .ok (.dup, 1) := by decide +kernel
theorem dX3_init_9 : decode cX3_init 9 = .ok (.invokespecial 11, 3) := by decide +kernel
theorem dX3_init_12 : decode cX3_init 12 = .ok (.putfield 12, 3) := by decide +kernel
theorem dX3_init_15 : decode cX3_init 15 = .ok (.aload_n 0, 1) := by decide +kernel
theorem dX3_init_16 : decode cX3_init 16 = .ok (.bipush 40, 2) := by decide +kernel
theorem dX3_init_18 : decode cX3_init 18 = .ok (.newarray .int, 2) := by decide +kernel
theorem dX3_init_20 : decode cX3_init 20 = .ok (.putfield 18, 3) := by decide +kernel
theorem dX3_init_23 : decode cX3_init 23 = .ok (.aload_n 0, 1) := by decide +kernel
theorem dX3_init_24 : decode cX3_init 24 = .ok (.bipush 40, 2) := by decide +kernel
theorem dX3_init_26 : decode cX3_init 26 = .ok (.newarray .int, 2) := by decide +kernel
theorem dX3_init_28 : decode cX3_init 28 = .ok (.putfield 22, 3) := by decide +kernel
theorem dX3_init_31 : decode cX3_init 31 = .ok (.aload_n 0, 1) := by decide +kernel
theorem dX3_init_32 : decode cX3_init 32 = .ok (.iconst 0, 1) := by decide +kernel
theorem dX3_init_33 : decode cX3_init 33 = .ok (.putfield 25, 3) := by decide +kernel
theorem dX3_init_36 : decode cX3_init 36 = .ok (.aload_n 0, 1) := by decide +kernel
theorem dX3_init_37 : decode cX3_init 37 = .ok (.new 29, 3) := by decide +kernel
theorem dX3_init_40 : decode cX3_init 40 = .ok (.dup, 1) := by decide +kernel
theorem dX3_init_41 : decode cX3_init 41 = .ok (.invokespecial 31, 3) := by decide +kernel
theorem dX3_init_44 : decode cX3_init 44 = .ok (.putfield 32, 3) := by decide +kernel
theorem dX3_init_47 : decode cX3_init 47 = .ok (.aload_n 0, 1) := by decide +kernel
theorem dX3_init_48 : decode cX3_init 48 = .ok (.new 36, 3) := by decide +kernel
theorem dX3_init_51 : decode cX3_init 51 = .ok (.dup, 1) := by decide +kernel
theorem dX3_init_52 : decode cX3_init 52 = .ok (.invokespecial 38, 3) := by decide +kernel
theorem dX3_init_55 : decode cX3_init 55 = .ok (.putfield 39, 3) := by decide +kernel
theorem dX3_init_58 : decode cX3_init 58 = .ok (.aload_n 0, 1) := by decide +kernel
theorem dX3_init_59 : decode cX3_init 59 = .ok (.iconst 0, 1) := by decide +kernel
theorem dX3_init_60 : decode cX3_init 60 = .ok (.putfield 43, 3) := by decide +kernel
theorem dX3_init_63 : decode cX3_init 63 = .ok (.return_, 1) := by decide +kernel
theorem dX3_size_0 : decode cX3_size 0 = .ok (.aload_n 0, 1) := by decide +kernel
theorem dX3_size_1 : decode cX3_size 1 = .ok (.getfield 43, 3) := by decide +kernel
theorem dX3_size_4 : decode cX3_size 4 = .ok (.ireturn, 1) := by decide +kernel
theorem dX3_read_0 : decode cX3_read 0 = .ok (.aload_n 0, 1) := by decide +kernel
theorem dX3_read_1 : decode cX3_read 1 = .ok (.aload_n 1, 1) := by decide +kernel
theorem dX3_read_2 : decode cX3_read 2 = .ok (.putfield 12, 3) := by decide +kernel
theorem dX3_read_5 : decode cX3_read 5 = .ok (.aload_n 0, 1) := by decide +kernel
theorem dX3_read_6 : decode cX3_read 6 = .ok (.iconst 0, 1) := by decide +kernel
theorem dX3_read_7 : decode cX3_read 7 = .ok (.putfield 25, 3) := by decide +kernel
theorem dX3_read_10 : decode cX3_read 10 = .ok (.aload_n 0, 1) := by decide +kernel
theorem dX3_read_11 : decode cX3_read 11 = .ok (.iconst 0, 1) := by decide +kernel
theorem dX3_read_12 : decode cX3_read 12 = .ok (.putfield 43, 3) := by decide +kernel
theorem dX3_read_15 : decode cX3_read 15 = .ok (.iconst 0, 1) := by decide +kernel
theorem dX3_read_16 : decode cX3_read 16 = .ok (.istore_n 2, 1) := by decide +kernel
theorem dX3_read_17 : decode cX3_read 17 = .ok (.iconst 0, 1) := by decide +kernel
theorem dX3_read_18 : decode cX3_read 18 = .ok (.istore_n 3, 1) := by decide +kernel
theorem dX3_read_19 : decode cX3_read 19 = .ok (.iconst 0, 1) := by decide +kernel
theorem dX3_read_20 : decode cX3_read 20 = .ok (.istore 4, 2) := by decide +kernel
theorem dX3_read_22 : decode cX3_read 22 = .ok (.iload 4, 2) := by decide +kernel
theorem dX3_read_24 : decode cX3_read 24 = .ok (.aload_n 1, 1) := by decide +kernel
theorem dX3_read_25 : decode cX3_read 25 = .ok (.invokevirtual 46, 3) := by decide +kernel
theorem dX3_read_28 : decode cX3_read 28 = .ok (.if_icmp .gt 53, 3) := by decide +kernel
theorem dX3_read_31 : decode cX3_read 31 = .ok (.iload 4, 2) := by decide +kernel
theorem dX3_read_33 : decode cX3_read 33 = .ok (.aload_n 1, 1) := by decide +kernel
theorem dX3_read_34 : decode cX3_read 34 = .ok (.invokevirtual 46, 3) := by decide +kernel
theorem dX3_read_37 : decode cX3_read 37 = .ok (.if_icmp .eq 14, 3) := by decide +kernel
theorem dX3_read_40 : decode cX3_read 40 = .ok (.aload_n 1, 1) := by decide +kernel
theorem dX3_read_41 : decode cX3_read 41 = .ok (.iload 4, 2) := by decide +kernel
theorem dX3_read_43 : decode cX3_read 43 = .ok (.invokevirtual 50, 3) := by decide +kernel
theorem dX3_read_46 : decode cX3_read 46 = .ok (.bipush 32, 2) := by decide +kernel
theorem dX3_read_48 : decode cX3_read 48 = .ok (.if_icmp .ne 27, 3) := by decide +kernel
theorem dX3_read_51 : decode cX3_read 51 = .ok (.aload_n 0, 1) := by decide +kernel
theorem dX3_read_52 : decode cX3_read 52 = .ok (.iload_n 3, 1) := by decide +kernel
theorem dX3_read_53 : decode cX3_read 53 = .ok (.iload 4, 2) := by decide +kernel
theorem dX3_read_55 : decode cX3_read 55 = .ok (.invokevirtual 54, 3) := by decide +kernel
theorem dX3_read_58 : decode cX3_read 58 = .ok (.ifCond .eq 12, 3) := by decide +kernel
theorem dX3_read_61 : decode cX3_read 61 = .ok (.aload_n 0, 1) := by decide +kernel
theorem dX3_read_62 : decode cX3_read 62 = .ok (.iload_n 2, 1) := by decide +kernel
theorem dX3_read_63 : decode cX3_read 63 = .ok (.iload_n 3, 1) := by decide +kernel
theorem dX3_read_64 : decode cX3_read 64 = .ok (.invokevirtual 58, 3) := by decide +kernel
theorem dX3_read_67 : decode cX3_read 67 = .ok (.iload 4, 2) := by decide +kernel
theorem dX3_read_69 : decode cX3_read 69 = .ok (.istore_n 2, 1) := by decide +kernel
theorem dX3_read_70 : decode cX3_read 70 = .ok (.iload 4, 2) := by decide +kernel
theorem dX3_read_72 : decode cX3_read 72 = .ok (.iconst 1, 1) := by decide +kernel
theorem dX3_read_73 : decode cX3_read 73 = .ok (.iadd, 1) := by decide +kernel
theorem dX3_read_74 : decode cX3_read 74 = .ok (.istore_n 3, 1) := by decide +kernel
theorem dX3_read_75 : decode cX3_read 75 = .ok (.iinc 4 1, 3) := by decide +kernel
theorem dX3_read_78 : decode cX3_read 78 = .ok (.goto (-56), 3) := by decide +kernel
theorem dX3_read_81 : decode cX3_read 81 = .ok (.aload_n 0, 1) := by decide +kernel
theorem dX3_read_82 : decode cX3_read 82 = .ok (.iload_n 2, 1) := by decide +kernel
theorem dX3_read_83 : decode cX3_read 83 = .ok (.aload_n 1, 1) := by decide +kernel
theorem dX3_read_84 : decode cX3_read 84 = .ok (.invokevirtual 46, 3) := by decide +kernel
theorem dX3_read_87 : decode cX3_read 87 = .ok (.invokevirtual 58, 3) := by decide +kernel
theorem dX3_read_90 : decode cX3_read 90 = .ok (.return_, 1) := by decide +kernel
theorem dX3_isAnd_0 : decode cX3_isAnd 0 = .ok (.iload_n 2, 1) := by decide +kernel
theorem dX3_isAnd_1 : decode cX3_isAnd 1 = .ok (.iload_n 1, 1) := by decide +kernel
theorem dX3_isAnd_2 : decode cX3_isAnd 2 = .ok (.isub, 1) := by decide +kernel
theorem dX3_isAnd_3 : decode cX3_isAnd 3 = .ok (.iconst 3, 1) := by decide +kernel
theorem dX3_isAnd_4 : decode cX3_isAnd 4 = .ok (.if_icmp .ne 50, 3) := by decide +kernel
theorem dX3_isAnd_7 : decode cX3_isAnd 7 = .ok (.aload_n 0, 1) := by decide +kernel
theorem dX3_isAnd_8 : decode cX3_isAnd 8 = .ok (.getfield 12, 3) := by decide +kernel
theorem dX3_isAnd_11 : decode cX3_isAnd 11 = .ok (.iload_n 1, 1) := by decide +kernel
theorem dX3_isAnd_12 : decode cX3_isAnd 12 = .ok (.invokevirtual 50, 3) := by decide +kernel
theorem dX3_isAnd_15 : decode cX3_isAnd 15 = .ok (.bipush 97, 2) := by decide +kernel
theorem dX3_isAnd_17 : decode cX3_isAnd 17 = .ok (.if_icmp .ne 37, 3) := by decide +kernel
theorem dX3_isAnd_20 : decode cX3_isAnd 20 = .ok (.aload_n 0, 1) := by decide +kernel
theorem dX3_isAnd_21 : decode cX3_isAnd 21 = .ok (.getfield 12, 3) := by decide +kernel
theorem dX3_isAnd_24 : decode cX3_isAnd 24 = .ok (.iload_n 1, 1) := by decide +kernel
theorem dX3_isAnd_25 : decode cX3_isAnd 25 = .ok (.iconst 1, 1) := by decide +kernel
theorem dX3_isAnd_26 : decode cX3_isAnd 26 = .ok (.iadd, 1) := by decide +kernel
theorem dX3_isAnd_27 : decode cX3_isAnd 27 = .ok (.invokevirtual 50, 3) := by decide +kernel
theorem dX3_isAnd_30 : decode cX3_isAnd 30 = .ok (.bipush 110, 2) := by decide +kernel
theorem dX3_isAnd_32 : decode cX3_isAnd 32 = .ok (.if_icmp .ne 22, 3) := by decide +kernel
theorem dX3_isAnd_35 : decode cX3_isAnd 35 = .ok (.aload_n 0, 1) := by decide +kernel
theorem dX3_isAnd_36 : decode cX3_isAnd 36 = .ok (.getfield 12, 3) := by decide +kernel
theorem dX3_isAnd_39 : decode cX3_isAnd 39 = .ok (.iload_n 1, 1) := by decide +kernel
theorem dX3_isAnd_40 : decode cX3_isAnd 40 = .ok (.iconst 2, 1) := by decide +kernel
theorem dX3_isAnd_41 : decode cX3_isAnd 41 = .ok (.iadd, 1) := by decide +kernel
theorem dX3_isAnd_42 : decode cX3_isAnd 42 = .ok (.invokevirtual 50, 3) := by decide +kernel
theorem dX3_isAnd_45 : decode cX3_isAnd 45 = .ok (.bipush 100, 2) := by decide +kernel
theorem dX3_isAnd_47 : decode cX3_isAnd 47 = .ok (.if_icmp .ne 7, 3) := by decide +kernel
theorem dX3_isAnd_50 : decode cX3_isAnd 50 = .ok (.iconst 1, 1) := by decide +kernel
theorem dX3_isAnd_51 : decode cX3_isAnd 51 = .ok (.goto 4, 3) := by decide +kernel
theorem dX3_isAnd_54 : decode cX3_isAnd 54 = .ok (.iconst 0, 1) := by decide +kernel
theorem dX3_isAnd_55 : decode cX3_isAnd 55 = .ok (.ireturn, 1) := by decide +kernel
theorem dX3_readPerson_0 : decode cX3_readPerson 0 = .ok (.iload_n 1, 1) := by decide +kernel
theorem dX3_readPerson_1 : decode cX3_readPerson 1 = .ok (.istore_n 3, 1) := by decide +kernel
theorem dX3_readPerson_2 : decode cX3_readPerson 2 = .ok (.iload_n 3, 1) := by decide +kernel
theorem dX3_readPerson_3 : decode cX3_readPerson 3 = .ok (.iload_n 2, 1) := by decide +kernel
theorem dX3_readPerson_4 : decode cX3_readPerson 4 = .ok (.if_icmp .ge 22, 3) := by decide +kernel
theorem dX3_readPerson_7 : decode cX3_readPerson 7 = .ok (.aload_n 0, 1) := by decide +kernel
theorem dX3_readPerson_8 : decode cX3_readPerson 8 = .ok (.getfield 12, 3) := by decide +kernel
theorem dX3_readPerson_11 : decode cX3_readPerson 11 = .ok (.iload_n 3, 1) := by decide +kernel
theorem dX3_readPerson_12 : decode cX3_readPerson 12 = .ok (.invokevirtual 50, 3) := by decide +kernel
theorem dX3_readPerson_15 : decode cX3_readPerson 15 = .ok (.bipush 44, 2) := by decide +kernel
theorem dX3_readPerson_17 : decode cX3_readPerson 17 = .ok (.if_icmp .eq 9, 3) := by decide +kernel
theorem dX3_readPerson_20 : decode cX3_readPerson 20 = .ok (.iinc 3 1, 3) := by decide +kernel
theorem dX3_readPerson_23 : decode cX3_readPerson 23 = .ok (.goto (-21), 3) := by decide +kernel
theorem dX3_readPerson_26 : decode cX3_readPerson 26 = .ok (.aload_n 0, 1) := by decide +kernel
theorem dX3_readPerson_27 : decode cX3_readPerson 27 = .ok (.getfield 25, 3) := by decide +kernel
theorem dX3_readPerson_30 : decode cX3_readPerson 30 = .ok (.istore 4, 2) := by decide +kernel
theorem dX3_readPerson_32 : decode cX3_readPerson 32 = .ok (.aload_n 0, 1) := by decide +kernel
theorem dX3_readPerson_33 : decode cX3_readPerson 33 = .ok (.iload_n 1, 1) := by decide +kernel
theorem dX3_readPerson_34 : decode cX3_readPerson 34 = .ok (.iload_n 3, 1) := by decide +kernel
theorem dX3_readPerson_35 : decode cX3_readPerson 35 = .ok (.invokevirtual 62, 3) := by decide +kernel
theorem dX3_readPerson_38 : decode cX3_readPerson 38 = .ok (.aload_n 0, 1) := by decide +kernel
theorem dX3_readPerson_39 : decode cX3_readPerson 39 = .ok (.getfield 25, 3) := by decide +kernel
theorem dX3_readPerson_42 : decode cX3_readPerson 42 = .ok (.istore 5, 2) := by decide +kernel
theorem dX3_readPerson_44 : decode cX3_readPerson 44 = .ok (.aload_n 0, 1) := by decide +kernel
theorem dX3_readPerson_45 : decode cX3_readPerson 45 = .ok (.iload_n 3, 1) := by decide +kernel
theorem dX3_readPerson_46 : decode cX3_readPerson 46 = .ok (.iload_n 2, 1) := by decide +kernel
theorem dX3_readPerson_47 : decode cX3_readPerson 47 = .ok (.invokevirtual 62, 3) := by decide +kernel
theorem dX3_readPerson_50 : decode cX3_readPerson 50 = .ok (.aload_n 0, 1) := by decide +kernel
theorem dX3_readPerson_51 : decode cX3_readPerson 51 = .ok (.getfield 25, 3) := by decide +kernel
theorem dX3_readPerson_54 : decode cX3_readPerson 54 = .ok (.iload 4, 2) := by decide +kernel
theorem dX3_readPerson_56 : decode cX3_readPerson 56 = .ok (.if_icmp .le 35, 3) := by decide +kernel
theorem dX3_readPerson_59 : decode cX3_readPerson 59 = .ok (.aload_n 0, 1) := by decide +kernel
theorem dX3_readPerson_60 : decode cX3_readPerson 60 = .ok (.invokevirtual 65, 3) := by decide +kernel
theorem dX3_readPerson_63 : decode cX3_readPerson 63 = .ok (.astore 6, 2) := by decide +kernel
theorem dX3_readPerson_65 : decode cX3_readPerson 65 = .ok (.iload_n 3, 1) := by decide +kernel
theorem dX3_readPerson_66 : decode cX3_readPerson 66 = .ok (.iload_n 2, 1) := by decide +kernel
theorem dX3_readPerson_67 : decode cX3_readPerson 67 = .ok (.if_icmp .ge 16, 3) := by decide +kernel
theorem dX3_readPerson_70 : decode cX3_readPerson 70 = .ok (.aload_n 0, 1) := by decide +kernel
theorem dX3_readPerson_71 : decode cX3_readPerson 71 = .ok (.aload 6, 2) := by decide +kernel
theorem dX3_readPerson_73 : decode cX3_readPerson 73 = .ok (.iload 4, 2) := by decide +kernel
theorem dX3_readPerson_75 : decode cX3_readPerson 75 = .ok (.iload 5, 2) := by decide +kernel
theorem dX3_readPerson_77 : decode cX3_readPerson 77 = .ok (.invokevirtual 69, 3) := by decide +kernel
theorem dX3_readPerson_80 : decode cX3_readPerson 80 = .ok (.goto 11, 3) := by decide +kernel
theorem dX3_readPerson_83 : decode cX3_readPerson 83 = .ok (.aload_n 0, 1) := by decide +kernel
theorem dX3_readPerson_84 : decode cX3_readPerson 84 = .ok (.aload 6, 2) := by decide +kernel
theorem dX3_readPerson_86 : decode cX3_readPerson 86 = .ok (.iload 4, 2) := by decide +kernel
theorem dX3_readPerson_88 : decode cX3_readPerson 88 = .ok (.invokevirtual 73, 3) := by decide +kernel
theorem dX3_readPerson_91 : decode cX3_readPerson 91 = .ok (.return_, 1) := by decide +kernel
theorem dX3_readWords_0 : decode cX3_readWords 0 = .ok (.iload_n 1, 1) := by decide +kernel
theorem dX3_readWords_1 : decode cX3_readWords 1 = .ok (.istore_n 3, 1) := by decide +kernel
theorem dX3_readWords_2 : decode cX3_readWords 2 = .ok (.iload_n 1, 1) := by decide +kernel
theorem dX3_readWords_3 : decode cX3_readWords 3 = .ok (.istore 4, 2) := by decide +kernel
theorem dX3_readWords_5 : decode cX3_readWords 5 = .ok (.iload 4, 2) := by decide +kernel
theorem dX3_readWords_7 : decode cX3_readWords 7 = .ok (.iload_n 2, 1) := by decide +kernel
theorem dX3_readWords_8 : decode cX3_readWords 8 = .ok (.if_icmp .gt 94, 3) := by decide +kernel
theorem dX3_readWords_11 : decode cX3_readWords 11 = .ok (.iload 4, 2) := by decide +kernel
theorem dX3_readWords_13 : decode cX3_readWords 13 = .ok (.iload_n 2, 1) := by decide +kernel
theorem dX3_readWords_14 : decode cX3_readWords 14 = .ok (.if_icmp .eq 31, 3) := by decide +kernel
theorem dX3_readWords_17 : decode cX3_readWords 17 = .ok (.aload_n 0, 1) := by decide +kernel
theorem dX3_readWords_18 : decode cX3_readWords 18 = .ok (.getfield 12, 3) := by decide +kernel
theorem dX3_readWords_21 : decode cX3_readWords 21 = .ok (.iload 4, 2) := by decide +kernel
theorem dX3_readWords_23 : decode cX3_readWords 23 = .ok (.invokevirtual 50, 3) := by decide +kernel
theorem dX3_readWords_26 : decode cX3_readWords 26 = .ok (.bipush 32, 2) := by decide +kernel
theorem dX3_readWords_28 : decode cX3_readWords 28 = .ok (.if_icmp .eq 17, 3) := by decide +kernel
theorem dX3_readWords_31 : decode cX3_readWords 31 = .ok (.aload_n 0, 1) := by decide +kernel
theorem dX3_readWords_32 : decode cX3_readWords 32 = .ok (.getfield 12, 3) := by decide +kernel
theorem dX3_readWords_35 : decode cX3_readWords 35 = .ok (.iload 4, 2) := by decide +kernel
theorem dX3_readWords_37 : decode cX3_readWords 37 = .ok (.invokevirtual 50, 3) := by decide +kernel
theorem dX3_readWords_40 : decode cX3_readWords 40 = .ok (.bipush 44, 2) := by decide +kernel
theorem dX3_readWords_42 : decode cX3_readWords 42 = .ok (.if_icmp .ne 54, 3) := by decide +kernel
theorem dX3_readWords_45 : decode cX3_readWords 45 = .ok (.iload 4, 2) := by decide +kernel
theorem dX3_readWords_47 : decode cX3_readWords 47 = .ok (.iload_n 3, 1) := by decide +kernel
theorem dX3_readWords_48 : decode cX3_readWords 48 = .ok (.if_icmp .le 43, 3) := by decide +kernel
theorem dX3_readWords_51 : decode cX3_readWords 51 = .ok (.aload_n 0, 1) := by decide +kernel
theorem dX3_readWords_52 : decode cX3_readWords 52 = .ok (.getfield 25, 3) := by decide +kernel
theorem dX3_readWords_55 : decode cX3_readWords 55 = .ok (.bipush 40, 2) := by decide +kernel
theorem dX3_readWords_57 : decode cX3_readWords 57 = .ok (.if_icmp .ge 34, 3) := by decide +kernel
theorem dX3_readWords_60 : decode cX3_readWords 60 = .ok (.aload_n 0, 1) := by decide +kernel
theorem dX3_readWords_61 : decode cX3_readWords 61 = .ok (.getfield 18, 3) := by decide +kernel
theorem dX3_readWords_64 : decode cX3_readWords 64 = .ok (.aload_n 0, 1) := by decide +kernel
theorem dX3_readWords_65 : decode cX3_readWords 65 = .ok (.getfield 25, 3) := by decide +kernel
theorem dX3_readWords_68 : decode cX3_readWords 68 = .ok (.iload_n 3, 1) := by decide +kernel
theorem dX3_readWords_69 : decode cX3_readWords 69 = .ok (.iastore, 1) := by decide +kernel
theorem dX3_readWords_70 : decode cX3_readWords 70 = .ok (.aload_n 0, 1) := by decide +kernel
theorem dX3_readWords_71 : decode cX3_readWords 71 = .ok (.getfield 22, 3) := by decide +kernel
theorem dX3_readWords_74 : decode cX3_readWords 74 = .ok (.aload_n 0, 1) := by decide +kernel
theorem dX3_readWords_75 : decode cX3_readWords 75 = .ok (.getfield 25, 3) := by decide +kernel
theorem dX3_readWords_78 : decode cX3_readWords 78 = .ok (.iload 4, 2) := by decide +kernel
theorem dX3_readWords_80 : decode cX3_readWords 80 = .ok (.iastore, 1) := by decide +kernel
theorem dX3_readWords_81 : decode cX3_readWords 81 = .ok (.aload_n 0, 1) := by decide +kernel
theorem dX3_readWords_82 : decode cX3_readWords 82 = .ok (.dup, 1) := by decide +kernel
theorem dX3_readWords_83 : decode cX3_readWords 83 = .ok (.getfield 25, 3) := by decide +kernel
theorem dX3_readWords_86 : decode cX3_readWords 86 = .ok (.iconst 1, 1) := by decide +kernel
theorem dX3_readWords_87 : decode cX3_readWords 87 = .ok (.iadd, 1) := by decide +kernel
theorem dX3_readWords_88 : decode cX3_readWords 88 = .ok (.putfield 25, 3) := by decide +kernel
theorem dX3_readWords_91 : decode cX3_readWords 91 = .ok (.iload 4, 2) := by decide +kernel
theorem dX3_readWords_93 : decode cX3_readWords 93 = .ok (.iconst 1, 1) := by decide +kernel
theorem dX3_readWords_94 : decode cX3_readWords 94 = .ok (.iadd, 1) := by decide +kernel
theorem dX3_readWords_95 : decode cX3_readWords 95 = .ok (.istore_n 3, 1) := by decide +kernel
theorem dX3_readWords_96 : decode cX3_readWords 96 = .ok (.iinc 4 1, 3) := by decide +kernel
theorem dX3_readWords_99 : decode cX3_readWords 99 = .ok (.goto (-94), 3) := by decide +kernel
theorem dX3_readWords_102 : decode cX3_readWords 102 = .ok (.return_, 1) := by decide +kernel
theorem dX3_nextPerson_0 : decode cX3_nextPerson 0 = .ok (.aload_n 0, 1) := by decide +kernel
theorem dX3_nextPerson_1 : decode cX3_nextPerson 1 = .ok (.getfield 43, 3) := by decide +kernel
theorem dX3_nextPerson_4 : decode cX3_nextPerson 4 = .ok (.aload_n 0, 1) := by decide +kernel
theorem dX3_nextPerson_5 : decode cX3_nextPerson 5 = .ok (.getfield 32, 3) := by decide +kernel
theorem dX3_nextPerson_8 : decode cX3_nextPerson 8 = .ok (.invokevirtual 77, 3) := by decide +kernel
theorem dX3_nextPerson_11 : decode cX3_nextPerson 11 = .ok (.if_icmp .lt 18, 3) := by decide +kernel
theorem dX3_nextPerson_14 : decode cX3_nextPerson 14 = .ok (.aload_n 0, 1) := by decide +kernel
theorem dX3_nextPerson_15 : decode cX3_nextPerson 15 = .ok (.getfield 32, 3) := by decide +kernel
theorem dX3_nextPerson_18 : decode cX3_nextPerson 18 = .ok (.new 36, 3) := by decide +kernel
theorem dX3_nextPerson_21 : decode cX3_nextPerson 21 = .ok (.dup, 1) := by decide +kernel
theorem dX3_nextPerson_22 : decode cX3_nextPerson 22 = .ok (.invokespecial 38, 3) := by decide +kernel
theorem dX3_nextPerson_25 : decode cX3_nextPerson 25 = .ok (.invokevirtual 78, 3) := by decide +kernel
theorem dX3_nextPerson_28 : decode cX3_nextPerson 28 = .ok (.pop, 1) := by decide +kernel
theorem dX3_nextPerson_29 : decode cX3_nextPerson 29 = .ok (.aload_n 0, 1) := by decide +kernel
theorem dX3_nextPerson_30 : decode cX3_nextPerson 30 = .ok (.dup, 1) := by decide +kernel
theorem dX3_nextPerson_31 : decode cX3_nextPerson 31 = .ok (.getfield 43, 3) := by decide +kernel
theorem dX3_nextPerson_34 : decode cX3_nextPerson 34 = .ok (.iconst 1, 1) := by decide +kernel
theorem dX3_nextPerson_35 : decode cX3_nextPerson 35 = .ok (.iadd, 1) := by decide +kernel
theorem dX3_nextPerson_36 : decode cX3_nextPerson 36 = .ok (.putfield 43, 3) := by decide +kernel
theorem dX3_nextPerson_39 : decode cX3_nextPerson 39 = .ok (.aload_n 0, 1) := by decide +kernel
theorem dX3_nextPerson_40 : decode cX3_nextPerson 40 = .ok (.getfield 32, 3) := by decide +kernel
theorem dX3_nextPerson_43 : decode cX3_nextPerson 43 = .ok (.aload_n 0, 1) := by decide +kernel
theorem dX3_nextPerson_44 : decode cX3_nextPerson 44 = .ok (.getfield 43, 3) := by decide +kernel
theorem dX3_nextPerson_47 : decode cX3_nextPerson 47 = .ok (.iconst 1, 1) := by decide +kernel
theorem dX3_nextPerson_48 : decode cX3_nextPerson 48 = .ok (.isub, 1) := by decide +kernel
theorem dX3_nextPerson_49 : decode cX3_nextPerson 49 = .ok (.invokevirtual 82, 3) := by decide +kernel
theorem dX3_nextPerson_52 : decode cX3_nextPerson 52 = .ok (.checkcast 36, 3) := by decide +kernel
theorem dX3_nextPerson_55 : decode cX3_nextPerson 55 = .ok (.areturn, 1) := by decide +kernel
theorem dX3_partAtComma_0 : decode cX3_partAtComma 0 = .ok (.iload_n 2, 1) := by decide +kernel
theorem dX3_partAtComma_1 : decode cX3_partAtComma 1 = .ok (.istore 4, 2) := by decide +kernel
theorem dX3_partAtComma_3 : decode cX3_partAtComma 3 = .ok (.iload 4, 2) := by decide +kernel
theorem dX3_partAtComma_5 : decode cX3_partAtComma 5 = .ok (.iload_n 3, 1) := by decide +kernel
theorem dX3_partAtComma_6 : decode cX3_partAtComma 6 = .ok (.iconst 1, 1) := by decide +kernel
theorem dX3_partAtComma_7 : decode cX3_partAtComma 7 = .ok (.isub, 1) := by decide +kernel
theorem dX3_partAtComma_8 : decode cX3_partAtComma 8 = .ok (.if_icmp .ge 18, 3) := by decide +kernel
theorem dX3_partAtComma_11 : decode cX3_partAtComma 11 = .ok (.aload_n 0, 1) := by decide +kernel
theorem dX3_partAtComma_12 : decode cX3_partAtComma 12 = .ok (.iload 4, 2) := by decide +kernel
theorem dX3_partAtComma_14 : decode cX3_partAtComma 14 = .ok (.invokevirtual 86, 3) := by decide +kernel
theorem dX3_partAtComma_17 : decode cX3_partAtComma 17 = .ok (.ifCond .eq 9, 3) := by decide +kernel
theorem dX3_partAtComma_20 : decode cX3_partAtComma 20 = .ok (.iinc 4 1, 3) := by decide +kernel
theorem dX3_partAtComma_23 : decode cX3_partAtComma 23 = .ok (.goto (-20), 3) := by decide +kernel
theorem dX3_partAtComma_26 : decode cX3_partAtComma 26 = .ok (.aload_n 1, 1) := by decide +kernel
theorem dX3_partAtComma_27 : decode cX3_partAtComma 27 = .ok (.iload_n 2, 1) := by decide +kernel
theorem dX3_partAtComma_28 : decode cX3_partAtComma 28 = .ok (.putfield 90, 3) := by decide +kernel
theorem dX3_partAtComma_31 : decode cX3_partAtComma 31 = .ok (.aload_n 1, 1) := by decide +kernel
theorem dX3_partAtComma_32 : decode cX3_partAtComma 32 = .ok (.iload 4, 2) := by decide +kernel
theorem dX3_partAtComma_34 : decode cX3_partAtComma 34 = .ok (.putfield 93, 3) := by decide +kernel
theorem dX3_partAtComma_37 : decode cX3_partAtComma 37 = .ok (.aload_n 1, 1) := by decide +kernel
theorem dX3_partAtComma_38 : decode cX3_partAtComma 38 = .ok (.iload_n 3, 1) := by decide +kernel
theorem dX3_partAtComma_39 : decode cX3_partAtComma 39 = .ok (.putfield 96, 3) := by decide +kernel
theorem dX3_partAtComma_42 : decode cX3_partAtComma 42 = .ok (.aload_n 1, 1) := by decide +kernel
theorem dX3_partAtComma_43 : decode cX3_partAtComma 43 = .ok (.iload_n 3, 1) := by decide +kernel
theorem dX3_partAtComma_44 : decode cX3_partAtComma 44 = .ok (.putfield 99, 3) := by decide +kernel
theorem dX3_partAtComma_47 : decode cX3_partAtComma 47 = .ok (.aload_n 1, 1) := by decide +kernel
theorem dX3_partAtComma_48 : decode cX3_partAtComma 48 = .ok (.aload_n 0, 1) := by decide +kernel
theorem dX3_partAtComma_49 : decode cX3_partAtComma 49 = .ok (.getfield 25, 3) := by decide +kernel
theorem dX3_partAtComma_52 : decode cX3_partAtComma 52 = .ok (.putfield 102, 3) := by decide +kernel
theorem dX3_partAtComma_55 : decode cX3_partAtComma 55 = .ok (.return_, 1) := by decide +kernel
theorem dX3_partAtParticles_0 : decode cX3_partAtParticles 0 = .ok (.aload_n 0, 1) := by decide +kernel
theorem dX3_partAtParticles_1 : decode cX3_partAtParticles 1 = .ok (.getfield 25, 3) := by decide +kernel
theorem dX3_partAtParticles_4 : decode cX3_partAtParticles 4 = .ok (.iconst 1, 1) := by decide +kernel
theorem dX3_partAtParticles_5 : decode cX3_partAtParticles 5 = .ok (.isub, 1) := by decide +kernel
theorem dX3_partAtParticles_6 : decode cX3_partAtParticles 6 = .ok (.istore_n 3, 1) := by decide +kernel
theorem dX3_partAtParticles_7 : decode cX3_partAtParticles 7 = .ok (.iload_n 2, 1) := by decide +kernel
theorem dX3_partAtParticles_8 : decode cX3_partAtParticles 8 = .ok (.istore 4, 2) := by decide +kernel
theorem dX3_partAtParticles_10 : decode cX3_partAtParticles 10 = .ok (.iload 4, 2) := by decide +kernel
theorem dX3_partAtParticles_12 : decode cX3_partAtParticles 12 = .ok (.iload_n 3, 1) := by decide +kernel
theorem dX3_partAtParticles_13 : decode cX3_partAtParticles 13 = .ok (.if_icmp .ge 18, 3) := by decide +kernel
theorem dX3_partAtParticles_16 : decode cX3_partAtParticles 16 = .ok (.aload_n 0, 1) := by decide +kernel
theorem dX3_partAtParticles_17 : decode cX3_partAtParticles 17 = .ok (.iload 4, 2) := by decide +kernel
theorem dX3_partAtParticles_19 : decode cX3_partAtParticles 19 = .ok (.invokevirtual 86, 3) := by decide +kernel
theorem dX3_partAtParticles_22 : decode cX3_partAtParticles 22 = .ok (.ifCond .ne 9, 3) := by decide +kernel
theorem dX3_partAtParticles_25 : decode cX3_partAtParticles 25 = .ok (.iinc 4 1, 3) := by decide +kernel
theorem dX3_partAtParticles_28 : decode cX3_partAtParticles 28 = .ok (.goto (-18), 3) := by decide +kernel
theorem dX3_partAtParticles_31 : decode cX3_partAtParticles 31 = .ok (.iload_n 3, 1) := by decide +kernel
theorem dX3_partAtParticles_32 : decode cX3_partAtParticles 32 = .ok (.istore 5, 2) := by decide +kernel
theorem dX3_partAtParticles_34 : decode cX3_partAtParticles 34 = .ok (.iload 5, 2) := by decide +kernel
theorem dX3_partAtParticles_36 : decode cX3_partAtParticles 36 = .ok (.iload 4, 2) := by decide +kernel
theorem dX3_partAtParticles_38 : decode cX3_partAtParticles 38 = .ok (.if_icmp .le 20, 3) := by decide +kernel
theorem dX3_partAtParticles_41 : decode cX3_partAtParticles 41 = .ok (.aload_n 0, 1) := by decide +kernel
theorem dX3_partAtParticles_42 : decode cX3_partAtParticles 42 = .ok (.iload 5, 2) := by decide +kernel
theorem dX3_partAtParticles_44 : decode cX3_partAtParticles 44 = .ok (.iconst 1, 1) := by decide +kernel
theorem dX3_partAtParticles_45 : decode cX3_partAtParticles 45 = .ok (.isub, 1) := by decide +kernel
theorem dX3_partAtParticles_46 : decode cX3_partAtParticles 46 = .ok (.invokevirtual 86, 3) := by decide +kernel
theorem dX3_partAtParticles_49 : decode cX3_partAtParticles 49 = .ok (.ifCond .ne 9, 3) := by decide +kernel
theorem dX3_partAtParticles_52 : decode cX3_partAtParticles 52 = .ok (.iinc 5 (-1), 3) := by decide +kernel
theorem dX3_partAtParticles_55 : decode cX3_partAtParticles 55 = .ok (.goto (-21), 3) := by decide +kernel
theorem dX3_partAtParticles_58 : decode cX3_partAtParticles 58 = .ok (.aload_n 1, 1) := by decide +kernel
theorem dX3_partAtParticles_59 : decode cX3_partAtParticles 59 = .ok (.iload_n 2, 1) := by decide +kernel
theorem dX3_partAtParticles_60 : decode cX3_partAtParticles 60 = .ok (.putfield 99, 3) := by decide +kernel
theorem dX3_partAtParticles_63 : decode cX3_partAtParticles 63 = .ok (.aload_n 1, 1) := by decide +kernel
theorem dX3_partAtParticles_64 : decode cX3_partAtParticles 64 = .ok (.iload 4, 2) := by decide +kernel
theorem dX3_partAtParticles_66 : decode cX3_partAtParticles 66 = .ok (.putfield 102, 3) := by decide +kernel
theorem dX3_partAtParticles_69 : decode cX3_partAtParticles 69 = .ok (.aload_n 1, 1) := by decide +kernel
theorem dX3_partAtParticles_70 : decode cX3_partAtParticles 70 = .ok (.iload 4, 2) := by decide +kernel
theorem dX3_partAtParticles_72 : decode cX3_partAtParticles 72 = .ok (.putfield 90, 3) := by decide +kernel
theorem dX3_partAtParticles_75 : decode cX3_partAtParticles 75 = .ok (.aload_n 1, 1) := by decide +kernel
theorem dX3_partAtParticles_76 : decode cX3_partAtParticles 76 = .ok (.iload 5, 2) := by decide +kernel
theorem dX3_partAtParticles_78 : decode cX3_partAtParticles 78 = .ok (.putfield 93, 3) := by decide +kernel
theorem dX3_partAtParticles_81 : decode cX3_partAtParticles 81 = .ok (.aload_n 1, 1) := by decide +kernel
theorem dX3_partAtParticles_82 : decode cX3_partAtParticles 82 = .ok (.aload_n 0, 1) := by decide +kernel
theorem dX3_partAtParticles_83 : decode cX3_partAtParticles 83 = .ok (.getfield 25, 3) := by decide +kernel
theorem dX3_partAtParticles_86 : decode cX3_partAtParticles 86 = .ok (.putfield 96, 3) := by decide +kernel
theorem dX3_partAtParticles_89 : decode cX3_partAtParticles 89 = .ok (.return_, 1) := by decide +kernel
theorem dX3_beginsSmall_0 : decode cX3_beginsSmall 0 = .ok (.aload_n 0, 1) := by decide +kernel
theorem dX3_beginsSmall_1 : decode cX3_beginsSmall 1 = .ok (.getfield 12, 3) := by decide +kernel
theorem dX3_beginsSmall_4 : decode cX3_beginsSmall 4 = .ok (.aload_n 0, 1) := by decide +kernel
theorem dX3_beginsSmall_5 : decode cX3_beginsSmall 5 = .ok (.iload_n 1, 1) := by decide +kernel
theorem dX3_beginsSmall_6 : decode cX3_beginsSmall 6 = .ok (.invokevirtual 105, 3) := by decide +kernel
theorem dX3_beginsSmall_9 : decode cX3_beginsSmall 9 = .ok (.invokevirtual 50, 3) := by decide +kernel
theorem dX3_beginsSmall_12 : decode cX3_beginsSmall 12 = .ok (.invokestatic 108, 3) := by decide +kernel
theorem dX3_beginsSmall_15 : decode cX3_beginsSmall 15 = .ok (.ireturn, 1) := by decide +kernel
theorem dX3_wordStart_0 : decode cX3_wordStart 0 = .ok (.iload_n 1, 1) := by decide +kernel
theorem dX3_wordStart_1 : decode cX3_wordStart 1 = .ok (.ifCond .lt 20, 3) := by decide +kernel
theorem dX3_wordStart_4 : decode cX3_wordStart 4 = .ok (.iload_n 1, 1) := by decide +kernel
theorem dX3_wordStart_5 : decode cX3_wordStart 5 = .ok (.aload_n 0, 1) := by decide +kernel
theorem dX3_wordStart_6 : decode cX3_wordStart 6 = .ok (.getfield 25, 3) := by decide +kernel
theorem dX3_wordStart_9 : decode cX3_wordStart 9 = .ok (.if_icmp .ge 12, 3) := by decide +kernel
theorem dX3_wordStart_12 : decode cX3_wordStart 12 = .ok (.aload_n 0, 1) := by decide +kernel
theorem dX3_wordStart_13 : decode cX3_wordStart 13 = .ok (.getfield 18, 3) := by decide +kernel
theorem dX3_wordStart_16 : decode cX3_wordStart 16 = .ok (.iload_n 1, 1) := by decide +kernel
theorem dX3_wordStart_17 : decode cX3_wordStart 17 = .ok (.iaload, 1) := by decide +kernel
theorem dX3_wordStart_18 : decode cX3_wordStart 18 = .ok (.goto 4, 3) := by decide +kernel
theorem dX3_wordStart_21 : decode cX3_wordStart 21 = .ok (.iconst 0, 1) := by decide +kernel
theorem dX3_wordStart_22 : decode cX3_wordStart 22 = .ok (.ireturn, 1) := by decide +kernel
theorem dX3_personAt_0 : decode cX3_personAt 0 = .ok (.iload_n 1, 1) := by decide +kernel
theorem dX3_personAt_1 : decode cX3_personAt 1 = .ok (.ifCond .lt 28, 3) := by decide +kernel
theorem dX3_personAt_4 : decode cX3_personAt 4 = .ok (.iload_n 1, 1) := by decide +kernel
theorem dX3_personAt_5 : decode cX3_personAt 5 = .ok (.aload_n 0, 1) := by decide +kernel
theorem dX3_personAt_6 : decode cX3_personAt 6 = .ok (.getfield 32, 3) := by decide +kernel
theorem dX3_personAt_9 : decode cX3_personAt 9 = .ok (.invokevirtual 77, 3) := by decide +kernel
theorem dX3_personAt_12 : decode cX3_personAt 12 = .ok (.if_icmp .ge 17, 3) := by decide +kernel
theorem dX3_personAt_15 : decode cX3_personAt 15 = .ok (.aload_n 0, 1) := by decide +kernel
theorem dX3_personAt_16 : decode cX3_personAt 16 = .ok (.getfield 32, 3) := by decide +kernel
theorem dX3_personAt_19 : decode cX3_personAt 19 = .ok (.iload_n 1, 1) := by decide +kernel
theorem dX3_personAt_20 : decode cX3_personAt 20 = .ok (.invokevirtual 82, 3) := by decide +kernel
theorem dX3_personAt_23 : decode cX3_personAt 23 = .ok (.checkcast 36, 3) := by decide +kernel
theorem dX3_personAt_26 : decode cX3_personAt 26 = .ok (.goto 7, 3) := by decide +kernel
theorem dX3_personAt_29 : decode cX3_personAt 29 = .ok (.aload_n 0, 1) := by decide +kernel
theorem dX3_personAt_30 : decode cX3_personAt 30 = .ok (.getfield 39, 3) := by decide +kernel
theorem dX3_personAt_33 : decode cX3_personAt 33 = .ok (.areturn, 1) := by decide +kernel
theorem dX3_hasGiven_0 : decode cX3_hasGiven 0 = .ok (.aload_n 0, 1) := by decide +kernel
theorem dX3_hasGiven_1 : decode cX3_hasGiven 1 = .ok (.iload_n 1, 1) := by decide +kernel
theorem dX3_hasGiven_2 : decode cX3_hasGiven 2 = .ok (.invokevirtual 111, 3) := by decide +kernel
theorem dX3_hasGiven_5 : decode cX3_hasGiven 5 = .ok (.invokevirtual 115, 3) := by decide +kernel
theorem dX3_hasGiven_8 : decode cX3_hasGiven 8 = .ok (.ireturn, 1) := by decide +kernel
theorem dX3_addName_0 : decode cX3_addName 0 = .ok (.aload_n 0, 1) := by decide +kernel
theorem dX3_addName_1 : decode cX3_addName 1 = .ok (.aload_n 0, 1) := by decide +kernel
theorem dX3_addName_2 : decode cX3_addName 2 = .ok (.iload_n 1, 1) := by decide +kernel
theorem dX3_addName_3 : decode cX3_addName 3 = .ok (.invokevirtual 111, 3) := by decide +kernel
theorem dX3_addName_6 : decode cX3_addName 6 = .ok (.getfield 90, 3) := by decide +kernel
theorem dX3_addName_9 : decode cX3_addName 9 = .ok (.aload_n 0, 1) := by decide +kernel
theorem dX3_addName_10 : decode cX3_addName 10 = .ok (.iload_n 1, 1) := by decide +kernel
theorem dX3_addName_11 : decode cX3_addName 11 = .ok (.invokevirtual 111, 3) := by decide +kernel
theorem dX3_addName_14 : decode cX3_addName 14 = .ok (.getfield 96, 3) := by decide +kernel
theorem dX3_addName_17 : decode cX3_addName 17 = .ok (.aload_n 2, 1) := by decide +kernel
theorem dX3_addName_18 : decode cX3_addName 18 = .ok (.invokevirtual 119, 3) := by decide +kernel
theorem dX3_addName_21 : decode cX3_addName 21 = .ok (.return_, 1) := by decide +kernel
theorem dX3_addFamily_0 : decode cX3_addFamily 0 = .ok (.aload_n 0, 1) := by decide +kernel
theorem dX3_addFamily_1 : decode cX3_addFamily 1 = .ok (.aload_n 0, 1) := by decide +kernel
theorem dX3_addFamily_2 : decode cX3_addFamily 2 = .ok (.iload_n 1, 1) := by decide +kernel
theorem dX3_addFamily_3 : decode cX3_addFamily 3 = .ok (.invokevirtual 111, 3) := by decide +kernel
theorem dX3_addFamily_6 : decode cX3_addFamily 6 = .ok (.getfield 93, 3) := by decide +kernel
theorem dX3_addFamily_9 : decode cX3_addFamily 9 = .ok (.aload_n 0, 1) := by decide +kernel
theorem dX3_addFamily_10 : decode cX3_addFamily 10 = .ok (.iload_n 1, 1) := by decide +kernel
theorem dX3_addFamily_11 : decode cX3_addFamily 11 = .ok (.invokevirtual 111, 3) := by decide +kernel
theorem dX3_addFamily_14 : decode cX3_addFamily 14 = .ok (.getfield 96, 3) := by decide +kernel
theorem dX3_addFamily_17 : decode cX3_addFamily 17 = .ok (.aload_n 2, 1) := by decide +kernel
theorem dX3_addFamily_18 : decode cX3_addFamily 18 = .ok (.invokevirtual 119, 3) := by decide +kernel
theorem dX3_addFamily_21 : decode cX3_addFamily 21 = .ok (.return_, 1) := by decide +kernel
theorem dX3_addInitials_0 : decode cX3_addInitials 0 = .ok (.aload_n 0, 1) := by decide +kernel
theorem dX3_addInitials_1 : decode cX3_addInitials 1 = .ok (.iload_n 1, 1) := by decide +kernel
theorem dX3_addInitials_2 : decode cX3_addInitials 2 = .ok (.invokevirtual 111, 3) := by decide +kernel
theorem dX3_addInitials_5 : decode cX3_addInitials 5 = .ok (.astore_n 3, 1) := by decide +kernel
theorem dX3_addInitials_6 : decode cX3_addInitials 6 = .ok (.aload_n 3, 1) := by decide +kernel
theorem dX3_addInitials_7 : decode cX3_addInitials 7 = .ok (.getfield 99, 3) := by decide +kernel
theorem dX3_addInitials_10 : decode cX3_addInitials 10 = .ok (.istore 4, 2) := by decide +kernel
theorem dX3_addInitials_12 : decode cX3_addInitials 12 = .ok (.iload 4, 2) := by decide +kernel
theorem dX3_addInitials_14 : decode cX3_addInitials 14 = .ok (.aload_n 3, 1) := by decide +kernel
theorem dX3_addInitials_15 : decode cX3_addInitials 15 = .ok (.getfield 102, 3) := by decide +kernel
theorem dX3_addInitials_18 : decode cX3_addInitials 18 = .ok (.if_icmp .ge 47, 3) := by decide +kernel
theorem dX3_addInitials_21 : decode cX3_addInitials 21 = .ok (.iload 4, 2) := by decide +kernel
theorem dX3_addInitials_23 : decode cX3_addInitials 23 = .ok (.aload_n 3, 1) := by decide +kernel
theorem dX3_addInitials_24 : decode cX3_addInitials 24 = .ok (.getfield 99, 3) := by decide +kernel
theorem dX3_addInitials_27 : decode cX3_addInitials 27 = .ok (.if_icmp .le 9, 3) := by decide +kernel
theorem dX3_addInitials_30 : decode cX3_addInitials 30 = .ok (.aload_n 2, 1) := by decide +kernel
theorem dX3_addInitials_31 : decode cX3_addInitials 31 = .ok (.bipush 32, 2) := by decide +kernel
theorem dX3_addInitials_33 : decode cX3_addInitials 33 = .ok (.invokevirtual 123, 3) := by decide +kernel
theorem dX3_addInitials_36 : decode cX3_addInitials 36 = .ok (.aload_n 2, 1) := by decide +kernel
theorem dX3_addInitials_37 : decode cX3_addInitials 37 = .ok (.aload_n 0, 1) := by decide +kernel
theorem dX3_addInitials_38 : decode cX3_addInitials 38 = .ok (.getfield 12, 3) := by decide +kernel
theorem dX3_addInitials_41 : decode cX3_addInitials 41 = .ok (.aload_n 0, 1) := by decide +kernel
theorem dX3_addInitials_42 : decode cX3_addInitials 42 = .ok (.iload 4, 2) := by decide +kernel
theorem dX3_addInitials_44 : decode cX3_addInitials 44 = .ok (.invokevirtual 105, 3) := by decide +kernel
theorem dX3_addInitials_47 : decode cX3_addInitials 47 = .ok (.invokevirtual 50, 3) := by decide +kernel
theorem dX3_addInitials_50 : decode cX3_addInitials 50 = .ok (.invokevirtual 123, 3) := by decide +kernel
theorem dX3_addInitials_53 : decode cX3_addInitials 53 = .ok (.aload_n 2, 1) := by decide +kernel
theorem dX3_addInitials_54 : decode cX3_addInitials 54 = .ok (.bipush 46, 2) := by decide +kernel
theorem dX3_addInitials_56 : decode cX3_addInitials 56 = .ok (.invokevirtual 123, 3) := by decide +kernel
theorem dX3_addInitials_59 : decode cX3_addInitials 59 = .ok (.iinc 4 1, 3) := by decide +kernel
theorem dX3_addInitials_62 : decode cX3_addInitials 62 = .ok (.goto (-50), 3) := by decide +kernel
theorem dX3_addInitials_65 : decode cX3_addInitials 65 = .ok (.return_, 1) := by decide +kernel
theorem dX3_addWords_0 : decode cX3_addWords 0 = .ok (.iload_n 1, 1) := by decide +kernel
theorem dX3_addWords_1 : decode cX3_addWords 1 = .ok (.iconst 0, 1) := by decide +kernel
theorem dX3_addWords_2 : decode cX3_addWords 2 = .ok (.invokestatic 127, 3) := by decide +kernel
theorem dX3_addWords_5 : decode cX3_addWords 5 = .ok (.istore 4, 2) := by decide +kernel
theorem dX3_addWords_7 : decode cX3_addWords 7 = .ok (.iload 4, 2) := by decide +kernel
theorem dX3_addWords_9 : decode cX3_addWords 9 = .ok (.iload_n 2, 1) := by decide +kernel
theorem dX3_addWords_10 : decode cX3_addWords 10 = .ok (.if_icmp .ge 70, 3) := by decide +kernel
theorem dX3_addWords_13 : decode cX3_addWords 13 = .ok (.iload 4, 2) := by decide +kernel
theorem dX3_addWords_15 : decode cX3_addWords 15 = .ok (.aload_n 0, 1) := by decide +kernel
theorem dX3_addWords_16 : decode cX3_addWords 16 = .ok (.getfield 25, 3) := by decide +kernel
theorem dX3_addWords_19 : decode cX3_addWords 19 = .ok (.if_icmp .ge 61, 3) := by decide +kernel
theorem dX3_addWords_22 : decode cX3_addWords 22 = .ok (.iload 4, 2) := by decide +kernel
theorem dX3_addWords_24 : decode cX3_addWords 24 = .ok (.iload_n 1, 1) := by decide +kernel
theorem dX3_addWords_25 : decode cX3_addWords 25 = .ok (.if_icmp .le 9, 3) := by decide +kernel
theorem dX3_addWords_28 : decode cX3_addWords 28 = .ok (.aload_n 3, 1) := by decide +kernel
theorem dX3_addWords_29 : decode cX3_addWords 29 = .ok (.bipush 32, 2) := by decide +kernel
theorem dX3_addWords_31 : decode cX3_addWords 31 = .ok (.invokevirtual 123, 3) := by decide +kernel
theorem dX3_addWords_34 : decode cX3_addWords 34 = .ok (.aload_n 0, 1) := by decide +kernel
theorem dX3_addWords_35 : decode cX3_addWords 35 = .ok (.getfield 18, 3) := by decide +kernel
theorem dX3_addWords_38 : decode cX3_addWords 38 = .ok (.iload 4, 2) := by decide +kernel
theorem dX3_addWords_40 : decode cX3_addWords 40 = .ok (.iaload, 1) := by decide +kernel
theorem dX3_addWords_41 : decode cX3_addWords 41 = .ok (.istore 5, 2) := by decide +kernel
theorem dX3_addWords_43 : decode cX3_addWords 43 = .ok (.iload 5, 2) := by decide +kernel
theorem dX3_addWords_45 : decode cX3_addWords 45 = .ok (.aload_n 0, 1) := by decide +kernel
theorem dX3_addWords_46 : decode cX3_addWords 46 = .ok (.getfield 22, 3) := by decide +kernel
theorem dX3_addWords_49 : decode cX3_addWords 49 = .ok (.iload 4, 2) := by decide +kernel
theorem dX3_addWords_51 : decode cX3_addWords 51 = .ok (.iaload, 1) := by decide +kernel
theorem dX3_addWords_52 : decode cX3_addWords 52 = .ok (.if_icmp .ge 22, 3) := by decide +kernel
theorem dX3_addWords_55 : decode cX3_addWords 55 = .ok (.aload_n 3, 1) := by decide +kernel
theorem dX3_addWords_56 : decode cX3_addWords 56 = .ok (.aload_n 0, 1) := by decide +kernel
theorem dX3_addWords_57 : decode cX3_addWords 57 = .ok (.getfield 12, 3) := by decide +kernel
theorem dX3_addWords_60 : decode cX3_addWords 60 = .ok (.iload 5, 2) := by decide +kernel
theorem dX3_addWords_62 : decode cX3_addWords 62 = .ok (.invokevirtual 50, 3) := by decide +kernel
theorem dX3_addWords_65 : decode cX3_addWords 65 = .ok (.invokevirtual 123, 3) := by decide +kernel
theorem dX3_addWords_68 : decode cX3_addWords 68 = .ok (.iinc 5 1, 3) := by decide +kernel
theorem dX3_addWords_71 : decode cX3_addWords 71 = .ok (.goto (-28), 3) := by decide +kernel
theorem dX3_addWords_74 : decode cX3_addWords 74 = .ok (.iinc 4 1, 3) := by decide +kernel
theorem dX3_addWords_77 : decode cX3_addWords 77 = .ok (.goto (-70), 3) := by decide +kernel
theorem dX3_addWords_80 : decode cX3_addWords 80 = .ok (.return_, 1) := by decide +kernel
theorem dX3_addOrder_0 : decode cX3_addOrder 0 = .ok (.iconst 0, 1) := by decide +kernel
theorem dX3_addOrder_1 : decode cX3_addOrder 1 = .ok (.istore_n 2, 1) := by decide +kernel
theorem dX3_addOrder_2 : decode cX3_addOrder 2 = .ok (.iload_n 2, 1) := by decide +kernel
theorem dX3_addOrder_3 : decode cX3_addOrder 3 = .ok (.aload_n 0, 1) := by decide +kernel
theorem dX3_addOrder_4 : decode cX3_addOrder 4 = .ok (.getfield 43, 3) := by decide +kernel
theorem dX3_addOrder_7 : decode cX3_addOrder 7 = .ok (.if_icmp .ge 69, 3) := by decide +kernel
theorem dX3_addOrder_10 : decode cX3_addOrder 10 = .ok (.aload_n 0, 1) := by decide +kernel
theorem dX3_addOrder_11 : decode cX3_addOrder 11 = .ok (.iload_n 2, 1) := by decide +kernel
theorem dX3_addOrder_12 : decode cX3_addOrder 12 = .ok (.invokevirtual 111, 3) := by decide +kernel
theorem dX3_addOrder_15 : decode cX3_addOrder 15 = .ok (.astore_n 3, 1) := by decide +kernel
theorem dX3_addOrder_16 : decode cX3_addOrder 16 = .ok (.aload_n 0, 1) := by decide +kernel
theorem dX3_addOrder_17 : decode cX3_addOrder 17 = .ok (.aload_n 3, 1) := by decide +kernel
theorem dX3_addOrder_18 : decode cX3_addOrder 18 = .ok (.getfield 93, 3) := by decide +kernel
theorem dX3_addOrder_21 : decode cX3_addOrder 21 = .ok (.aload_n 3, 1) := by decide +kernel
theorem dX3_addOrder_22 : decode cX3_addOrder 22 = .ok (.getfield 96, 3) := by decide +kernel
theorem dX3_addOrder_25 : decode cX3_addOrder 25 = .ok (.aload_n 1, 1) := by decide +kernel
theorem dX3_addOrder_26 : decode cX3_addOrder 26 = .ok (.invokevirtual 119, 3) := by decide +kernel
theorem dX3_addOrder_29 : decode cX3_addOrder 29 = .ok (.aload_n 1, 1) := by decide +kernel
theorem dX3_addOrder_30 : decode cX3_addOrder 30 = .ok (.iconst 1, 1) := by decide +kernel
theorem dX3_addOrder_31 : decode cX3_addOrder 31 = .ok (.invokevirtual 123, 3) := by decide +kernel
theorem dX3_addOrder_34 : decode cX3_addOrder 34 = .ok (.aload_n 0, 1) := by decide +kernel
theorem dX3_addOrder_35 : decode cX3_addOrder 35 = .ok (.aload_n 3, 1) := by decide +kernel
theorem dX3_addOrder_36 : decode cX3_addOrder 36 = .ok (.getfield 99, 3) := by decide +kernel
theorem dX3_addOrder_39 : decode cX3_addOrder 39 = .ok (.aload_n 3, 1) := by decide +kernel
theorem dX3_addOrder_40 : decode cX3_addOrder 40 = .ok (.getfield 102, 3) := by decide +kernel
theorem dX3_addOrder_43 : decode cX3_addOrder 43 = .ok (.aload_n 1, 1) := by decide +kernel
theorem dX3_addOrder_44 : decode cX3_addOrder 44 = .ok (.invokevirtual 119, 3) := by decide +kernel
theorem dX3_addOrder_47 : decode cX3_addOrder 47 = .ok (.aload_n 1, 1) := by decide +kernel
theorem dX3_addOrder_48 : decode cX3_addOrder 48 = .ok (.iconst 1, 1) := by decide +kernel
theorem dX3_addOrder_49 : decode cX3_addOrder 49 = .ok (.invokevirtual 123, 3) := by decide +kernel
theorem dX3_addOrder_52 : decode cX3_addOrder 52 = .ok (.aload_n 0, 1) := by decide +kernel
theorem dX3_addOrder_53 : decode cX3_addOrder 53 = .ok (.aload_n 3, 1) := by decide +kernel
theorem dX3_addOrder_54 : decode cX3_addOrder 54 = .ok (.getfield 90, 3) := by decide +kernel
theorem dX3_addOrder_57 : decode cX3_addOrder 57 = .ok (.aload_n 3, 1) := by decide +kernel
theorem dX3_addOrder_58 : decode cX3_addOrder 58 = .ok (.getfield 93, 3) := by decide +kernel
theorem dX3_addOrder_61 : decode cX3_addOrder 61 = .ok (.aload_n 1, 1) := by decide +kernel
theorem dX3_addOrder_62 : decode cX3_addOrder 62 = .ok (.invokevirtual 119, 3) := by decide +kernel
theorem dX3_addOrder_65 : decode cX3_addOrder 65 = .ok (.aload_n 1, 1) := by decide +kernel
theorem dX3_addOrder_66 : decode cX3_addOrder 66 = .ok (.iconst 1, 1) := by decide +kernel
theorem dX3_addOrder_67 : decode cX3_addOrder 67 = .ok (.invokevirtual 123, 3) := by decide +kernel
theorem dX3_addOrder_70 : decode cX3_addOrder 70 = .ok (.iinc 2 1, 3) := by decide +kernel
theorem dX3_addOrder_73 : decode cX3_addOrder 73 = .ok (.goto (-71), 3) := by decide +kernel
theorem dX3_addOrder_76 : decode cX3_addOrder 76 = .ok (.aload_n 1, 1) := by decide +kernel
theorem dX3_addOrder_77 : decode cX3_addOrder 77 = .ok (.iconst 0, 1) := by decide +kernel
theorem dX3_addOrder_78 : decode cX3_addOrder 78 = .ok (.invokevirtual 123, 3) := by decide +kernel
theorem dX3_addOrder_81 : decode cX3_addOrder 81 = .ok (.return_, 1) := by decide +kernel
theorem dX3_addPiece_0 : decode cX3_addPiece 0 = .ok (.aload_n 0, 1) := by decide +kernel
theorem dX3_addPiece_1 : decode cX3_addPiece 1 = .ok (.getfield 43, 3) := by decide +kernel
theorem dX3_addPiece_4 : decode cX3_addPiece 4 = .ok (.iconst 3, 1) := by decide +kernel
theorem dX3_addPiece_5 : decode cX3_addPiece 5 = .ok (.if_icmp .le 7, 3) := by decide +kernel
theorem dX3_addPiece_8 : decode cX3_addPiece 8 = .ok (.iconst 1, 1) := by decide +kernel
theorem dX3_addPiece_9 : decode cX3_addPiece 9 = .ok (.goto 7, 3) := by decide +kernel
theorem dX3_addPiece_12 : decode cX3_addPiece 12 = .ok (.aload_n 0, 1) := by decide +kernel
theorem dX3_addPiece_13 : decode cX3_addPiece 13 = .ok (.getfield 43, 3) := by decide +kernel
theorem dX3_addPiece_16 : decode cX3_addPiece 16 = .ok (.istore_n 2, 1) := by decide +kernel
theorem dX3_addPiece_17 : decode cX3_addPiece 17 = .ok (.iconst 0, 1) := by decide +kernel
theorem dX3_addPiece_18 : decode cX3_addPiece 18 = .ok (.istore_n 3, 1) := by decide +kernel
theorem dX3_addPiece_19 : decode cX3_addPiece 19 = .ok (.iload_n 3, 1) := by decide +kernel
theorem dX3_addPiece_20 : decode cX3_addPiece 20 = .ok (.iload_n 2, 1) := by decide +kernel
theorem dX3_addPiece_21 : decode cX3_addPiece 21 = .ok (.if_icmp .ge 57, 3) := by decide +kernel
theorem dX3_addPiece_24 : decode cX3_addPiece 24 = .ok (.iload_n 3, 1) := by decide +kernel
theorem dX3_addPiece_25 : decode cX3_addPiece 25 = .ok (.ifCond .le 21, 3) := by decide +kernel
theorem dX3_addPiece_28 : decode cX3_addPiece 28 = .ok (.aload_n 1, 1) := by decide +kernel
theorem dX3_addPiece_29 : decode cX3_addPiece 29 = .ok (.iload_n 3, 1) := by decide +kernel
theorem dX3_addPiece_30 : decode cX3_addPiece 30 = .ok (.iload_n 2, 1) := by decide +kernel
theorem dX3_addPiece_31 : decode cX3_addPiece 31 = .ok (.iconst 1, 1) := by decide +kernel
theorem dX3_addPiece_32 : decode cX3_addPiece 32 = .ok (.isub, 1) := by decide +kernel
theorem dX3_addPiece_33 : decode cX3_addPiece 33 = .ok (.if_icmp .ne 8, 3) := by decide +kernel
theorem dX3_addPiece_36 : decode cX3_addPiece 36 = .ok (.ldc 133, 2) := by decide +kernel
theorem dX3_addPiece_38 : decode cX3_addPiece 38 = .ok (.goto 5, 3) := by decide +kernel
theorem dX3_addPiece_41 : decode cX3_addPiece 41 = .ok (.ldc 135, 2) := by decide +kernel
theorem dX3_addPiece_43 : decode cX3_addPiece 43 = .ok (.invokevirtual 137, 3) := by decide +kernel
theorem dX3_addPiece_46 : decode cX3_addPiece 46 = .ok (.aload_n 0, 1) := by decide +kernel
theorem dX3_addPiece_47 : decode cX3_addPiece 47 = .ok (.iload_n 3, 1) := by decide +kernel
theorem dX3_addPiece_48 : decode cX3_addPiece 48 = .ok (.aload_n 1, 1) := by decide +kernel
theorem dX3_addPiece_49 : decode cX3_addPiece 49 = .ok (.invokevirtual 141, 3) := by decide +kernel
theorem dX3_addPiece_52 : decode cX3_addPiece 52 = .ok (.aload_n 0, 1) := by decide +kernel
theorem dX3_addPiece_53 : decode cX3_addPiece 53 = .ok (.iload_n 3, 1) := by decide +kernel
theorem dX3_addPiece_54 : decode cX3_addPiece 54 = .ok (.invokevirtual 145, 3) := by decide +kernel
theorem dX3_addPiece_57 : decode cX3_addPiece 57 = .ok (.ifCond .eq 15, 3) := by decide +kernel
theorem dX3_addPiece_60 : decode cX3_addPiece 60 = .ok (.aload_n 1, 1) := by decide +kernel
theorem dX3_addPiece_61 : decode cX3_addPiece 61 = .ok (.ldc 135, 2) := by decide +kernel
theorem dX3_addPiece_63 : decode cX3_addPiece 63 = .ok (.invokevirtual 137, 3) := by decide +kernel
theorem dX3_addPiece_66 : decode cX3_addPiece 66 = .ok (.aload_n 0, 1) := by decide +kernel
theorem dX3_addPiece_67 : decode cX3_addPiece 67 = .ok (.iload_n 3, 1) := by decide +kernel
theorem dX3_addPiece_68 : decode cX3_addPiece 68 = .ok (.aload_n 1, 1) := by decide +kernel
theorem dX3_addPiece_69 : decode cX3_addPiece 69 = .ok (.invokevirtual 147, 3) := by decide +kernel
theorem dX3_addPiece_72 : decode cX3_addPiece 72 = .ok (.iinc 3 1, 3) := by decide +kernel
theorem dX3_addPiece_75 : decode cX3_addPiece 75 = .ok (.goto (-56), 3) := by decide +kernel
theorem dX3_addPiece_78 : decode cX3_addPiece 78 = .ok (.iload_n 2, 1) := by decide +kernel
theorem dX3_addPiece_79 : decode cX3_addPiece 79 = .ok (.aload_n 0, 1) := by decide +kernel
theorem dX3_addPiece_80 : decode cX3_addPiece 80 = .ok (.getfield 43, 3) := by decide +kernel
theorem dX3_addPiece_83 : decode cX3_addPiece 83 = .ok (.if_icmp .ge 9, 3) := by decide +kernel
theorem dX3_addPiece_86 : decode cX3_addPiece 86 = .ok (.aload_n 1, 1) := by decide +kernel
theorem dX3_addPiece_87 : decode cX3_addPiece 87 = .ok (.ldc 150, 2) := by decide +kernel
theorem dX3_addPiece_89 : decode cX3_addPiece 89 = .ok (.invokevirtual 137, 3) := by decide +kernel
theorem dX3_addPiece_92 : decode cX3_addPiece 92 = .ok (.return_, 1) := by decide +kernel
theorem dX3_addFamilySigns_0 : decode cX3_addFamilySigns 0 = .ok (.iconst 0, 1) := by decide +kernel
theorem dX3_addFamilySigns_1 : decode cX3_addFamilySigns 1 = .ok (.istore_n 2, 1) := by decide +kernel
theorem dX3_addFamilySigns_2 : decode cX3_addFamilySigns 2 = .ok (.iload_n 2, 1) := by decide +kernel
theorem dX3_addFamilySigns_3 : decode cX3_addFamilySigns 3 = .ok (.aload_n 0, 1) := by decide +kernel
theorem dX3_addFamilySigns_4 : decode cX3_addFamilySigns 4 = .ok (.getfield 43, 3) := by decide +kernel
theorem dX3_addFamilySigns_7 : decode cX3_addFamilySigns 7 = .ok (.if_icmp .ge 50, 3) := by decide +kernel
theorem dX3_addFamilySigns_10 : decode cX3_addFamilySigns 10 = .ok (.iload_n 2, 1) := by decide +kernel
theorem dX3_addFamilySigns_11 : decode cX3_addFamilySigns 11 = .ok (.iconst 4, 1) := by decide +kernel
theorem dX3_addFamilySigns_12 : decode cX3_addFamilySigns 12 = .ok (.if_icmp .ge 45, 3) := by decide +kernel
theorem dX3_addFamilySigns_15 : decode cX3_addFamilySigns 15 = .ok (.aload_n 0, 1) := by decide +kernel
theorem dX3_addFamilySigns_16 : decode cX3_addFamilySigns 16 = .ok (.iload_n 2, 1) := by decide +kernel
theorem dX3_addFamilySigns_17 : decode cX3_addFamilySigns 17 = .ok (.invokevirtual 111, 3) := by decide +kernel
theorem dX3_addFamilySigns_20 : decode cX3_addFamilySigns 20 = .ok (.astore_n 3, 1) := by decide +kernel
theorem dX3_addFamilySigns_21 : decode cX3_addFamilySigns 21 = .ok (.aload_n 3, 1) := by decide +kernel
theorem dX3_addFamilySigns_22 : decode cX3_addFamilySigns 22 = .ok (.getfield 93, 3) := by decide +kernel
theorem dX3_addFamilySigns_25 : decode cX3_addFamilySigns 25 = .ok (.aload_n 3, 1) := by decide +kernel
theorem dX3_addFamilySigns_26 : decode cX3_addFamilySigns 26 = .ok (.getfield 96, 3) := by decide +kernel
theorem dX3_addFamilySigns_29 : decode cX3_addFamilySigns 29 = .ok (.if_icmp .ge 22, 3) := by decide +kernel
theorem dX3_addFamilySigns_32 : decode cX3_addFamilySigns 32 = .ok (.aload_n 1, 1) := by decide +kernel
theorem dX3_addFamilySigns_33 : decode cX3_addFamilySigns 33 = .ok (.aload_n 0, 1) := by decide +kernel
theorem dX3_addFamilySigns_34 : decode cX3_addFamilySigns 34 = .ok (.getfield 12, 3) := by decide +kernel
theorem dX3_addFamilySigns_37 : decode cX3_addFamilySigns 37 = .ok (.aload_n 0, 1) := by decide +kernel
theorem dX3_addFamilySigns_38 : decode cX3_addFamilySigns 38 = .ok (.aload_n 3, 1) := by decide +kernel
theorem dX3_addFamilySigns_39 : decode cX3_addFamilySigns 39 = .ok (.getfield 93, 3) := by decide +kernel
theorem dX3_addFamilySigns_42 : decode cX3_addFamilySigns 42 = .ok (.invokevirtual 105, 3) := by decide +kernel
theorem dX3_addFamilySigns_45 : decode cX3_addFamilySigns 45 = .ok (.invokevirtual 50, 3) := by decide +kernel
theorem dX3_addFamilySigns_48 : decode cX3_addFamilySigns 48 = .ok (.invokevirtual 123, 3) := by decide +kernel
theorem dX3_addFamilySigns_51 : decode cX3_addFamilySigns 51 = .ok (.iinc 2 1, 3) := by decide +kernel
theorem dX3_addFamilySigns_54 : decode cX3_addFamilySigns 54 = .ok (.goto (-52), 3) := by decide +kernel
theorem dX3_addFamilySigns_57 : decode cX3_addFamilySigns 57 = .ok (.aload_n 0, 1) := by decide +kernel
theorem dX3_addFamilySigns_58 : decode cX3_addFamilySigns 58 = .ok (.getfield 43, 3) := by decide +kernel
theorem dX3_addFamilySigns_61 : decode cX3_addFamilySigns 61 = .ok (.iconst 4, 1) := by decide +kernel
theorem dX3_addFamilySigns_62 : decode cX3_addFamilySigns 62 = .ok (.if_icmp .le 9, 3) := by decide +kernel
theorem dX3_addFamilySigns_65 : decode cX3_addFamilySigns 65 = .ok (.aload_n 1, 1) := by decide +kernel
theorem dX3_addFamilySigns_66 : decode cX3_addFamilySigns 66 = .ok (.bipush 43, 2) := by decide +kernel
theorem dX3_addFamilySigns_68 : decode cX3_addFamilySigns 68 = .ok (.invokevirtual 123, 3) := by decide +kernel
theorem dX3_addFamilySigns_71 : decode cX3_addFamilySigns 71 = .ok (.return_, 1) := by decide +kernel
theorem dX4_init_0 : decode cX4_init 0 = .ok (.aload_n 0, 1) := by decide +kernel
theorem dX4_init_1 : decode cX4_init 1 = .ok (.invokespecial 3, 3) := by decide +kernel
theorem dX4_init_4 : decode cX4_init 4 = .ok (.aload_n 0, 1) := by decide +kernel
