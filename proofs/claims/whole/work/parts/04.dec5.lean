theorem dX7_makeBase_75 : decode cX7_makeBase 75 = .ok (.istore 4, 2) := by decide +kernel
theorem dX7_makeBase_77 : decode cX7_makeBase 77 = .ok (.iload 4, 2) := by decide +kernel
theorem dX7_makeBase_79 : decode cX7_makeBase 79 = .ok (.aload_n 0, 1) := by decide +kernel
theorem dX7_makeBase_80 : decode cX7_makeBase 80 = .ok (.getfield 136, 3) := by decide +kernel
theorem dX7_makeBase_83 : decode cX7_makeBase 83 = .ok (.if_icmp .ge 29, 3) := by decide +kernel
theorem dX7_makeBase_86 : decode cX7_makeBase 86 = .ok (.aload_n 0, 1) := by decide +kernel
theorem dX7_makeBase_87 : decode cX7_makeBase 87 = .ok (.getfield 67, 3) := by decide +kernel
theorem dX7_makeBase_90 : decode cX7_makeBase 90 = .ok (.sipush 400, 3) := by decide +kernel
theorem dX7_makeBase_93 : decode cX7_makeBase 93 = .ok (.iload_n 1, 1) := by decide +kernel
theorem dX7_makeBase_94 : decode cX7_makeBase 94 = .ok (.imul, 1) := by decide +kernel
theorem dX7_makeBase_95 : decode cX7_makeBase 95 = .ok (.iload 4, 2) := by decide +kernel
theorem dX7_makeBase_97 : decode cX7_makeBase 97 = .ok (.iadd, 1) := by decide +kernel
theorem dX7_makeBase_98 : decode cX7_makeBase 98 = .ok (.aload_n 0, 1) := by decide +kernel
theorem dX7_makeBase_99 : decode cX7_makeBase 99 = .ok (.getfield 52, 3) := by decide +kernel
theorem dX7_makeBase_102 : decode cX7_makeBase 102 = .ok (.iload 4, 2) := by decide +kernel
theorem dX7_makeBase_104 : decode cX7_makeBase 104 = .ok (.iaload, 1) := by decide +kernel
theorem dX7_makeBase_105 : decode cX7_makeBase 105 = .ok (.iastore, 1) := by decide +kernel
theorem dX7_makeBase_106 : decode cX7_makeBase 106 = .ok (.iinc 4 1, 3) := by decide +kernel
theorem dX7_makeBase_109 : decode cX7_makeBase 109 = .ok (.goto (-32), 3) := by decide +kernel
theorem dX7_makeBase_112 : decode cX7_makeBase 112 = .ok (.return_, 1) := by decide +kernel
theorem dX7_isSameBase_0 : decode cX7_isSameBase 0 = .ok (.aload_n 0, 1) := by decide +kernel
theorem dX7_isSameBase_1 : decode cX7_isSameBase 1 = .ok (.getfield 64, 3) := by decide +kernel
theorem dX7_isSameBase_4 : decode cX7_isSameBase 4 = .ok (.iload_n 1, 1) := by decide +kernel
theorem dX7_isSameBase_5 : decode cX7_isSameBase 5 = .ok (.iaload, 1) := by decide +kernel
theorem dX7_isSameBase_6 : decode cX7_isSameBase 6 = .ok (.aload_n 0, 1) := by decide +kernel
theorem dX7_isSameBase_7 : decode cX7_isSameBase 7 = .ok (.getfield 64, 3) := by decide +kernel
theorem dX7_isSameBase_10 : decode cX7_isSameBase 10 = .ok (.iload_n 2, 1) := by decide +kernel
theorem dX7_isSameBase_11 : decode cX7_isSameBase 11 = .ok (.iaload, 1) := by decide +kernel
theorem dX7_isSameBase_12 : decode cX7_isSameBase 12 = .ok (.if_icmp .ne 7, 3) := by decide +kernel
theorem dX7_isSameBase_15 : decode cX7_isSameBase 15 = .ok (.iconst 1, 1) := by decide +kernel
theorem dX7_isSameBase_16 : decode cX7_isSameBase 16 = .ok (.goto 4, 3) := by decide +kernel
theorem dX7_isSameBase_19 : decode cX7_isSameBase 19 = .ok (.iconst 0, 1) := by decide +kernel
theorem dX7_isSameBase_20 : decode cX7_isSameBase 20 = .ok (.istore_n 3, 1) := by decide +kernel
theorem dX7_isSameBase_21 : decode cX7_isSameBase 21 = .ok (.iconst 0, 1) := by decide +kernel
theorem dX7_isSameBase_22 : decode cX7_isSameBase 22 = .ok (.istore 4, 2) := by decide +kernel
theorem dX7_isSameBase_24 : decode cX7_isSameBase 24 = .ok (.iload 4, 2) := by decide +kernel
theorem dX7_isSameBase_26 : decode cX7_isSameBase 26 = .ok (.aload_n 0, 1) := by decide +kernel
theorem dX7_isSameBase_27 : decode cX7_isSameBase 27 = .ok (.getfield 64, 3) := by decide +kernel
theorem dX7_isSameBase_30 : decode cX7_isSameBase 30 = .ok (.iload_n 1, 1) := by decide +kernel
theorem dX7_isSameBase_31 : decode cX7_isSameBase 31 = .ok (.iaload, 1) := by decide +kernel
theorem dX7_isSameBase_32 : decode cX7_isSameBase 32 = .ok (.if_icmp .ge 48, 3) := by decide +kernel
theorem dX7_isSameBase_35 : decode cX7_isSameBase 35 = .ok (.iload_n 3, 1) := by decide +kernel
theorem dX7_isSameBase_36 : decode cX7_isSameBase 36 = .ok (.ifCond .eq 44, 3) := by decide +kernel
theorem dX7_isSameBase_39 : decode cX7_isSameBase 39 = .ok (.aload_n 0, 1) := by decide +kernel
theorem dX7_isSameBase_40 : decode cX7_isSameBase 40 = .ok (.getfield 67, 3) := by decide +kernel
theorem dX7_isSameBase_43 : decode cX7_isSameBase 43 = .ok (.sipush 400, 3) := by decide +kernel
theorem dX7_isSameBase_46 : decode cX7_isSameBase 46 = .ok (.iload_n 1, 1) := by decide +kernel
theorem dX7_isSameBase_47 : decode cX7_isSameBase 47 = .ok (.imul, 1) := by decide +kernel
theorem dX7_isSameBase_48 : decode cX7_isSameBase 48 = .ok (.iload 4, 2) := by decide +kernel
theorem dX7_isSameBase_50 : decode cX7_isSameBase 50 = .ok (.iadd, 1) := by decide +kernel
theorem dX7_isSameBase_51 : decode cX7_isSameBase 51 = .ok (.iaload, 1) := by decide +kernel
theorem dX7_isSameBase_52 : decode cX7_isSameBase 52 = .ok (.aload_n 0, 1) := by decide +kernel
theorem dX7_isSameBase_53 : decode cX7_isSameBase 53 = .ok (.getfield 67, 3) := by decide +kernel
theorem dX7_isSameBase_56 : decode cX7_isSameBase 56 = .ok (.sipush 400, 3) := by decide +kernel
theorem dX7_isSameBase_59 : decode cX7_isSameBase 59 = .ok (.iload_n 2, 1) := by decide +kernel
theorem dX7_isSameBase_60 : decode cX7_isSameBase 60 = .ok (.imul, 1) := by decide +kernel
theorem dX7_isSameBase_61 : decode cX7_isSameBase 61 = .ok (.iload 4, 2) := by decide +kernel
theorem dX7_isSameBase_63 : decode cX7_isSameBase 63 = .ok (.iadd, 1) := by decide +kernel
theorem dX7_isSameBase_64 : decode cX7_isSameBase 64 = .ok (.iaload, 1) := by decide +kernel
theorem dX7_isSameBase_65 : decode cX7_isSameBase 65 = .ok (.if_icmp .ne 7, 3) := by decide +kernel
theorem dX7_isSameBase_68 : decode cX7_isSameBase 68 = .ok (.iconst 1, 1) := by decide +kernel
theorem dX7_isSameBase_69 : decode cX7_isSameBase 69 = .ok (.goto 4, 3) := by decide +kernel
theorem dX7_isSameBase_72 : decode cX7_isSameBase 72 = .ok (.iconst 0, 1) := by decide +kernel
theorem dX7_isSameBase_73 : decode cX7_isSameBase 73 = .ok (.istore_n 3, 1) := by decide +kernel
theorem dX7_isSameBase_74 : decode cX7_isSameBase 74 = .ok (.iinc 4 1, 3) := by decide +kernel
theorem dX7_isSameBase_77 : decode cX7_isSameBase 77 = .ok (.goto (-53), 3) := by decide +kernel
theorem dX7_isSameBase_80 : decode cX7_isSameBase 80 = .ok (.iload_n 3, 1) := by decide +kernel
theorem dX7_isSameBase_81 : decode cX7_isSameBase 81 = .ok (.ireturn, 1) := by decide +kernel
theorem dX7_setLetters_0 : decode cX7_setLetters 0 = .ok (.iconst 0, 1) := by decide +kernel
theorem dX7_setLetters_1 : decode cX7_setLetters 1 = .ok (.istore_n 1, 1) := by decide +kernel
theorem dX7_setLetters_2 : decode cX7_setLetters 2 = .ok (.iload_n 1, 1) := by decide +kernel
theorem dX7_setLetters_3 : decode cX7_setLetters 3 = .ok (.aload_n 0, 1) := by decide +kernel
theorem dX7_setLetters_4 : decode cX7_setLetters 4 = .ok (.getfield 183, 3) := by decide +kernel
theorem dX7_setLetters_7 : decode cX7_setLetters 7 = .ok (.if_icmp .ge 83, 3) := by decide +kernel
theorem dX7_setLetters_10 : decode cX7_setLetters 10 = .ok (.iconst 0, 1) := by decide +kernel
theorem dX7_setLetters_11 : decode cX7_setLetters 11 = .ok (.istore_n 2, 1) := by decide +kernel
theorem dX7_setLetters_12 : decode cX7_setLetters 12 = .ok (.iconst 0, 1) := by decide +kernel
theorem dX7_setLetters_13 : decode cX7_setLetters 13 = .ok (.istore_n 3, 1) := by decide +kernel
theorem dX7_setLetters_14 : decode cX7_setLetters 14 = .ok (.iconst 0, 1) := by decide +kernel
theorem dX7_setLetters_15 : decode cX7_setLetters 15 = .ok (.istore 4, 2) := by decide +kernel
theorem dX7_setLetters_17 : decode cX7_setLetters 17 = .ok (.iload 4, 2) := by decide +kernel
theorem dX7_setLetters_19 : decode cX7_setLetters 19 = .ok (.aload_n 0, 1) := by decide +kernel
theorem dX7_setLetters_20 : decode cX7_setLetters 20 = .ok (.getfield 183, 3) := by decide +kernel
theorem dX7_setLetters_23 : decode cX7_setLetters 23 = .ok (.if_icmp .ge 36, 3) := by decide +kernel
theorem dX7_setLetters_26 : decode cX7_setLetters 26 = .ok (.aload_n 0, 1) := by decide +kernel
theorem dX7_setLetters_27 : decode cX7_setLetters 27 = .ok (.iload_n 1, 1) := by decide +kernel
theorem dX7_setLetters_28 : decode cX7_setLetters 28 = .ok (.iload 4, 2) := by decide +kernel
theorem dX7_setLetters_30 : decode cX7_setLetters 30 = .ok (.invokevirtual 219, 3) := by decide +kernel
theorem dX7_setLetters_33 : decode cX7_setLetters 33 = .ok (.ifCond .eq 20, 3) := by decide +kernel
theorem dX7_setLetters_36 : decode cX7_setLetters 36 = .ok (.iinc 3 1, 3) := by decide +kernel
theorem dX7_setLetters_39 : decode cX7_setLetters 39 = .ok (.iload 4, 2) := by decide +kernel
theorem dX7_setLetters_41 : decode cX7_setLetters 41 = .ok (.iload_n 1, 1) := by decide +kernel
theorem dX7_setLetters_42 : decode cX7_setLetters 42 = .ok (.if_icmp .gt 9, 3) := by decide +kernel
theorem dX7_setLetters_45 : decode cX7_setLetters 45 = .ok (.iload_n 2, 1) := by decide +kernel
theorem dX7_setLetters_46 : decode cX7_setLetters 46 = .ok (.iconst 1, 1) := by decide +kernel
theorem dX7_setLetters_47 : decode cX7_setLetters 47 = .ok (.iadd, 1) := by decide +kernel
theorem dX7_setLetters_48 : decode cX7_setLetters 48 = .ok (.goto 4, 3) := by decide +kernel
theorem dX7_setLetters_51 : decode cX7_setLetters 51 = .ok (.iload_n 2, 1) := by decide +kernel
theorem dX7_setLetters_52 : decode cX7_setLetters 52 = .ok (.istore_n 2, 1) := by decide +kernel
theorem dX7_setLetters_53 : decode cX7_setLetters 53 = .ok (.iinc 4 1, 3) := by decide +kernel
theorem dX7_setLetters_56 : decode cX7_setLetters 56 = .ok (.goto (-39), 3) := by decide +kernel
theorem dX7_setLetters_59 : decode cX7_setLetters 59 = .ok (.aload_n 0, 1) := by decide +kernel
theorem dX7_setLetters_60 : decode cX7_setLetters 60 = .ok (.getfield 61, 3) := by decide +kernel
theorem dX7_setLetters_63 : decode cX7_setLetters 63 = .ok (.iload_n 1, 1) := by decide +kernel
theorem dX7_setLetters_64 : decode cX7_setLetters 64 = .ok (.aload_n 0, 1) := by decide +kernel
theorem dX7_setLetters_65 : decode cX7_setLetters 65 = .ok (.getfield 64, 3) := by decide +kernel
theorem dX7_setLetters_68 : decode cX7_setLetters 68 = .ok (.iload_n 1, 1) := by decide +kernel
theorem dX7_setLetters_69 : decode cX7_setLetters 69 = .ok (.iaload, 1) := by decide +kernel
theorem dX7_setLetters_70 : decode cX7_setLetters 70 = .ok (.ifCond .le 12, 3) := by decide +kernel
theorem dX7_setLetters_73 : decode cX7_setLetters 73 = .ok (.iload_n 3, 1) := by decide +kernel
theorem dX7_setLetters_74 : decode cX7_setLetters 74 = .ok (.iconst 1, 1) := by decide +kernel
theorem dX7_setLetters_75 : decode cX7_setLetters 75 = .ok (.if_icmp .le 7, 3) := by decide +kernel
theorem dX7_setLetters_78 : decode cX7_setLetters 78 = .ok (.iload_n 2, 1) := by decide +kernel
theorem dX7_setLetters_79 : decode cX7_setLetters 79 = .ok (.goto 4, 3) := by decide +kernel
theorem dX7_setLetters_82 : decode cX7_setLetters 82 = .ok (.iconst 0, 1) := by decide +kernel
theorem dX7_setLetters_83 : decode cX7_setLetters 83 = .ok (.iastore, 1) := by decide +kernel
theorem dX7_setLetters_84 : decode cX7_setLetters 84 = .ok (.iinc 1 1, 3) := by decide +kernel
theorem dX7_setLetters_87 : decode cX7_setLetters 87 = .ok (.goto (-85), 3) := by decide +kernel
theorem dX7_setLetters_90 : decode cX7_setLetters 90 = .ok (.return_, 1) := by decide +kernel
theorem dX7_nextPiece_0 : decode cX7_nextPiece 0 = .ok (.aload_n 0, 1) := by decide +kernel
theorem dX7_nextPiece_1 : decode cX7_nextPiece 1 = .ok (.aload_n 0, 1) := by decide +kernel
theorem dX7_nextPiece_2 : decode cX7_nextPiece 2 = .ok (.getfield 136, 3) := by decide +kernel
theorem dX7_nextPiece_5 : decode cX7_nextPiece 5 = .ok (.aload_n 0, 1) := by decide +kernel
theorem dX7_nextPiece_6 : decode cX7_nextPiece 6 = .ok (.getfield 223, 3) := by decide +kernel
theorem dX7_nextPiece_9 : decode cX7_nextPiece 9 = .ok (.if_icmp .le 8, 3) := by decide +kernel
theorem dX7_nextPiece_12 : decode cX7_nextPiece 12 = .ok (.bipush 46, 2) := by decide +kernel
theorem dX7_nextPiece_14 : decode cX7_nextPiece 14 = .ok (.goto 5, 3) := by decide +kernel
theorem dX7_nextPiece_17 : decode cX7_nextPiece 17 = .ok (.bipush 32, 2) := by decide +kernel
theorem dX7_nextPiece_19 : decode cX7_nextPiece 19 = .ok (.invokevirtual 141, 3) := by decide +kernel
theorem dX7_nextPiece_22 : decode cX7_nextPiece 22 = .ok (.aload_n 0, 1) := by decide +kernel
theorem dX7_nextPiece_23 : decode cX7_nextPiece 23 = .ok (.getfield 136, 3) := by decide +kernel
theorem dX7_nextPiece_26 : decode cX7_nextPiece 26 = .ok (.iconst 1, 1) := by decide +kernel
theorem dX7_nextPiece_27 : decode cX7_nextPiece 27 = .ok (.isub, 1) := by decide +kernel
theorem dX7_nextPiece_28 : decode cX7_nextPiece 28 = .ok (.aload_n 0, 1) := by decide +kernel
theorem dX7_nextPiece_29 : decode cX7_nextPiece 29 = .ok (.getfield 223, 3) := by decide +kernel
theorem dX7_nextPiece_32 : decode cX7_nextPiece 32 = .ok (.if_icmp .le 9, 3) := by decide +kernel
theorem dX7_nextPiece_35 : decode cX7_nextPiece 35 = .ok (.aload_n 0, 1) := by decide +kernel
theorem dX7_nextPiece_36 : decode cX7_nextPiece 36 = .ok (.bipush 32, 2) := by decide +kernel
theorem dX7_nextPiece_38 : decode cX7_nextPiece 38 = .ok (.invokevirtual 141, 3) := by decide +kernel
theorem dX7_nextPiece_41 : decode cX7_nextPiece 41 = .ok (.return_, 1) := by decide +kernel
theorem dX7_putFull_0 : decode cX7_putFull 0 = .ok (.aload_n 0, 1) := by decide +kernel
theorem dX7_putFull_1 : decode cX7_putFull 1 = .ok (.iconst 0, 1) := by decide +kernel
theorem dX7_putFull_2 : decode cX7_putFull 2 = .ok (.iload_n 1, 1) := by decide +kernel
theorem dX7_putFull_3 : decode cX7_putFull 3 = .ok (.invokevirtual 198, 3) := by decide +kernel
theorem dX7_putFull_6 : decode cX7_putFull 6 = .ok (.aload_n 0, 1) := by decide +kernel
theorem dX7_putFull_7 : decode cX7_putFull 7 = .ok (.iconst 0, 1) := by decide +kernel
theorem dX7_putFull_8 : decode cX7_putFull 8 = .ok (.iload_n 1, 1) := by decide +kernel
theorem dX7_putFull_9 : decode cX7_putFull 9 = .ok (.iconst 0, 1) := by decide +kernel
theorem dX7_putFull_10 : decode cX7_putFull 10 = .ok (.invokevirtual 149, 3) := by decide +kernel
theorem dX7_putFull_13 : decode cX7_putFull 13 = .ok (.ifCond .eq 21, 3) := by decide +kernel
theorem dX7_putFull_16 : decode cX7_putFull 16 = .ok (.aload_n 0, 1) := by decide +kernel
theorem dX7_putFull_17 : decode cX7_putFull 17 = .ok (.bipush 44, 2) := by decide +kernel
theorem dX7_putFull_19 : decode cX7_putFull 19 = .ok (.invokevirtual 141, 3) := by decide +kernel
theorem dX7_putFull_22 : decode cX7_putFull 22 = .ok (.aload_n 0, 1) := by decide +kernel
theorem dX7_putFull_23 : decode cX7_putFull 23 = .ok (.bipush 32, 2) := by decide +kernel
theorem dX7_putFull_25 : decode cX7_putFull 25 = .ok (.invokevirtual 141, 3) := by decide +kernel
theorem dX7_putFull_28 : decode cX7_putFull 28 = .ok (.aload_n 0, 1) := by decide +kernel
theorem dX7_putFull_29 : decode cX7_putFull 29 = .ok (.iconst 0, 1) := by decide +kernel
theorem dX7_putFull_30 : decode cX7_putFull 30 = .ok (.iload_n 1, 1) := by decide +kernel
theorem dX7_putFull_31 : decode cX7_putFull 31 = .ok (.invokevirtual 192, 3) := by decide +kernel
theorem dX7_putFull_34 : decode cX7_putFull 34 = .ok (.return_, 1) := by decide +kernel
theorem dX7_piecePersons_0 : decode cX7_piecePersons 0 = .ok (.aload_n 0, 1) := by decide +kernel
theorem dX7_piecePersons_1 : decode cX7_piecePersons 1 = .ok (.iconst 0, 1) := by decide +kernel
theorem dX7_piecePersons_2 : decode cX7_piecePersons 2 = .ok (.iload_n 1, 1) := by decide +kernel
theorem dX7_piecePersons_3 : decode cX7_piecePersons 3 = .ok (.invokevirtual 166, 3) := by decide +kernel
theorem dX7_piecePersons_6 : decode cX7_piecePersons 6 = .ok (.aload_n 0, 1) := by decide +kernel
theorem dX7_piecePersons_7 : decode cX7_piecePersons 7 = .ok (.getfield 49, 3) := by decide +kernel
theorem dX7_piecePersons_10 : decode cX7_piecePersons 10 = .ok (.iconst 0, 1) := by decide +kernel
theorem dX7_piecePersons_11 : decode cX7_piecePersons 11 = .ok (.iaload, 1) := by decide +kernel
theorem dX7_piecePersons_12 : decode cX7_piecePersons 12 = .ok (.istore_n 2, 1) := by decide +kernel
theorem dX7_piecePersons_13 : decode cX7_piecePersons 13 = .ok (.iload_n 2, 1) := by decide +kernel
theorem dX7_piecePersons_14 : decode cX7_piecePersons 14 = .ok (.ifCond .ne 4, 3) := by decide +kernel
theorem dX7_piecePersons_17 : decode cX7_piecePersons 17 = .ok (.return_, 1) := by decide +kernel
theorem dX7_piecePersons_18 : decode cX7_piecePersons 18 = .ok (.aload_n 0, 1) := by decide +kernel
theorem dX7_piecePersons_19 : decode cX7_piecePersons 19 = .ok (.invokevirtual 226, 3) := by decide +kernel
theorem dX7_piecePersons_22 : decode cX7_piecePersons 22 = .ok (.iload_n 2, 1) := by decide +kernel
theorem dX7_piecePersons_23 : decode cX7_piecePersons 23 = .ok (.iconst 3, 1) := by decide +kernel
theorem dX7_piecePersons_24 : decode cX7_piecePersons 24 = .ok (.if_icmp .le 16, 3) := by decide +kernel
theorem dX7_piecePersons_27 : decode cX7_piecePersons 27 = .ok (.aload_n 0, 1) := by decide +kernel
theorem dX7_piecePersons_28 : decode cX7_piecePersons 28 = .ok (.iconst 0, 1) := by decide +kernel
theorem dX7_piecePersons_29 : decode cX7_piecePersons 29 = .ok (.invokevirtual 229, 3) := by decide +kernel
theorem dX7_piecePersons_32 : decode cX7_piecePersons 32 = .ok (.aload_n 0, 1) := by decide +kernel
theorem dX7_piecePersons_33 : decode cX7_piecePersons 33 = .ok (.ldc2_w 207, 3) := by decide +kernel
theorem dX7_piecePersons_36 : decode cX7_piecePersons 36 = .ok (.invokevirtual 203, 3) := by decide +kernel
theorem dX7_piecePersons_39 : decode cX7_piecePersons 39 = .ok (.return_, 1) := by decide +kernel
theorem dX7_piecePersons_40 : decode cX7_piecePersons 40 = .ok (.iconst 0, 1) := by decide +kernel
theorem dX7_piecePersons_41 : decode cX7_piecePersons 41 = .ok (.istore_n 3, 1) := by decide +kernel
theorem dX7_piecePersons_42 : decode cX7_piecePersons 42 = .ok (.iload_n 3, 1) := by decide +kernel
theorem dX7_piecePersons_43 : decode cX7_piecePersons 43 = .ok (.iload_n 2, 1) := by decide +kernel
theorem dX7_piecePersons_44 : decode cX7_piecePersons 44 = .ok (.if_icmp .ge 38, 3) := by decide +kernel
theorem dX7_piecePersons_47 : decode cX7_piecePersons 47 = .ok (.iload_n 3, 1) := by decide +kernel
theorem dX7_piecePersons_48 : decode cX7_piecePersons 48 = .ok (.ifCond .le 23, 3) := by decide +kernel
theorem dX7_piecePersons_51 : decode cX7_piecePersons 51 = .ok (.aload_n 0, 1) := by decide +kernel
theorem dX7_piecePersons_52 : decode cX7_piecePersons 52 = .ok (.iload_n 3, 1) := by decide +kernel
theorem dX7_piecePersons_53 : decode cX7_piecePersons 53 = .ok (.iload_n 2, 1) := by decide +kernel
theorem dX7_piecePersons_54 : decode cX7_piecePersons 54 = .ok (.iconst 1, 1) := by decide +kernel
theorem dX7_piecePersons_55 : decode cX7_piecePersons 55 = .ok (.isub, 1) := by decide +kernel
theorem dX7_piecePersons_56 : decode cX7_piecePersons 56 = .ok (.if_icmp .ne 9, 3) := by decide +kernel
theorem dX7_piecePersons_59 : decode cX7_piecePersons 59 = .ok (.ldc2_w 201, 3) := by decide +kernel
theorem dX7_piecePersons_62 : decode cX7_piecePersons 62 = .ok (.goto 6, 3) := by decide +kernel
theorem dX7_piecePersons_65 : decode cX7_piecePersons 65 = .ok (.ldc2_w 232, 3) := by decide +kernel
theorem dX7_piecePersons_68 : decode cX7_piecePersons 68 = .ok (.invokevirtual 203, 3) := by decide +kernel
theorem dX7_piecePersons_71 : decode cX7_piecePersons 71 = .ok (.aload_n 0, 1) := by decide +kernel
theorem dX7_piecePersons_72 : decode cX7_piecePersons 72 = .ok (.iload_n 3, 1) := by decide +kernel
theorem dX7_piecePersons_73 : decode cX7_piecePersons 73 = .ok (.invokevirtual 229, 3) := by decide +kernel
theorem dX7_piecePersons_76 : decode cX7_piecePersons 76 = .ok (.iinc 3 1, 3) := by decide +kernel
theorem dX7_piecePersons_79 : decode cX7_piecePersons 79 = .ok (.goto (-37), 3) := by decide +kernel
theorem dX7_piecePersons_82 : decode cX7_piecePersons 82 = .ok (.return_, 1) := by decide +kernel
theorem dX7_pieceField_0 : decode cX7_pieceField 0 = .ok (.iload_n 1, 1) := by decide +kernel
theorem dX7_pieceField_1 : decode cX7_pieceField 1 = .ok (.iconst (-1), 1) := by decide +kernel
theorem dX7_pieceField_2 : decode cX7_pieceField 2 = .ok (.if_icmp .eq 12, 3) := by decide +kernel
theorem dX7_pieceField_5 : decode cX7_pieceField 5 = .ok (.aload_n 0, 1) := by decide +kernel
theorem dX7_pieceField_6 : decode cX7_pieceField 6 = .ok (.invokevirtual 226, 3) := by decide +kernel
theorem dX7_pieceField_9 : decode cX7_pieceField 9 = .ok (.aload_n 0, 1) := by decide +kernel
theorem dX7_pieceField_10 : decode cX7_pieceField 10 = .ok (.iload_n 1, 1) := by decide +kernel
theorem dX7_pieceField_11 : decode cX7_pieceField 11 = .ok (.invokevirtual 173, 3) := by decide +kernel
theorem dX7_pieceField_14 : decode cX7_pieceField 14 = .ok (.return_, 1) := by decide +kernel
theorem dX7_pieceThird_0 : decode cX7_pieceThird 0 = .ok (.aload_n 0, 1) := by decide +kernel
theorem dX7_pieceThird_1 : decode cX7_pieceThird 1 = .ok (.getfield 7, 3) := by decide +kernel
theorem dX7_pieceThird_4 : decode cX7_pieceThird 4 = .ok (.iload_n 1, 1) := by decide +kernel
theorem dX7_pieceThird_5 : decode cX7_pieceThird 5 = .ok (.iaload, 1) := by decide +kernel
theorem dX7_pieceThird_6 : decode cX7_pieceThird 6 = .ok (.istore_n 2, 1) := by decide +kernel
theorem dX7_pieceThird_7 : decode cX7_pieceThird 7 = .ok (.iload_n 2, 1) := by decide +kernel
theorem dX7_pieceThird_8 : decode cX7_pieceThird 8 = .ok (.ifCond .eq 29, 3) := by decide +kernel
theorem dX7_pieceThird_11 : decode cX7_pieceThird 11 = .ok (.iload_n 2, 1) := by decide +kernel
theorem dX7_pieceThird_12 : decode cX7_pieceThird 12 = .ok (.iconst 2, 1) := by decide +kernel
theorem dX7_pieceThird_13 : decode cX7_pieceThird 13 = .ok (.if_icmp .eq 24, 3) := by decide +kernel
theorem dX7_pieceThird_16 : decode cX7_pieceThird 16 = .ok (.aload_n 0, 1) := by decide +kernel
theorem dX7_pieceThird_17 : decode cX7_pieceThird 17 = .ok (.aload_n 0, 1) := by decide +kernel
theorem dX7_pieceThird_18 : decode cX7_pieceThird 18 = .ok (.iload_n 1, 1) := by decide +kernel
theorem dX7_pieceThird_19 : decode cX7_pieceThird 19 = .ok (.iload_n 2, 1) := by decide +kernel
theorem dX7_pieceThird_20 : decode cX7_pieceThird 20 = .ok (.iconst 4, 1) := by decide +kernel
theorem dX7_pieceThird_21 : decode cX7_pieceThird 21 = .ok (.if_icmp .ne 8, 3) := by decide +kernel
theorem dX7_pieceThird_24 : decode cX7_pieceThird 24 = .ok (.bipush 7, 2) := by decide +kernel
theorem dX7_pieceThird_26 : decode cX7_pieceThird 26 = .ok (.goto 4, 3) := by decide +kernel
theorem dX7_pieceThird_29 : decode cX7_pieceThird 29 = .ok (.iconst 4, 1) := by decide +kernel
theorem dX7_pieceThird_30 : decode cX7_pieceThird 30 = .ok (.invokevirtual 125, 3) := by decide +kernel
theorem dX7_pieceThird_33 : decode cX7_pieceThird 33 = .ok (.invokevirtual 234, 3) := by decide +kernel
theorem dX7_pieceThird_36 : decode cX7_pieceThird 36 = .ok (.return_, 1) := by decide +kernel
theorem dX7_pieceThird_37 : decode cX7_pieceThird 37 = .ok (.aload_n 0, 1) := by decide +kernel
theorem dX7_pieceThird_38 : decode cX7_pieceThird 38 = .ok (.iload_n 1, 1) := by decide +kernel
theorem dX7_pieceThird_39 : decode cX7_pieceThird 39 = .ok (.iload_n 2, 1) := by decide +kernel
theorem dX7_pieceThird_40 : decode cX7_pieceThird 40 = .ok (.ifCond .ne 7, 3) := by decide +kernel
theorem dX7_pieceThird_43 : decode cX7_pieceThird 43 = .ok (.iconst 3, 1) := by decide +kernel
theorem dX7_pieceThird_44 : decode cX7_pieceThird 44 = .ok (.goto 5, 3) := by decide +kernel
theorem dX7_pieceThird_47 : decode cX7_pieceThird 47 = .ok (.bipush 6, 2) := by decide +kernel
theorem dX7_pieceThird_49 : decode cX7_pieceThird 49 = .ok (.invokevirtual 125, 3) := by decide +kernel
theorem dX7_pieceThird_52 : decode cX7_pieceThird 52 = .ok (.istore_n 3, 1) := by decide +kernel
theorem dX7_pieceThird_53 : decode cX7_pieceThird 53 = .ok (.iload_n 3, 1) := by decide +kernel
theorem dX7_pieceThird_54 : decode cX7_pieceThird 54 = .ok (.iconst (-1), 1) := by decide +kernel
theorem dX7_pieceThird_55 : decode cX7_pieceThird 55 = .ok (.if_icmp .ne 4, 3) := by decide +kernel
theorem dX7_pieceThird_58 : decode cX7_pieceThird 58 = .ok (.return_, 1) := by decide +kernel
theorem dX7_pieceThird_59 : decode cX7_pieceThird 59 = .ok (.aload_n 0, 1) := by decide +kernel
theorem dX7_pieceThird_60 : decode cX7_pieceThird 60 = .ok (.invokevirtual 226, 3) := by decide +kernel
theorem dX7_pieceThird_63 : decode cX7_pieceThird 63 = .ok (.iload_n 2, 1) := by decide +kernel
theorem dX7_pieceThird_64 : decode cX7_pieceThird 64 = .ok (.iconst 2, 1) := by decide +kernel
theorem dX7_pieceThird_65 : decode cX7_pieceThird 65 = .ok (.if_icmp .ne 10, 3) := by decide +kernel
theorem dX7_pieceThird_68 : decode cX7_pieceThird 68 = .ok (.aload_n 0, 1) := by decide +kernel
theorem dX7_pieceThird_69 : decode cX7_pieceThird 69 = .ok (.ldc2_w 237, 3) := by decide +kernel
theorem dX7_pieceThird_72 : decode cX7_pieceThird 72 = .ok (.invokevirtual 203, 3) := by decide +kernel
theorem dX7_pieceThird_75 : decode cX7_pieceThird 75 = .ok (.aload_n 0, 1) := by decide +kernel
theorem dX7_pieceThird_76 : decode cX7_pieceThird 76 = .ok (.iload_n 3, 1) := by decide +kernel
theorem dX7_pieceThird_77 : decode cX7_pieceThird 77 = .ok (.invokevirtual 173, 3) := by decide +kernel
theorem dX7_pieceThird_80 : decode cX7_pieceThird 80 = .ok (.aload_n 0, 1) := by decide +kernel
theorem dX7_pieceThird_81 : decode cX7_pieceThird 81 = .ok (.iload_n 1, 1) := by decide +kernel
theorem dX7_pieceThird_82 : decode cX7_pieceThird 82 = .ok (.iconst 5, 1) := by decide +kernel
theorem dX7_pieceThird_83 : decode cX7_pieceThird 83 = .ok (.invokevirtual 125, 3) := by decide +kernel
theorem dX7_pieceThird_86 : decode cX7_pieceThird 86 = .ok (.istore 4, 2) := by decide +kernel
theorem dX7_pieceThird_88 : decode cX7_pieceThird 88 = .ok (.iload 4, 2) := by decide +kernel
theorem dX7_pieceThird_90 : decode cX7_pieceThird 90 = .ok (.iconst (-1), 1) := by decide +kernel
theorem dX7_pieceThird_91 : decode cX7_pieceThird 91 = .ok (.if_icmp .eq 26, 3) := by decide +kernel
theorem dX7_pieceThird_94 : decode cX7_pieceThird 94 = .ok (.aload_n 0, 1) := by decide +kernel
theorem dX7_pieceThird_95 : decode cX7_pieceThird 95 = .ok (.iload_n 2, 1) := by decide +kernel
theorem dX7_pieceThird_96 : decode cX7_pieceThird 96 = .ok (.ifCond .ne 9, 3) := by decide +kernel
theorem dX7_pieceThird_99 : decode cX7_pieceThird 99 = .ok (.ldc2_w 232, 3) := by decide +kernel
theorem dX7_pieceThird_102 : decode cX7_pieceThird 102 = .ok (.goto 6, 3) := by decide +kernel
theorem dX7_pieceThird_105 : decode cX7_pieceThird 105 = .ok (.ldc2_w 239, 3) := by decide +kernel
theorem dX7_pieceThird_108 : decode cX7_pieceThird 108 = .ok (.invokevirtual 203, 3) := by decide +kernel
theorem dX7_pieceThird_111 : decode cX7_pieceThird 111 = .ok (.aload_n 0, 1) := by decide +kernel
theorem dX7_pieceThird_112 : decode cX7_pieceThird 112 = .ok (.iload 4, 2) := by decide +kernel
theorem dX7_pieceThird_114 : decode cX7_pieceThird 114 = .ok (.invokevirtual 173, 3) := by decide +kernel
theorem dX7_pieceThird_117 : decode cX7_pieceThird 117 = .ok (.return_, 1) := by decide +kernel
theorem dX7_putNumber_0 : decode cX7_putNumber 0 = .ok (.iload_n 1, 1) := by decide +kernel
theorem dX7_putNumber_1 : decode cX7_putNumber 1 = .ok (.bipush 9, 2) := by decide +kernel
theorem dX7_putNumber_3 : decode cX7_putNumber 3 = .ok (.if_icmp .le 14, 3) := by decide +kernel
theorem dX7_putNumber_6 : decode cX7_putNumber 6 = .ok (.aload_n 0, 1) := by decide +kernel
theorem dX7_putNumber_7 : decode cX7_putNumber 7 = .ok (.bipush 48, 2) := by decide +kernel
theorem dX7_putNumber_9 : decode cX7_putNumber 9 = .ok (.iload_n 1, 1) := by decide +kernel
theorem dX7_putNumber_10 : decode cX7_putNumber 10 = .ok (.bipush 10, 2) := by decide +kernel
theorem dX7_putNumber_12 : decode cX7_putNumber 12 = .ok (.idiv, 1) := by decide +kernel
theorem dX7_putNumber_13 : decode cX7_putNumber 13 = .ok (.iadd, 1) := by decide +kernel
theorem dX7_putNumber_14 : decode cX7_putNumber 14 = .ok (.invokevirtual 141, 3) := by decide +kernel
theorem dX7_putNumber_17 : decode cX7_putNumber 17 = .ok (.aload_n 0, 1) := by decide +kernel
theorem dX7_putNumber_18 : decode cX7_putNumber 18 = .ok (.bipush 48, 2) := by decide +kernel
theorem dX7_putNumber_20 : decode cX7_putNumber 20 = .ok (.iload_n 1, 1) := by decide +kernel
theorem dX7_putNumber_21 : decode cX7_putNumber 21 = .ok (.bipush 10, 2) := by decide +kernel
theorem dX7_putNumber_23 : decode cX7_putNumber 23 = .ok (.irem, 1) := by decide +kernel
theorem dX7_putNumber_24 : decode cX7_putNumber 24 = .ok (.iadd, 1) := by decide +kernel
theorem dX7_putNumber_25 : decode cX7_putNumber 25 = .ok (.invokevirtual 141, 3) := by decide +kernel
theorem dX7_putNumber_28 : decode cX7_putNumber 28 = .ok (.return_, 1) := by decide +kernel
theorem dX7_makeText_0 : decode cX7_makeText 0 = .ok (.aload_n 0, 1) := by decide +kernel
theorem dX7_makeText_1 : decode cX7_makeText 1 = .ok (.getfield 58, 3) := by decide +kernel
theorem dX7_makeText_4 : decode cX7_makeText 4 = .ok (.iload_n 1, 1) := by decide +kernel
theorem dX7_makeText_5 : decode cX7_makeText 5 = .ok (.iaload, 1) := by decide +kernel
theorem dX7_makeText_6 : decode cX7_makeText 6 = .ok (.istore_n 2, 1) := by decide +kernel
theorem dX7_makeText_7 : decode cX7_makeText 7 = .ok (.aload_n 0, 1) := by decide +kernel
theorem dX7_makeText_8 : decode cX7_makeText 8 = .ok (.iconst 0, 1) := by decide +kernel
theorem dX7_makeText_9 : decode cX7_makeText 9 = .ok (.putfield 136, 3) := by decide +kernel
theorem dX7_makeText_12 : decode cX7_makeText 12 = .ok (.aload_n 0, 1) := by decide +kernel
theorem dX7_makeText_13 : decode cX7_makeText 13 = .ok (.aload_n 0, 1) := by decide +kernel
theorem dX7_makeText_14 : decode cX7_makeText 14 = .ok (.getfield 116, 3) := by decide +kernel
theorem dX7_makeText_17 : decode cX7_makeText 17 = .ok (.iconst 2, 1) := by decide +kernel
theorem dX7_makeText_18 : decode cX7_makeText 18 = .ok (.if_icmp .ne 8, 3) := by decide +kernel
theorem dX7_makeText_21 : decode cX7_makeText 21 = .ok (.bipush 40, 2) := by decide +kernel
theorem dX7_makeText_23 : decode cX7_makeText 23 = .ok (.goto 5, 3) := by decide +kernel
theorem dX7_makeText_26 : decode cX7_makeText 26 = .ok (.bipush 91, 2) := by decide +kernel
theorem dX7_makeText_28 : decode cX7_makeText 28 = .ok (.invokevirtual 141, 3) := by decide +kernel
theorem dX7_makeText_31 : decode cX7_makeText 31 = .ok (.aload_n 0, 1) := by decide +kernel
theorem dX7_makeText_32 : decode cX7_makeText 32 = .ok (.getfield 116, 3) := by decide +kernel
theorem dX7_makeText_35 : decode cX7_makeText 35 = .ok (.ifCond .ne 10, 3) := by decide +kernel
theorem dX7_makeText_38 : decode cX7_makeText 38 = .ok (.aload_n 0, 1) := by decide +kernel
theorem dX7_makeText_39 : decode cX7_makeText 39 = .ok (.iload_n 1, 1) := by decide +kernel
theorem dX7_makeText_40 : decode cX7_makeText 40 = .ok (.iconst 1, 1) := by decide +kernel
theorem dX7_makeText_41 : decode cX7_makeText 41 = .ok (.iadd, 1) := by decide +kernel
theorem dX7_makeText_42 : decode cX7_makeText 42 = .ok (.invokevirtual 241, 3) := by decide +kernel
theorem dX7_makeText_45 : decode cX7_makeText 45 = .ok (.iconst 0, 1) := by decide +kernel
theorem dX7_makeText_46 : decode cX7_makeText 46 = .ok (.istore_n 3, 1) := by decide +kernel
theorem dX7_makeText_47 : decode cX7_makeText 47 = .ok (.iload_n 3, 1) := by decide +kernel
theorem dX7_makeText_48 : decode cX7_makeText 48 = .ok (.aload_n 0, 1) := by decide +kernel
theorem dX7_makeText_49 : decode cX7_makeText 49 = .ok (.getfield 64, 3) := by decide +kernel
theorem dX7_makeText_52 : decode cX7_makeText 52 = .ok (.iload_n 1, 1) := by decide +kernel
theorem dX7_makeText_53 : decode cX7_makeText 53 = .ok (.iaload, 1) := by decide +kernel
theorem dX7_makeText_54 : decode cX7_makeText 54 = .ok (.if_icmp .ge 25, 3) := by decide +kernel
theorem dX7_makeText_57 : decode cX7_makeText 57 = .ok (.aload_n 0, 1) := by decide +kernel
theorem dX7_makeText_58 : decode cX7_makeText 58 = .ok (.aload_n 0, 1) := by decide +kernel
theorem dX7_makeText_59 : decode cX7_makeText 59 = .ok (.getfield 67, 3) := by decide +kernel
theorem dX7_makeText_62 : decode cX7_makeText 62 = .ok (.sipush 400, 3) := by decide +kernel
theorem dX7_makeText_65 : decode cX7_makeText 65 = .ok (.iload_n 1, 1) := by decide +kernel
theorem dX7_makeText_66 : decode cX7_makeText 66 = .ok (.imul, 1) := by decide +kernel
theorem dX7_makeText_67 : decode cX7_makeText 67 = .ok (.iload_n 3, 1) := by decide +kernel
theorem dX7_makeText_68 : decode cX7_makeText 68 = .ok (.iadd, 1) := by decide +kernel
theorem dX7_makeText_69 : decode cX7_makeText 69 = .ok (.iaload, 1) := by decide +kernel
theorem dX7_makeText_70 : decode cX7_makeText 70 = .ok (.invokevirtual 141, 3) := by decide +kernel
theorem dX7_makeText_73 : decode cX7_makeText 73 = .ok (.iinc 3 1, 3) := by decide +kernel
theorem dX7_makeText_76 : decode cX7_makeText 76 = .ok (.goto (-29), 3) := by decide +kernel
theorem dX7_makeText_79 : decode cX7_makeText 79 = .ok (.aload_n 0, 1) := by decide +kernel
theorem dX7_makeText_80 : decode cX7_makeText 80 = .ok (.getfield 61, 3) := by decide +kernel
theorem dX7_makeText_83 : decode cX7_makeText 83 = .ok (.iload_n 1, 1) := by decide +kernel
theorem dX7_makeText_84 : decode cX7_makeText 84 = .ok (.iaload, 1) := by decide +kernel
theorem dX7_makeText_85 : decode cX7_makeText 85 = .ok (.ifCond .le 16, 3) := by decide +kernel
theorem dX7_makeText_88 : decode cX7_makeText 88 = .ok (.aload_n 0, 1) := by decide +kernel
theorem dX7_makeText_89 : decode cX7_makeText 89 = .ok (.bipush 96, 2) := by decide +kernel
theorem dX7_makeText_91 : decode cX7_makeText 91 = .ok (.aload_n 0, 1) := by decide +kernel
theorem dX7_makeText_92 : decode cX7_makeText 92 = .ok (.getfield 61, 3) := by decide +kernel
theorem dX7_makeText_95 : decode cX7_makeText 95 = .ok (.iload_n 1, 1) := by decide +kernel
theorem dX7_makeText_96 : decode cX7_makeText 96 = .ok (.iaload, 1) := by decide +kernel
theorem dX7_makeText_97 : decode cX7_makeText 97 = .ok (.iadd, 1) := by decide +kernel
theorem dX7_makeText_98 : decode cX7_makeText 98 = .ok (.invokevirtual 141, 3) := by decide +kernel
theorem dX7_makeText_101 : decode cX7_makeText 101 = .ok (.aload_n 0, 1) := by decide +kernel
theorem dX7_makeText_102 : decode cX7_makeText 102 = .ok (.aload_n 0, 1) := by decide +kernel
theorem dX7_makeText_103 : decode cX7_makeText 103 = .ok (.getfield 116, 3) := by decide +kernel
theorem dX7_makeText_106 : decode cX7_makeText 106 = .ok (.iconst 2, 1) := by decide +kernel
theorem dX7_makeText_107 : decode cX7_makeText 107 = .ok (.if_icmp .ne 8, 3) := by decide +kernel
theorem dX7_makeText_110 : decode cX7_makeText 110 = .ok (.bipush 41, 2) := by decide +kernel
theorem dX7_makeText_112 : decode cX7_makeText 112 = .ok (.goto 5, 3) := by decide +kernel
theorem dX7_makeText_115 : decode cX7_makeText 115 = .ok (.bipush 93, 2) := by decide +kernel
theorem dX7_makeText_117 : decode cX7_makeText 117 = .ok (.invokevirtual 141, 3) := by decide +kernel
theorem dX7_makeText_120 : decode cX7_makeText 120 = .ok (.aload_n 0, 1) := by decide +kernel
theorem dX7_makeText_121 : decode cX7_makeText 121 = .ok (.aload_n 0, 1) := by decide +kernel
theorem dX7_makeText_122 : decode cX7_makeText 122 = .ok (.getfield 136, 3) := by decide +kernel
theorem dX7_makeText_125 : decode cX7_makeText 125 = .ok (.putfield 223, 3) := by decide +kernel
theorem dX7_makeText_128 : decode cX7_makeText 128 = .ok (.aload_n 0, 1) := by decide +kernel
theorem dX7_makeText_129 : decode cX7_makeText 129 = .ok (.iload_n 2, 1) := by decide +kernel
theorem dX7_makeText_130 : decode cX7_makeText 130 = .ok (.invokevirtual 244, 3) := by decide +kernel
theorem dX7_makeText_133 : decode cX7_makeText 133 = .ok (.aload_n 0, 1) := by decide +kernel
theorem dX7_makeText_134 : decode cX7_makeText 134 = .ok (.aload_n 0, 1) := by decide +kernel
theorem dX7_makeText_135 : decode cX7_makeText 135 = .ok (.iload_n 2, 1) := by decide +kernel
theorem dX7_makeText_136 : decode cX7_makeText 136 = .ok (.iconst 1, 1) := by decide +kernel
theorem dX7_makeText_137 : decode cX7_makeText 137 = .ok (.invokevirtual 125, 3) := by decide +kernel
theorem dX7_makeText_140 : decode cX7_makeText 140 = .ok (.invokevirtual 234, 3) := by decide +kernel
theorem dX7_makeText_143 : decode cX7_makeText 143 = .ok (.aload_n 0, 1) := by decide +kernel
theorem dX7_makeText_144 : decode cX7_makeText 144 = .ok (.iload_n 2, 1) := by decide +kernel
theorem dX7_makeText_145 : decode cX7_makeText 145 = .ok (.invokevirtual 247, 3) := by decide +kernel
theorem dX7_makeText_148 : decode cX7_makeText 148 = .ok (.aload_n 0, 1) := by decide +kernel
theorem dX7_makeText_149 : decode cX7_makeText 149 = .ok (.aload_n 0, 1) := by decide +kernel
theorem dX7_makeText_150 : decode cX7_makeText 150 = .ok (.iload_n 2, 1) := by decide +kernel
theorem dX7_makeText_151 : decode cX7_makeText 151 = .ok (.iconst 2, 1) := by decide +kernel
theorem dX7_makeText_152 : decode cX7_makeText 152 = .ok (.invokevirtual 125, 3) := by decide +kernel
theorem dX7_makeText_155 : decode cX7_makeText 155 = .ok (.invokevirtual 234, 3) := by decide +kernel
theorem dX7_makeText_158 : decode cX7_makeText 158 = .ok (.aload_n 0, 1) := by decide +kernel
theorem dX7_makeText_159 : decode cX7_makeText 159 = .ok (.getfield 136, 3) := by decide +kernel
theorem dX7_makeText_162 : decode cX7_makeText 162 = .ok (.aload_n 0, 1) := by decide +kernel
theorem dX7_makeText_163 : decode cX7_makeText 163 = .ok (.getfield 223, 3) := by decide +kernel
theorem dX7_makeText_166 : decode cX7_makeText 166 = .ok (.if_icmp .le 9, 3) := by decide +kernel
theorem dX7_makeText_169 : decode cX7_makeText 169 = .ok (.aload_n 0, 1) := by decide +kernel
theorem dX7_makeText_170 : decode cX7_makeText 170 = .ok (.bipush 46, 2) := by decide +kernel
theorem dX7_makeText_172 : decode cX7_makeText 172 = .ok (.invokevirtual 141, 3) := by decide +kernel
theorem dX7_makeText_175 : decode cX7_makeText 175 = .ok (.aload_n 0, 1) := by decide +kernel
theorem dX7_makeText_176 : decode cX7_makeText 176 = .ok (.getfield 70, 3) := by decide +kernel
theorem dX7_makeText_179 : decode cX7_makeText 179 = .ok (.iload_n 1, 1) := by decide +kernel
theorem dX7_makeText_180 : decode cX7_makeText 180 = .ok (.aload_n 0, 1) := by decide +kernel
theorem dX7_makeText_181 : decode cX7_makeText 181 = .ok (.getfield 136, 3) := by decide +kernel
theorem dX7_makeText_184 : decode cX7_makeText 184 = .ok (.iastore, 1) := by decide +kernel
theorem dX7_makeText_185 : decode cX7_makeText 185 = .ok (.iconst 0, 1) := by decide +kernel
theorem dX7_makeText_186 : decode cX7_makeText 186 = .ok (.istore_n 3, 1) := by decide +kernel
theorem dX7_makeText_187 : decode cX7_makeText 187 = .ok (.iload_n 3, 1) := by decide +kernel
theorem dX7_makeText_188 : decode cX7_makeText 188 = .ok (.aload_n 0, 1) := by decide +kernel
theorem dX7_makeText_189 : decode cX7_makeText 189 = .ok (.getfield 136, 3) := by decide +kernel
theorem dX7_makeText_192 : decode cX7_makeText 192 = .ok (.if_icmp .ge 27, 3) := by decide +kernel
theorem dX7_makeText_195 : decode cX7_makeText 195 = .ok (.aload_n 0, 1) := by decide +kernel
theorem dX7_makeText_196 : decode cX7_makeText 196 = .ok (.getfield 73, 3) := by decide +kernel
theorem dX7_makeText_199 : decode cX7_makeText 199 = .ok (.sipush 1000, 3) := by decide +kernel
theorem dX7_makeText_202 : decode cX7_makeText 202 = .ok (.iload_n 1, 1) := by decide +kernel
theorem dX7_makeText_203 : decode cX7_makeText 203 = .ok (.imul, 1) := by decide +kernel
theorem dX7_makeText_204 : decode cX7_makeText 204 = .ok (.iload_n 3, 1) := by decide +kernel
theorem dX7_makeText_205 : decode cX7_makeText 205 = .ok (.iadd, 1) := by decide +kernel
theorem dX7_makeText_206 : decode cX7_makeText 206 = .ok (.aload_n 0, 1) := by decide +kernel
theorem dX7_makeText_207 : decode cX7_makeText 207 = .ok (.getfield 52, 3) := by decide +kernel
theorem dX7_makeText_210 : decode cX7_makeText 210 = .ok (.iload_n 3, 1) := by decide +kernel
theorem dX7_makeText_211 : decode cX7_makeText 211 = .ok (.iaload, 1) := by decide +kernel
theorem dX7_makeText_212 : decode cX7_makeText 212 = .ok (.iastore, 1) := by decide +kernel
theorem dX7_makeText_213 : decode cX7_makeText 213 = .ok (.iinc 3 1, 3) := by decide +kernel
theorem dX7_makeText_216 : decode cX7_makeText 216 = .ok (.goto (-29), 3) := by decide +kernel
theorem dX7_makeText_219 : decode cX7_makeText 219 = .ok (.return_, 1) := by decide +kernel
theorem dX7_want_0 : decode cX7_want 0 = .ok (.aload_n 0, 1) := by decide +kernel
theorem dX7_want_1 : decode cX7_want 1 = .ok (.iload_n 1, 1) := by decide +kernel
theorem dX7_want_2 : decode cX7_want 2 = .ok (.iload_n 2, 1) := by decide +kernel
theorem dX7_want_3 : decode cX7_want 3 = .ok (.invokevirtual 125, 3) := by decide +kernel
theorem dX7_want_6 : decode cX7_want 6 = .ok (.iconst (-1), 1) := by decide +kernel
theorem dX7_want_7 : decode cX7_want 7 = .ok (.if_icmp .ne 33, 3) := by decide +kernel
theorem dX7_want_10 : decode cX7_want 10 = .ok (.aload_n 0, 1) := by decide +kernel
theorem dX7_want_11 : decode cX7_want 11 = .ok (.getfield 76, 3) := by decide +kernel
theorem dX7_want_14 : decode cX7_want 14 = .ok (.aload_n 0, 1) := by decide +kernel
theorem dX7_want_15 : decode cX7_want 15 = .ok (.getfield 250, 3) := by decide +kernel
theorem dX7_want_18 : decode cX7_want 18 = .ok (.iload_n 1, 1) := by decide +kernel
theorem dX7_want_19 : decode cX7_want 19 = .ok (.iastore, 1) := by decide +kernel
theorem dX7_want_20 : decode cX7_want 20 = .ok (.aload_n 0, 1) := by decide +kernel
theorem dX7_want_21 : decode cX7_want 21 = .ok (.getfield 79, 3) := by decide +kernel
theorem dX7_want_24 : decode cX7_want 24 = .ok (.aload_n 0, 1) := by decide +kernel
theorem dX7_want_25 : decode cX7_want 25 = .ok (.getfield 250, 3) := by decide +kernel
theorem dX7_want_28 : decode cX7_want 28 = .ok (.iload_n 2, 1) := by decide +kernel
theorem dX7_want_29 : decode cX7_want 29 = .ok (.iastore, 1) := by decide +kernel
theorem dX7_want_30 : decode cX7_want 30 = .ok (.aload_n 0, 1) := by decide +kernel
theorem dX7_want_31 : decode cX7_want 31 = .ok (.dup, 1) := by decide +kernel
theorem dX7_want_32 : decode cX7_want 32 = .ok (.getfield 250, 3) := by decide +kernel
theorem dX7_want_35 : decode cX7_want 35 = .ok (.iconst 1, 1) := by decide +kernel
theorem dX7_want_36 : decode cX7_want 36 = .ok (.iadd, 1) := by decide +kernel
theorem dX7_want_37 : decode cX7_want 37 = .ok (.putfield 250, 3) := by decide +kernel
theorem dX7_want_40 : decode cX7_want 40 = .ok (.return_, 1) := by decide +kernel
theorem dX7_lookWhatLacks_0 : decode cX7_lookWhatLacks 0 = .ok (.aload_n 0, 1) := by decide +kernel
theorem dX7_lookWhatLacks_1 : decode cX7_lookWhatLacks 1 = .ok (.getfield 7, 3) := by decide +kernel
theorem dX7_lookWhatLacks_4 : decode cX7_lookWhatLacks 4 = .ok (.iload_n 1, 1) := by decide +kernel
theorem dX7_lookWhatLacks_5 : decode cX7_lookWhatLacks 5 = .ok (.iaload, 1) := by decide +kernel
theorem dX7_lookWhatLacks_6 : decode cX7_lookWhatLacks 6 = .ok (.istore_n 2, 1) := by decide +kernel
theorem dX7_lookWhatLacks_7 : decode cX7_lookWhatLacks 7 = .ok (.iload_n 2, 1) := by decide +kernel
theorem dX7_lookWhatLacks_8 : decode cX7_lookWhatLacks 8 = .ok (.iconst 3, 1) := by decide +kernel
theorem dX7_lookWhatLacks_9 : decode cX7_lookWhatLacks 9 = .ok (.if_icmp .ge 9, 3) := by decide +kernel
theorem dX7_lookWhatLacks_12 : decode cX7_lookWhatLacks 12 = .ok (.aload_n 0, 1) := by decide +kernel
theorem dX7_lookWhatLacks_13 : decode cX7_lookWhatLacks 13 = .ok (.iload_n 1, 1) := by decide +kernel
theorem dX7_lookWhatLacks_14 : decode cX7_lookWhatLacks 14 = .ok (.iconst 0, 1) := by decide +kernel
theorem dX7_lookWhatLacks_15 : decode cX7_lookWhatLacks 15 = .ok (.invokevirtual 253, 3) := by decide +kernel
theorem dX7_lookWhatLacks_18 : decode cX7_lookWhatLacks 18 = .ok (.aload_n 0, 1) := by decide +kernel
theorem dX7_lookWhatLacks_19 : decode cX7_lookWhatLacks 19 = .ok (.iload_n 1, 1) := by decide +kernel
theorem dX7_lookWhatLacks_20 : decode cX7_lookWhatLacks 20 = .ok (.iconst 1, 1) := by decide +kernel
theorem dX7_lookWhatLacks_21 : decode cX7_lookWhatLacks 21 = .ok (.invokevirtual 253, 3) := by decide +kernel
theorem dX7_lookWhatLacks_24 : decode cX7_lookWhatLacks 24 = .ok (.iload_n 2, 1) := by decide +kernel
theorem dX7_lookWhatLacks_25 : decode cX7_lookWhatLacks 25 = .ok (.iconst 4, 1) := by decide +kernel
theorem dX7_lookWhatLacks_26 : decode cX7_lookWhatLacks 26 = .ok (.if_icmp .ge 9, 3) := by decide +kernel
theorem dX7_lookWhatLacks_29 : decode cX7_lookWhatLacks 29 = .ok (.aload_n 0, 1) := by decide +kernel
theorem dX7_lookWhatLacks_30 : decode cX7_lookWhatLacks 30 = .ok (.iload_n 1, 1) := by decide +kernel
theorem dX7_lookWhatLacks_31 : decode cX7_lookWhatLacks 31 = .ok (.iconst 2, 1) := by decide +kernel
theorem dX7_lookWhatLacks_32 : decode cX7_lookWhatLacks 32 = .ok (.invokevirtual 253, 3) := by decide +kernel
theorem dX7_lookWhatLacks_35 : decode cX7_lookWhatLacks 35 = .ok (.iload_n 2, 1) := by decide +kernel
theorem dX7_lookWhatLacks_36 : decode cX7_lookWhatLacks 36 = .ok (.iconst 3, 1) := by decide +kernel
theorem dX7_lookWhatLacks_37 : decode cX7_lookWhatLacks 37 = .ok (.if_icmp .ge 27, 3) := by decide +kernel
theorem dX7_lookWhatLacks_40 : decode cX7_lookWhatLacks 40 = .ok (.aload_n 0, 1) := by decide +kernel
theorem dX7_lookWhatLacks_41 : decode cX7_lookWhatLacks 41 = .ok (.iload_n 1, 1) := by decide +kernel
theorem dX7_lookWhatLacks_42 : decode cX7_lookWhatLacks 42 = .ok (.iload_n 2, 1) := by decide +kernel
theorem dX7_lookWhatLacks_43 : decode cX7_lookWhatLacks 43 = .ok (.ifCond .ne 7, 3) := by decide +kernel
theorem dX7_lookWhatLacks_46 : decode cX7_lookWhatLacks 46 = .ok (.iconst 3, 1) := by decide +kernel
theorem dX7_lookWhatLacks_47 : decode cX7_lookWhatLacks 47 = .ok (.goto 14, 3) := by decide +kernel
theorem dX7_lookWhatLacks_50 : decode cX7_lookWhatLacks 50 = .ok (.iload_n 2, 1) := by decide +kernel
theorem dX7_lookWhatLacks_51 : decode cX7_lookWhatLacks 51 = .ok (.iconst 1, 1) := by decide +kernel
theorem dX7_lookWhatLacks_52 : decode cX7_lookWhatLacks 52 = .ok (.if_icmp .ne 7, 3) := by decide +kernel
theorem dX7_lookWhatLacks_55 : decode cX7_lookWhatLacks 55 = .ok (.iconst 4, 1) := by decide +kernel
theorem dX7_lookWhatLacks_56 : decode cX7_lookWhatLacks 56 = .ok (.goto 5, 3) := by decide +kernel
theorem dX7_lookWhatLacks_59 : decode cX7_lookWhatLacks 59 = .ok (.bipush 6, 2) := by decide +kernel
theorem dX7_lookWhatLacks_61 : decode cX7_lookWhatLacks 61 = .ok (.invokevirtual 253, 3) := by decide +kernel
theorem dX7_lookWhatLacks_64 : decode cX7_lookWhatLacks 64 = .ok (.return_, 1) := by decide +kernel
theorem dX7_run_0 : decode cX7_run 0 = .ok (.aload_n 0, 1) := by decide +kernel
theorem dX7_run_1 : decode cX7_run 1 = .ok (.iconst 0, 1) := by decide +kernel
theorem dX7_run_2 : decode cX7_run 2 = .ok (.putfield 85, 3) := by decide +kernel
theorem dX7_run_5 : decode cX7_run 5 = .ok (.aload_n 0, 1) := by decide +kernel
theorem dX7_run_6 : decode cX7_run 6 = .ok (.invokevirtual 256, 3) := by decide +kernel
theorem dX7_run_9 : decode cX7_run 9 = .ok (.iconst 0, 1) := by decide +kernel
theorem dX7_run_10 : decode cX7_run 10 = .ok (.istore_n 1, 1) := by decide +kernel
theorem dX7_run_11 : decode cX7_run 11 = .ok (.iload_n 1, 1) := by decide +kernel
theorem dX7_run_12 : decode cX7_run 12 = .ok (.aload_n 0, 1) := by decide +kernel
theorem dX7_run_13 : decode cX7_run 13 = .ok (.getfield 183, 3) := by decide +kernel
theorem dX7_run_16 : decode cX7_run 16 = .ok (.if_icmp .ge 14, 3) := by decide +kernel
theorem dX7_run_19 : decode cX7_run 19 = .ok (.aload_n 0, 1) := by decide +kernel
theorem dX7_run_20 : decode cX7_run 20 = .ok (.iload_n 1, 1) := by decide +kernel
theorem dX7_run_21 : decode cX7_run 21 = .ok (.invokevirtual 259, 3) := by decide +kernel
theorem dX7_run_24 : decode cX7_run 24 = .ok (.iinc 1 1, 3) := by decide +kernel
theorem dX7_run_27 : decode cX7_run 27 = .ok (.goto (-16), 3) := by decide +kernel
theorem dX7_run_30 : decode cX7_run 30 = .ok (.aload_n 0, 1) := by decide +kernel
theorem dX7_run_31 : decode cX7_run 31 = .ok (.invokevirtual 262, 3) := by decide +kernel
theorem dX7_run_34 : decode cX7_run 34 = .ok (.aload_n 0, 1) := by decide +kernel
theorem dX7_run_35 : decode cX7_run 35 = .ok (.iconst 0, 1) := by decide +kernel
theorem dX7_run_36 : decode cX7_run 36 = .ok (.putfield 250, 3) := by decide +kernel
theorem dX7_run_39 : decode cX7_run 39 = .ok (.iconst 0, 1) := by decide +kernel
theorem dX7_run_40 : decode cX7_run 40 = .ok (.istore_n 1, 1) := by decide +kernel
theorem dX7_run_41 : decode cX7_run 41 = .ok (.iload_n 1, 1) := by decide +kernel
theorem dX7_run_42 : decode cX7_run 42 = .ok (.aload_n 0, 1) := by decide +kernel
theorem dX7_run_43 : decode cX7_run 43 = .ok (.getfield 183, 3) := by decide +kernel
theorem dX7_run_46 : decode cX7_run 46 = .ok (.if_icmp .ge 24, 3) := by decide +kernel
theorem dX7_run_49 : decode cX7_run 49 = .ok (.aload_n 0, 1) := by decide +kernel
theorem dX7_run_50 : decode cX7_run 50 = .ok (.iload_n 1, 1) := by decide +kernel
theorem dX7_run_51 : decode cX7_run 51 = .ok (.invokevirtual 265, 3) := by decide +kernel
theorem dX7_run_54 : decode cX7_run 54 = .ok (.aload_n 0, 1) := by decide +kernel
theorem dX7_run_55 : decode cX7_run 55 = .ok (.aload_n 0, 1) := by decide +kernel
theorem dX7_run_56 : decode cX7_run 56 = .ok (.getfield 58, 3) := by decide +kernel
theorem dX7_run_59 : decode cX7_run 59 = .ok (.iload_n 1, 1) := by decide +kernel
theorem dX7_run_60 : decode cX7_run 60 = .ok (.iaload, 1) := by decide +kernel
theorem dX7_run_61 : decode cX7_run 61 = .ok (.invokevirtual 268, 3) := by decide +kernel
theorem dX7_run_64 : decode cX7_run 64 = .ok (.iinc 1 1, 3) := by decide +kernel
theorem dX7_run_67 : decode cX7_run 67 = .ok (.goto (-26), 3) := by decide +kernel
theorem dX7_run_70 : decode cX7_run 70 = .ok (.aload_n 0, 1) := by decide +kernel
theorem dX7_run_71 : decode cX7_run 71 = .ok (.iconst 1, 1) := by decide +kernel
theorem dX7_run_72 : decode cX7_run 72 = .ok (.putfield 271, 3) := by decide +kernel
theorem dX7_run_75 : decode cX7_run 75 = .ok (.aload_n 0, 1) := by decide +kernel
theorem dX7_run_76 : decode cX7_run 76 = .ok (.getfield 183, 3) := by decide +kernel
theorem dX7_run_79 : decode cX7_run 79 = .ok (.ireturn, 1) := by decide +kernel
theorem dX7_isRow_0 : decode cX7_isRow 0 = .ok (.iload_n 1, 1) := by decide +kernel
theorem dX7_isRow_1 : decode cX7_isRow 1 = .ok (.ifCond .lt 15, 3) := by decide +kernel
theorem dX7_isRow_4 : decode cX7_isRow 4 = .ok (.iload_n 1, 1) := by decide +kernel
theorem dX7_isRow_5 : decode cX7_isRow 5 = .ok (.aload_n 0, 1) := by decide +kernel
theorem dX7_isRow_6 : decode cX7_isRow 6 = .ok (.getfield 183, 3) := by decide +kernel
theorem dX7_isRow_9 : decode cX7_isRow 9 = .ok (.if_icmp .ge 7, 3) := by decide +kernel
theorem dX7_isRow_12 : decode cX7_isRow 12 = .ok (.iconst 1, 1) := by decide +kernel
theorem dX7_isRow_13 : decode cX7_isRow 13 = .ok (.goto 4, 3) := by decide +kernel
theorem dX7_isRow_16 : decode cX7_isRow 16 = .ok (.iconst 0, 1) := by decide +kernel
theorem dX7_isRow_17 : decode cX7_isRow 17 = .ok (.ireturn, 1) := by decide +kernel
theorem dX7_row_0 : decode cX7_row 0 = .ok (.aload_n 0, 1) := by decide +kernel
theorem dX7_row_1 : decode cX7_row 1 = .ok (.aload_n 0, 1) := by decide +kernel
theorem dX7_row_2 : decode cX7_row 2 = .ok (.iload_n 1, 1) := by decide +kernel
theorem dX7_row_3 : decode cX7_row 3 = .ok (.invokevirtual 275, 3) := by decide +kernel
theorem dX7_row_6 : decode cX7_row 6 = .ok (.ifCond .eq 7, 3) := by decide +kernel
theorem dX7_row_9 : decode cX7_row 9 = .ok (.iconst 0, 1) := by decide +kernel
theorem dX7_row_10 : decode cX7_row 10 = .ok (.goto 4, 3) := by decide +kernel
theorem dX7_row_13 : decode cX7_row 13 = .ok (.iconst 1, 1) := by decide +kernel
theorem dX7_row_14 : decode cX7_row 14 = .ok (.putfield 85, 3) := by decide +kernel
theorem dX7_row_17 : decode cX7_row 17 = .ok (.aload_n 0, 1) := by decide +kernel
theorem dX7_row_18 : decode cX7_row 18 = .ok (.getfield 85, 3) := by decide +kernel
theorem dX7_row_21 : decode cX7_row 21 = .ok (.ifCond .le 7, 3) := by decide +kernel
theorem dX7_row_24 : decode cX7_row 24 = .ok (.iconst 0, 1) := by decide +kernel
theorem dX7_row_25 : decode cX7_row 25 = .ok (.goto 9, 3) := by decide +kernel
theorem dX7_row_28 : decode cX7_row 28 = .ok (.aload_n 0, 1) := by decide +kernel
theorem dX7_row_29 : decode cX7_row 29 = .ok (.getfield 58, 3) := by decide +kernel
theorem dX7_row_32 : decode cX7_row 32 = .ok (.iload_n 1, 1) := by decide +kernel
theorem dX7_row_33 : decode cX7_row 33 = .ok (.iaload, 1) := by decide +kernel
theorem dX7_row_34 : decode cX7_row 34 = .ok (.ireturn, 1) := by decide +kernel
theorem dX7_letter_0 : decode cX7_letter 0 = .ok (.aload_n 0, 1) := by decide +kernel
theorem dX7_letter_1 : decode cX7_letter 1 = .ok (.aload_n 0, 1) := by decide +kernel
theorem dX7_letter_2 : decode cX7_letter 2 = .ok (.iload_n 1, 1) := by decide +kernel
theorem dX7_letter_3 : decode cX7_letter 3 = .ok (.invokevirtual 275, 3) := by decide +kernel
theorem dX7_letter_6 : decode cX7_letter 6 = .ok (.ifCond .eq 7, 3) := by decide +kernel
theorem dX7_letter_9 : decode cX7_letter 9 = .ok (.iconst 0, 1) := by decide +kernel
theorem dX7_letter_10 : decode cX7_letter 10 = .ok (.goto 4, 3) := by decide +kernel
theorem dX7_letter_13 : decode cX7_letter 13 = .ok (.iconst 1, 1) := by decide +kernel
theorem dX7_letter_14 : decode cX7_letter 14 = .ok (.putfield 85, 3) := by decide +kernel
theorem dX7_letter_17 : decode cX7_letter 17 = .ok (.aload_n 0, 1) := by decide +kernel
theorem dX7_letter_18 : decode cX7_letter 18 = .ok (.getfield 85, 3) := by decide +kernel
theorem dX7_letter_21 : decode cX7_letter 21 = .ok (.ifCond .le 7, 3) := by decide +kernel
theorem dX7_letter_24 : decode cX7_letter 24 = .ok (.iconst 0, 1) := by decide +kernel
theorem dX7_letter_25 : decode cX7_letter 25 = .ok (.goto 9, 3) := by decide +kernel
theorem dX7_letter_28 : decode cX7_letter 28 = .ok (.aload_n 0, 1) := by decide +kernel
theorem dX7_letter_29 : decode cX7_letter 29 = .ok (.getfield 61, 3) := by decide +kernel
theorem dX7_letter_32 : decode cX7_letter 32 = .ok (.iload_n 1, 1) := by decide +kernel
theorem dX7_letter_33 : decode cX7_letter 33 = .ok (.iaload, 1) := by decide +kernel
theorem dX7_letter_34 : decode cX7_letter 34 = .ok (.ireturn, 1) := by decide +kernel
theorem dX7_initials_0 : decode cX7_initials 0 = .ok (.aload_n 0, 1) := by decide +kernel
theorem dX7_initials_1 : decode cX7_initials 1 = .ok (.aload_n 0, 1) := by decide +kernel
theorem dX7_initials_2 : decode cX7_initials 2 = .ok (.iload_n 1, 1) := by decide +kernel
theorem dX7_initials_3 : decode cX7_initials 3 = .ok (.invokevirtual 100, 3) := by decide +kernel
theorem dX7_initials_6 : decode cX7_initials 6 = .ok (.ifCond .eq 7, 3) := by decide +kernel
theorem dX7_initials_9 : decode cX7_initials 9 = .ok (.iconst 0, 1) := by decide +kernel
theorem dX7_initials_10 : decode cX7_initials 10 = .ok (.goto 4, 3) := by decide +kernel
theorem dX7_initials_13 : decode cX7_initials 13 = .ok (.iconst 1, 1) := by decide +kernel
theorem dX7_initials_14 : decode cX7_initials 14 = .ok (.putfield 85, 3) := by decide +kernel
theorem dX7_initials_17 : decode cX7_initials 17 = .ok (.aload_n 0, 1) := by decide +kernel
theorem dX7_initials_18 : decode cX7_initials 18 = .ok (.getfield 85, 3) := by decide +kernel
theorem dX7_initials_21 : decode cX7_initials 21 = .ok (.ifCond .le 5, 3) := by decide +kernel
theorem dX7_initials_24 : decode cX7_initials 24 = .ok (.iconst 0, 1) := by decide +kernel
theorem dX7_initials_25 : decode cX7_initials 25 = .ok (.ireturn, 1) := by decide +kernel
theorem dX7_initials_26 : decode cX7_initials 26 = .ok (.aload_n 0, 1) := by decide +kernel
theorem dX7_initials_27 : decode cX7_initials 27 = .ok (.iconst 0, 1) := by decide +kernel
theorem dX7_initials_28 : decode cX7_initials 28 = .ok (.iload_n 1, 1) := by decide +kernel
theorem dX7_initials_29 : decode cX7_initials 29 = .ok (.invokevirtual 166, 3) := by decide +kernel
theorem dX7_initials_32 : decode cX7_initials 32 = .ok (.aload_n 0, 1) := by decide +kernel
theorem dX7_initials_33 : decode cX7_initials 33 = .ok (.iload_n 2, 1) := by decide +kernel
theorem dX7_initials_34 : decode cX7_initials 34 = .ok (.ifCond .lt 13, 3) := by decide +kernel
theorem dX7_initials_37 : decode cX7_initials 37 = .ok (.iload_n 2, 1) := by decide +kernel
theorem dX7_initials_38 : decode cX7_initials 38 = .ok (.aload_n 0, 1) := by decide +kernel
theorem dX7_initials_39 : decode cX7_initials 39 = .ok (.getfield 49, 3) := by decide +kernel
theorem dX7_initials_42 : decode cX7_initials 42 = .ok (.iconst 0, 1) := by decide +kernel
theorem dX7_initials_43 : decode cX7_initials 43 = .ok (.iaload, 1) := by decide +kernel
theorem dX7_initials_44 : decode cX7_initials 44 = .ok (.if_icmp .lt 7, 3) := by decide +kernel
theorem dX7_initials_47 : decode cX7_initials 47 = .ok (.iconst 2, 1) := by decide +kernel
theorem dX7_initials_48 : decode cX7_initials 48 = .ok (.goto 4, 3) := by decide +kernel
theorem dX7_initials_51 : decode cX7_initials 51 = .ok (.iconst 0, 1) := by decide +kernel
theorem dX7_initials_52 : decode cX7_initials 52 = .ok (.putfield 85, 3) := by decide +kernel
theorem dX7_initials_55 : decode cX7_initials 55 = .ok (.aload_n 0, 1) := by decide +kernel
theorem dX7_initials_56 : decode cX7_initials 56 = .ok (.getfield 85, 3) := by decide +kernel
theorem dX7_initials_59 : decode cX7_initials 59 = .ok (.ifCond .le 5, 3) := by decide +kernel
theorem dX7_initials_62 : decode cX7_initials 62 = .ok (.iconst 0, 1) := by decide +kernel
theorem dX7_initials_63 : decode cX7_initials 63 = .ok (.ireturn, 1) := by decide +kernel
theorem dX7_initials_64 : decode cX7_initials 64 = .ok (.aload_n 0, 1) := by decide +kernel
theorem dX7_initials_65 : decode cX7_initials 65 = .ok (.iconst 0, 1) := by decide +kernel
theorem dX7_initials_66 : decode cX7_initials 66 = .ok (.putfield 136, 3) := by decide +kernel
theorem dX7_initials_69 : decode cX7_initials 69 = .ok (.aload_n 0, 1) := by decide +kernel
theorem dX7_initials_70 : decode cX7_initials 70 = .ok (.iconst 0, 1) := by decide +kernel
theorem dX7_initials_71 : decode cX7_initials 71 = .ok (.iload_n 2, 1) := by decide +kernel
theorem dX7_initials_72 : decode cX7_initials 72 = .ok (.invokevirtual 192, 3) := by decide +kernel
theorem dX7_initials_75 : decode cX7_initials 75 = .ok (.aload_n 0, 1) := by decide +kernel
theorem dX7_initials_76 : decode cX7_initials 76 = .ok (.iload_n 3, 1) := by decide +kernel
theorem dX7_initials_77 : decode cX7_initials 77 = .ok (.iconst (-1), 1) := by decide +kernel
theorem dX7_initials_78 : decode cX7_initials 78 = .ok (.if_icmp .lt 11, 3) := by decide +kernel
theorem dX7_initials_81 : decode cX7_initials 81 = .ok (.iload_n 3, 1) := by decide +kernel
theorem dX7_initials_82 : decode cX7_initials 82 = .ok (.aload_n 0, 1) := by decide +kernel
theorem dX7_initials_83 : decode cX7_initials 83 = .ok (.getfield 136, 3) := by decide +kernel
theorem dX7_initials_86 : decode cX7_initials 86 = .ok (.if_icmp .lt 7, 3) := by decide +kernel
theorem dX7_initials_89 : decode cX7_initials 89 = .ok (.iconst 2, 1) := by decide +kernel
theorem dX7_initials_90 : decode cX7_initials 90 = .ok (.goto 4, 3) := by decide +kernel
theorem dX7_initials_93 : decode cX7_initials 93 = .ok (.iconst 0, 1) := by decide +kernel
theorem dX7_initials_94 : decode cX7_initials 94 = .ok (.putfield 85, 3) := by decide +kernel
theorem dX7_initials_97 : decode cX7_initials 97 = .ok (.aload_n 0, 1) := by decide +kernel
theorem dX7_initials_98 : decode cX7_initials 98 = .ok (.getfield 85, 3) := by decide +kernel
theorem dX7_initials_101 : decode cX7_initials 101 = .ok (.ifCond .le 7, 3) := by decide +kernel
theorem dX7_initials_104 : decode cX7_initials 104 = .ok (.iconst 0, 1) := by decide +kernel
theorem dX7_initials_105 : decode cX7_initials 105 = .ok (.goto 21, 3) := by decide +kernel
theorem dX7_initials_108 : decode cX7_initials 108 = .ok (.iload_n 3, 1) := by decide +kernel
theorem dX7_initials_109 : decode cX7_initials 109 = .ok (.iconst (-1), 1) := by decide +kernel
theorem dX7_initials_110 : decode cX7_initials 110 = .ok (.if_icmp .ne 10, 3) := by decide +kernel
theorem dX7_initials_113 : decode cX7_initials 113 = .ok (.aload_n 0, 1) := by decide +kernel
theorem dX7_initials_114 : decode cX7_initials 114 = .ok (.getfield 136, 3) := by decide +kernel
theorem dX7_initials_117 : decode cX7_initials 117 = .ok (.goto 9, 3) := by decide +kernel
theorem dX7_initials_120 : decode cX7_initials 120 = .ok (.aload_n 0, 1) := by decide +kernel
theorem dX7_initials_121 : decode cX7_initials 121 = .ok (.getfield 52, 3) := by decide +kernel
theorem dX7_initials_124 : decode cX7_initials 124 = .ok (.iload_n 3, 1) := by decide +kernel
theorem dX7_initials_125 : decode cX7_initials 125 = .ok (.iaload, 1) := by decide +kernel
theorem dX7_initials_126 : decode cX7_initials 126 = .ok (.ireturn, 1) := by decide +kernel
theorem dX7_missing_0 : decode cX7_missing 0 = .ok (.aload_n 0, 1) := by decide +kernel
theorem dX7_missing_1 : decode cX7_missing 1 = .ok (.iconst 0, 1) := by decide +kernel
theorem dX7_missing_2 : decode cX7_missing 2 = .ok (.putfield 85, 3) := by decide +kernel
theorem dX7_missing_5 : decode cX7_missing 5 = .ok (.iload_n 1, 1) := by decide +kernel
theorem dX7_missing_6 : decode cX7_missing 6 = .ok (.iconst (-1), 1) := by decide +kernel
theorem dX7_missing_7 : decode cX7_missing 7 = .ok (.if_icmp .ne 8, 3) := by decide +kernel
theorem dX7_missing_10 : decode cX7_missing 10 = .ok (.aload_n 0, 1) := by decide +kernel
theorem dX7_missing_11 : decode cX7_missing 11 = .ok (.getfield 250, 3) := by decide +kernel
theorem dX7_missing_14 : decode cX7_missing 14 = .ok (.ireturn, 1) := by decide +kernel
theorem dX7_missing_15 : decode cX7_missing 15 = .ok (.aload_n 0, 1) := by decide +kernel
theorem dX7_missing_16 : decode cX7_missing 16 = .ok (.iload_n 1, 1) := by decide +kernel
theorem dX7_missing_17 : decode cX7_missing 17 = .ok (.ifCond .lt 20, 3) := by decide +kernel
theorem dX7_missing_20 : decode cX7_missing 20 = .ok (.iload_n 1, 1) := by decide +kernel
theorem dX7_missing_21 : decode cX7_missing 21 = .ok (.aload_n 0, 1) := by decide +kernel
theorem dX7_missing_22 : decode cX7_missing 22 = .ok (.getfield 250, 3) := by decide +kernel
theorem dX7_missing_25 : decode cX7_missing 25 = .ok (.if_icmp .ge 12, 3) := by decide +kernel
theorem dX7_missing_28 : decode cX7_missing 28 = .ok (.iload_n 2, 1) := by decide +kernel
theorem dX7_missing_29 : decode cX7_missing 29 = .ok (.ifCond .lt 8, 3) := by decide +kernel
theorem dX7_missing_32 : decode cX7_missing 32 = .ok (.iload_n 2, 1) := by decide +kernel
theorem dX7_missing_33 : decode cX7_missing 33 = .ok (.iconst 1, 1) := by decide +kernel
theorem dX7_missing_34 : decode cX7_missing 34 = .ok (.if_icmp .le 7, 3) := by decide +kernel
theorem dX7_missing_37 : decode cX7_missing 37 = .ok (.iconst 1, 1) := by decide +kernel
theorem dX7_missing_38 : decode cX7_missing 38 = .ok (.goto 4, 3) := by decide +kernel
theorem dX7_missing_41 : decode cX7_missing 41 = .ok (.iconst 0, 1) := by decide +kernel
theorem dX7_missing_42 : decode cX7_missing 42 = .ok (.putfield 85, 3) := by decide +kernel
theorem dX7_missing_45 : decode cX7_missing 45 = .ok (.aload_n 0, 1) := by decide +kernel
theorem dX7_missing_46 : decode cX7_missing 46 = .ok (.getfield 85, 3) := by decide +kernel
theorem dX7_missing_49 : decode cX7_missing 49 = .ok (.ifCond .le 7, 3) := by decide +kernel
theorem dX7_missing_52 : decode cX7_missing 52 = .ok (.iconst 0, 1) := by decide +kernel
theorem dX7_missing_53 : decode cX7_missing 53 = .ok (.goto 22, 3) := by decide +kernel
theorem dX7_missing_56 : decode cX7_missing 56 = .ok (.iload_n 2, 1) := by decide +kernel
theorem dX7_missing_57 : decode cX7_missing 57 = .ok (.ifCond .ne 12, 3) := by decide +kernel
theorem dX7_missing_60 : decode cX7_missing 60 = .ok (.aload_n 0, 1) := by decide +kernel
theorem dX7_missing_61 : decode cX7_missing 61 = .ok (.getfield 76, 3) := by decide +kernel
theorem dX7_missing_64 : decode cX7_missing 64 = .ok (.iload_n 1, 1) := by decide +kernel
theorem dX7_missing_65 : decode cX7_missing 65 = .ok (.iaload, 1) := by decide +kernel
theorem dX7_missing_66 : decode cX7_missing 66 = .ok (.goto 9, 3) := by decide +kernel
theorem dX7_missing_69 : decode cX7_missing 69 = .ok (.aload_n 0, 1) := by decide +kernel
theorem dX7_missing_70 : decode cX7_missing 70 = .ok (.getfield 79, 3) := by decide +kernel
theorem dX7_missing_73 : decode cX7_missing 73 = .ok (.iload_n 1, 1) := by decide +kernel
theorem dX7_missing_74 : decode cX7_missing 74 = .ok (.iaload, 1) := by decide +kernel
theorem dX7_missing_75 : decode cX7_missing 75 = .ok (.ireturn, 1) := by decide +kernel
theorem dX7_print_0 : decode cX7_print 0 = .ok (.aload_n 0, 1) := by decide +kernel
theorem dX7_print_1 : decode cX7_print 1 = .ok (.aload_n 0, 1) := by decide +kernel
theorem dX7_print_2 : decode cX7_print 2 = .ok (.getfield 271, 3) := by decide +kernel
theorem dX7_print_5 : decode cX7_print 5 = .ok (.ifCond .eq 20, 3) := by decide +kernel
theorem dX7_print_8 : decode cX7_print 8 = .ok (.iload_n 1, 1) := by decide +kernel
theorem dX7_print_9 : decode cX7_print 9 = .ok (.iconst (-1), 1) := by decide +kernel
theorem dX7_print_10 : decode cX7_print 10 = .ok (.if_icmp .eq 11, 3) := by decide +kernel
theorem dX7_print_13 : decode cX7_print 13 = .ok (.aload_n 0, 1) := by decide +kernel
theorem dX7_print_14 : decode cX7_print 14 = .ok (.iload_n 1, 1) := by decide +kernel
theorem dX7_print_15 : decode cX7_print 15 = .ok (.invokevirtual 275, 3) := by decide +kernel
theorem dX7_print_18 : decode cX7_print 18 = .ok (.ifCond .eq 7, 3) := by decide +kernel
theorem dX7_print_21 : decode cX7_print 21 = .ok (.iconst 0, 1) := by decide +kernel
theorem dX7_print_22 : decode cX7_print 22 = .ok (.goto 4, 3) := by decide +kernel
theorem dX7_print_25 : decode cX7_print 25 = .ok (.iconst 1, 1) := by decide +kernel
theorem dX7_print_26 : decode cX7_print 26 = .ok (.putfield 85, 3) := by decide +kernel
theorem dX7_print_29 : decode cX7_print 29 = .ok (.aload_n 0, 1) := by decide +kernel
theorem dX7_print_30 : decode cX7_print 30 = .ok (.getfield 85, 3) := by decide +kernel
theorem dX7_print_33 : decode cX7_print 33 = .ok (.ifCond .le 5, 3) := by decide +kernel
theorem dX7_print_36 : decode cX7_print 36 = .ok (.iconst 0, 1) := by decide +kernel
theorem dX7_print_37 : decode cX7_print 37 = .ok (.ireturn, 1) := by decide +kernel
theorem dX7_print_38 : decode cX7_print 38 = .ok (.aload_n 0, 1) := by decide +kernel
theorem dX7_print_39 : decode cX7_print 39 = .ok (.iconst 0, 1) := by decide +kernel
theorem dX7_print_40 : decode cX7_print 40 = .ok (.putfield 136, 3) := by decide +kernel
theorem dX7_print_43 : decode cX7_print 43 = .ok (.iload_n 1, 1) := by decide +kernel
theorem dX7_print_44 : decode cX7_print 44 = .ok (.iconst (-1), 1) := by decide +kernel
theorem dX7_print_45 : decode cX7_print 45 = .ok (.if_icmp .ne 31, 3) := by decide +kernel
theorem dX7_print_48 : decode cX7_print 48 = .ok (.aload_n 0, 1) := by decide +kernel
theorem dX7_print_49 : decode cX7_print 49 = .ok (.ldc2_w 278, 3) := by decide +kernel
theorem dX7_print_52 : decode cX7_print 52 = .ok (.invokevirtual 203, 3) := by decide +kernel
theorem dX7_print_55 : decode cX7_print 55 = .ok (.aload_n 0, 1) := by decide +kernel
theorem dX7_print_56 : decode cX7_print 56 = .ok (.ldc2_w 280, 3) := by decide +kernel
theorem dX7_print_59 : decode cX7_print 59 = .ok (.invokevirtual 203, 3) := by decide +kernel
theorem dX7_print_62 : decode cX7_print 62 = .ok (.aload_n 0, 1) := by decide +kernel
theorem dX7_print_63 : decode cX7_print 63 = .ok (.aload_n 0, 1) := by decide +kernel
theorem dX7_print_64 : decode cX7_print 64 = .ok (.getfield 183, 3) := by decide +kernel
theorem dX7_print_67 : decode cX7_print 67 = .ok (.invokevirtual 241, 3) := by decide +kernel
theorem dX7_print_70 : decode cX7_print 70 = .ok (.aload_n 0, 1) := by decide +kernel
theorem dX7_print_71 : decode cX7_print 71 = .ok (.bipush 41, 2) := by decide +kernel
theorem dX7_print_73 : decode cX7_print 73 = .ok (.invokevirtual 141, 3) := by decide +kernel
theorem dX7_print_76 : decode cX7_print 76 = .ok (.aload_n 0, 1) := by decide +kernel
theorem dX7_print_77 : decode cX7_print 77 = .ok (.iload_n 1, 1) := by decide +kernel
theorem dX7_print_78 : decode cX7_print 78 = .ok (.iconst (-1), 1) := by decide +kernel
theorem dX7_print_79 : decode cX7_print 79 = .ok (.if_icmp .ne 10, 3) := by decide +kernel
theorem dX7_print_82 : decode cX7_print 82 = .ok (.aload_n 0, 1) := by decide +kernel
theorem dX7_print_83 : decode cX7_print 83 = .ok (.getfield 136, 3) := by decide +kernel
theorem dX7_print_86 : decode cX7_print 86 = .ok (.goto 9, 3) := by decide +kernel
theorem dX7_print_89 : decode cX7_print 89 = .ok (.aload_n 0, 1) := by decide +kernel
theorem dX7_print_90 : decode cX7_print 90 = .ok (.getfield 70, 3) := by decide +kernel
theorem dX7_print_93 : decode cX7_print 93 = .ok (.iload_n 1, 1) := by decide +kernel
theorem dX7_print_94 : decode cX7_print 94 = .ok (.iaload, 1) := by decide +kernel
theorem dX7_print_95 : decode cX7_print 95 = .ok (.putfield 282, 3) := by decide +kernel
theorem dX7_print_98 : decode cX7_print 98 = .ok (.iconst 0, 1) := by decide +kernel
theorem dX7_print_99 : decode cX7_print 99 = .ok (.istore_n 2, 1) := by decide +kernel
theorem dX7_print_100 : decode cX7_print 100 = .ok (.iload_n 2, 1) := by decide +kernel
theorem dX7_print_101 : decode cX7_print 101 = .ok (.aload_n 0, 1) := by decide +kernel
theorem dX7_print_102 : decode cX7_print 102 = .ok (.getfield 282, 3) := by decide +kernel
theorem dX7_print_105 : decode cX7_print 105 = .ok (.if_icmp .ge 41, 3) := by decide +kernel
theorem dX7_print_108 : decode cX7_print 108 = .ok (.aload_n 0, 1) := by decide +kernel
theorem dX7_print_109 : decode cX7_print 109 = .ok (.getfield 82, 3) := by decide +kernel
theorem dX7_print_112 : decode cX7_print 112 = .ok (.iload_n 2, 1) := by decide +kernel
theorem dX7_print_113 : decode cX7_print 113 = .ok (.iload_n 1, 1) := by decide +kernel
theorem dX7_print_114 : decode cX7_print 114 = .ok (.iconst (-1), 1) := by decide +kernel
theorem dX7_print_115 : decode cX7_print 115 = .ok (.if_icmp .ne 12, 3) := by decide +kernel
theorem dX7_print_118 : decode cX7_print 118 = .ok (.aload_n 0, 1) := by decide +kernel
theorem dX7_print_119 : decode cX7_print 119 = .ok (.getfield 52, 3) := by decide +kernel
theorem dX7_print_122 : decode cX7_print 122 = .ok (.iload_n 2, 1) := by decide +kernel
theorem dX7_print_123 : decode cX7_print 123 = .ok (.iaload, 1) := by decide +kernel
theorem dX7_print_124 : decode cX7_print 124 = .ok (.goto 15, 3) := by decide +kernel
theorem dX7_print_127 : decode cX7_print 127 = .ok (.aload_n 0, 1) := by decide +kernel
theorem dX7_print_128 : decode cX7_print 128 = .ok (.getfield 73, 3) := by decide +kernel
theorem dX7_print_131 : decode cX7_print 131 = .ok (.sipush 1000, 3) := by decide +kernel
theorem dX7_print_134 : decode cX7_print 134 = .ok (.iload_n 1, 1) := by decide +kernel
theorem dX7_print_135 : decode cX7_print 135 = .ok (.imul, 1) := by decide +kernel
theorem dX7_print_136 : decode cX7_print 136 = .ok (.iload_n 2, 1) := by decide +kernel
theorem dX7_print_137 : decode cX7_print 137 = .ok (.iadd, 1) := by decide +kernel
theorem dX7_print_138 : decode cX7_print 138 = .ok (.iaload, 1) := by decide +kernel
theorem dX7_print_139 : decode cX7_print 139 = .ok (.iastore, 1) := by decide +kernel
theorem dX7_print_140 : decode cX7_print 140 = .ok (.iinc 2 1, 3) := by decide +kernel
theorem dX7_print_143 : decode cX7_print 143 = .ok (.goto (-43), 3) := by decide +kernel
theorem dX7_print_146 : decode cX7_print 146 = .ok (.aload_n 0, 1) := by decide +kernel
theorem dX7_print_147 : decode cX7_print 147 = .ok (.getfield 282, 3) := by decide +kernel
theorem dX7_print_150 : decode cX7_print 150 = .ok (.ireturn, 1) := by decide +kernel
theorem dX7_at_0 : decode cX7_at 0 = .ok (.aload_n 0, 1) := by decide +kernel
theorem dX7_at_1 : decode cX7_at 1 = .ok (.iload_n 1, 1) := by decide +kernel
theorem dX7_at_2 : decode cX7_at 2 = .ok (.ifCond .lt 11, 3) := by decide +kernel
theorem dX7_at_5 : decode cX7_at 5 = .ok (.iload_n 1, 1) := by decide +kernel
theorem dX7_at_6 : decode cX7_at 6 = .ok (.aload_n 0, 1) := by decide +kernel
theorem dX7_at_7 : decode cX7_at 7 = .ok (.getfield 282, 3) := by decide +kernel
theorem dX7_at_10 : decode cX7_at 10 = .ok (.if_icmp .lt 7, 3) := by decide +kernel
theorem dX7_at_13 : decode cX7_at 13 = .ok (.iconst 1, 1) := by decide +kernel
theorem dX7_at_14 : decode cX7_at 14 = .ok (.goto 4, 3) := by decide +kernel
theorem dX7_at_17 : decode cX7_at 17 = .ok (.iconst 0, 1) := by decide +kernel
theorem dX7_at_18 : decode cX7_at 18 = .ok (.putfield 85, 3) := by decide +kernel
theorem dX7_at_21 : decode cX7_at 21 = .ok (.aload_n 0, 1) := by decide +kernel
theorem dX7_at_22 : decode cX7_at 22 = .ok (.getfield 85, 3) := by decide +kernel
theorem dX7_at_25 : decode cX7_at 25 = .ok (.ifCond .le 7, 3) := by decide +kernel
theorem dX7_at_28 : decode cX7_at 28 = .ok (.iconst 0, 1) := by decide +kernel
theorem dX7_at_29 : decode cX7_at 29 = .ok (.goto 9, 3) := by decide +kernel
theorem dX7_at_32 : decode cX7_at 32 = .ok (.aload_n 0, 1) := by decide +kernel
theorem dX7_at_33 : decode cX7_at 33 = .ok (.getfield 82, 3) := by decide +kernel
theorem dX7_at_36 : decode cX7_at 36 = .ok (.iload_n 1, 1) := by decide +kernel
theorem dX7_at_37 : decode cX7_at 37 = .ok (.iaload, 1) := by decide +kernel
theorem dX7_at_38 : decode cX7_at 38 = .ok (.ireturn, 1) := by decide +kernel
theorem dX7_twice_0 : decode cX7_twice 0 = .ok (.aload_n 0, 1) := by decide +kernel
theorem dX7_twice_1 : decode cX7_twice 1 = .ok (.iconst 0, 1) := by decide +kernel
theorem dX7_twice_2 : decode cX7_twice 2 = .ok (.putfield 85, 3) := by decide +kernel
theorem dX7_twice_5 : decode cX7_twice 5 = .ok (.iconst 0, 1) := by decide +kernel
theorem dX7_twice_6 : decode cX7_twice 6 = .ok (.istore_n 2, 1) := by decide +kernel
theorem dX7_twice_7 : decode cX7_twice 7 = .ok (.iconst (-1), 1) := by decide +kernel
theorem dX7_twice_8 : decode cX7_twice 8 = .ok (.istore_n 3, 1) := by decide +kernel
theorem dX7_twice_9 : decode cX7_twice 9 = .ok (.iconst 0, 1) := by decide +kernel
theorem dX7_twice_10 : decode cX7_twice 10 = .ok (.istore 4, 2) := by decide +kernel
theorem dX7_twice_12 : decode cX7_twice 12 = .ok (.iload 4, 2) := by decide +kernel
theorem dX7_twice_14 : decode cX7_twice 14 = .ok (.aload_n 0, 1) := by decide +kernel
theorem dX7_twice_15 : decode cX7_twice 15 = .ok (.getfield 89, 3) := by decide +kernel
theorem dX7_twice_18 : decode cX7_twice 18 = .ok (.if_icmp .ge 35, 3) := by decide +kernel
theorem dX7_twice_21 : decode cX7_twice 21 = .ok (.aload_n 0, 1) := by decide +kernel
theorem dX7_twice_22 : decode cX7_twice 22 = .ok (.iload 4, 2) := by decide +kernel
theorem dX7_twice_24 : decode cX7_twice 24 = .ok (.invokevirtual 186, 3) := by decide +kernel
theorem dX7_twice_27 : decode cX7_twice 27 = .ok (.iload 4, 2) := by decide +kernel
theorem dX7_twice_29 : decode cX7_twice 29 = .ok (.if_icmp .eq 18, 3) := by decide +kernel
theorem dX7_twice_32 : decode cX7_twice 32 = .ok (.iload_n 2, 1) := by decide +kernel
theorem dX7_twice_33 : decode cX7_twice 33 = .ok (.iload_n 1, 1) := by decide +kernel
theorem dX7_twice_34 : decode cX7_twice 34 = .ok (.if_icmp .ne 8, 3) := by decide +kernel
theorem dX7_twice_37 : decode cX7_twice 37 = .ok (.iload 4, 2) := by decide +kernel
theorem dX7_twice_39 : decode cX7_twice 39 = .ok (.goto 4, 3) := by decide +kernel
theorem dX7_twice_42 : decode cX7_twice 42 = .ok (.iload_n 3, 1) := by decide +kernel
theorem dX7_twice_43 : decode cX7_twice 43 = .ok (.istore_n 3, 1) := by decide +kernel
theorem dX7_twice_44 : decode cX7_twice 44 = .ok (.iinc 2 1, 3) := by decide +kernel
theorem dX7_twice_47 : decode cX7_twice 47 = .ok (.iinc 4 1, 3) := by decide +kernel
theorem dX7_twice_50 : decode cX7_twice 50 = .ok (.goto (-38), 3) := by decide +kernel
theorem dX7_twice_53 : decode cX7_twice 53 = .ok (.iload_n 1, 1) := by decide +kernel
theorem dX7_twice_54 : decode cX7_twice 54 = .ok (.iconst (-1), 1) := by decide +kernel
theorem dX7_twice_55 : decode cX7_twice 55 = .ok (.if_icmp .ne 5, 3) := by decide +kernel
theorem dX7_twice_58 : decode cX7_twice 58 = .ok (.iload_n 2, 1) := by decide +kernel
theorem dX7_twice_59 : decode cX7_twice 59 = .ok (.ireturn, 1) := by decide +kernel
theorem dX7_twice_60 : decode cX7_twice 60 = .ok (.aload_n 0, 1) := by decide +kernel
theorem dX7_twice_61 : decode cX7_twice 61 = .ok (.iload_n 3, 1) := by decide +kernel
theorem dX7_twice_62 : decode cX7_twice 62 = .ok (.iconst (-1), 1) := by decide +kernel
theorem dX7_twice_63 : decode cX7_twice 63 = .ok (.if_icmp .ne 7, 3) := by decide +kernel
theorem dX7_twice_66 : decode cX7_twice 66 = .ok (.iconst 1, 1) := by decide +kernel
theorem dX7_twice_67 : decode cX7_twice 67 = .ok (.goto 4, 3) := by decide +kernel
theorem dX7_twice_70 : decode cX7_twice 70 = .ok (.iconst 0, 1) := by decide +kernel
theorem dX7_twice_71 : decode cX7_twice 71 = .ok (.putfield 85, 3) := by decide +kernel
theorem dX7_twice_74 : decode cX7_twice 74 = .ok (.aload_n 0, 1) := by decide +kernel
theorem dX7_twice_75 : decode cX7_twice 75 = .ok (.getfield 85, 3) := by decide +kernel
theorem dX7_twice_78 : decode cX7_twice 78 = .ok (.ifCond .le 7, 3) := by decide +kernel
theorem dX7_twice_81 : decode cX7_twice 81 = .ok (.iconst 0, 1) := by decide +kernel
theorem dX7_twice_82 : decode cX7_twice 82 = .ok (.goto 4, 3) := by decide +kernel
theorem dX7_twice_85 : decode cX7_twice 85 = .ok (.iload_n 3, 1) := by decide +kernel
theorem dX7_twice_86 : decode cX7_twice 86 = .ok (.ireturn, 1) := by decide +kernel
theorem dJ0_length_8abf5_0 : decode cJ0_length_8abf5 0 = .ok (.aload_n 0, 1) := by decide +kernel
theorem dJ0_length_8abf5_1 : decode cJ0_length_8abf5 1 = .ok (.getfield 9, 3) := by decide +kernel
theorem dJ0_length_8abf5_4 : decode cJ0_length_8abf5 4 = .ok (.arraylength, 1) := by decide +kernel
theorem dJ0_length_8abf5_5 : decode cJ0_length_8abf5 5 = .ok (.aload_n 0, 1) := by decide +kernel
theorem dJ0_length_8abf5_6 : decode cJ0_length_8abf5 6 = .ok (.invokevirtual 335, 3) := by decide +kernel
theorem dJ0_length_8abf5_9 : decode cJ0_length_8abf5 9 = .ok (.ishr, 1) := by decide +kernel
theorem dJ0_length_8abf5_10 : decode cJ0_length_8abf5 10 = .ok (.ireturn, 1) := by decide +kernel
theorem dJ0_charAt_5068e_0 : decode cJ0_charAt_5068e 0 = .ok (.aload_n 0, 1) := by decide +kernel
theorem dJ0_charAt_5068e_1 : decode cJ0_charAt_5068e 1 = .ok (.invokevirtual 492, 3) := by decide +kernel
theorem dJ0_charAt_5068e_4 : decode cJ0_charAt_5068e 4 = .ok (.ifCond .eq 12, 3) := by decide +kernel
theorem dJ0_charAt_5068e_7 : decode cJ0_charAt_5068e 7 = .ok (.aload_n 0, 1) := by decide +kernel
theorem dJ0_charAt_5068e_8 : decode cJ0_charAt_5068e 8 = .ok (.getfield 9, 3) := by decide +kernel
theorem dJ0_charAt_5068e_11 : decode cJ0_charAt_5068e 11 = .ok (.iload_n 1, 1) := by decide +kernel
theorem dJ0_charAt_5068e_12 : decode cJ0_charAt_5068e 12 = .ok (.invokestatic 495, 3) := by decide +kernel
theorem dJ0_charAt_5068e_15 : decode cJ0_charAt_5068e 15 = .ok (.ireturn, 1) := by decide +kernel
theorem dJ0_charAt_5068e_16 : decode cJ0_charAt_5068e 16 = .ok (.aload_n 0, 1) := by decide +kernel
theorem dJ0_charAt_5068e_17 : decode cJ0_charAt_5068e 17 = .ok (.getfield 9, 3) := by decide +kernel
theorem dJ0_charAt_5068e_20 : decode cJ0_charAt_5068e 20 = .ok (.iload_n 1, 1) := by decide +kernel
theorem dJ0_charAt_5068e_21 : decode cJ0_charAt_5068e 21 = .ok (.invokestatic 498, 3) := by decide +kernel
theorem dJ0_charAt_5068e_24 : decode cJ0_charAt_5068e 24 = .ok (.ireturn, 1) := by decide +kernel
theorem dJ0_coder_7d493_0 : decode cJ0_coder_7d493 0 = .ok (.getstatic 38, 3) := by decide +kernel
theorem dJ0_coder_7d493_3 : decode cJ0_coder_7d493 3 = .ok (.ifCond .eq 10, 3) := by decide +kernel
theorem dJ0_coder_7d493_6 : decode cJ0_coder_7d493 6 = .ok (.aload_n 0, 1) := by decide +kernel
theorem dJ0_coder_7d493_7 : decode cJ0_coder_7d493 7 = .ok (.getfield 15, 3) := by decide +kernel
theorem dJ0_coder_7d493_10 : decode cJ0_coder_7d493 10 = .ok (.goto 4, 3) := by decide +kernel
theorem dJ0_coder_7d493_13 : decode cJ0_coder_7d493 13 = .ok (.iconst 1, 1) := by decide +kernel
theorem dJ0_coder_7d493_14 : decode cJ0_coder_7d493 14 = .ok (.ireturn, 1) := by decide +kernel
theorem dJ0_isLatin1_aae02_0 : decode cJ0_isLatin1_aae02 0 = .ok (.getstatic 38, 3) := by decide +kernel
theorem dJ0_isLatin1_aae02_3 : decode cJ0_isLatin1_aae02 3 = .ok (.ifCond .eq 14, 3) := by decide +kernel
theorem dJ0_isLatin1_aae02_6 : decode cJ0_isLatin1_aae02 6 = .ok (.aload_n 0, 1) := by decide +kernel
theorem dJ0_isLatin1_aae02_7 : decode cJ0_isLatin1_aae02 7 = .ok (.getfield 15, 3) := by decide +kernel
theorem dJ0_isLatin1_aae02_10 : decode cJ0_isLatin1_aae02 10 = .ok (.ifCond .ne 7, 3) := by decide +kernel
theorem dJ0_isLatin1_aae02_13 : decode cJ0_isLatin1_aae02 13 = .ok (.iconst 1, 1) := by decide +kernel
theorem dJ0_isLatin1_aae02_14 : decode cJ0_isLatin1_aae02 14 = .ok (.goto 4, 3) := by decide +kernel
theorem dJ0_isLatin1_aae02_17 : decode cJ0_isLatin1_aae02 17 = .ok (.iconst 0, 1) := by decide +kernel
theorem dJ0_isLatin1_aae02_18 : decode cJ0_isLatin1_aae02 18 = .ok (.ireturn, 1) := by decide +kernel
theorem dJ0_checkIndex_df160_0 : decode cJ0_checkIndex_df160 0 = .ok (.iload_n 0, 1) := by decide +kernel
theorem dJ0_checkIndex_df160_1 : decode cJ0_checkIndex_df160 1 = .ok (.iload_n 1, 1) := by decide +kernel
theorem dJ0_checkIndex_df160_2 : decode cJ0_checkIndex_df160 2 = .ok (.getstatic 1053, 3) := by decide +kernel
theorem dJ0_checkIndex_df160_5 : decode cJ0_checkIndex_df160 5 = .ok (.invokestatic 1059, 3) := by decide +kernel
theorem dJ0_checkIndex_df160_8 : decode cJ0_checkIndex_df160 8 = .ok (.pop, 1) := by decide +kernel
theorem dJ0_checkIndex_df160_9 : decode cJ0_checkIndex_df160 9 = .ok (.return_, 1) := by decide +kernel
theorem dJ1_charAt_3b067_0 : decode cJ1_charAt_3b067 0 = .ok (.iload_n 1, 1) := by decide +kernel
theorem dJ1_charAt_3b067_1 : decode cJ1_charAt_3b067 1 = .ok (.aload_n 0, 1) := by decide +kernel
theorem dJ1_charAt_3b067_2 : decode cJ1_charAt_3b067 2 = .ok (.arraylength, 1) := by decide +kernel
theorem dJ1_charAt_3b067_3 : decode cJ1_charAt_3b067 3 = .ok (.invokestatic 9, 3) := by decide +kernel
theorem dJ1_charAt_3b067_6 : decode cJ1_charAt_3b067 6 = .ok (.aload_n 0, 1) := by decide +kernel
theorem dJ1_charAt_3b067_7 : decode cJ1_charAt_3b067 7 = .ok (.iload_n 1, 1) := by decide +kernel
theorem dJ1_charAt_3b067_8 : decode cJ1_charAt_3b067 8 = .ok (.baload, 1) := by decide +kernel
theorem dJ1_charAt_3b067_9 : decode cJ1_charAt_3b067 9 = .ok (.sipush 255, 3) := by decide +kernel
theorem dJ1_charAt_3b067_12 : decode cJ1_charAt_3b067 12 = .ok (.iand, 1) := by decide +kernel
theorem dJ1_charAt_3b067_13 : decode cJ1_charAt_3b067 13 = .ok (.i2c, 1) := by decide +kernel
theorem dJ1_charAt_3b067_14 : decode cJ1_charAt_3b067 14 = .ok (.ireturn, 1) := by decide +kernel
theorem dJxa1e45_init_da8c8_0 : decode cJxa1e45_init_da8c8 0 = .ok (.aload_n 0, 1) := by decide +kernel
theorem dJxa1e45_init_da8c8_1 : decode cJxa1e45_init_da8c8 1 = .ok (.invokespecial 1, 3) := by decide +kernel
theorem dJxa1e45_init_da8c8_4 : decode cJxa1e45_init_da8c8 4 = .ok (.return_, 1) := by decide +kernel
theorem dJxc12de_init_da8c8_0 : decode cJxc12de_init_da8c8 0 = .ok (.aload_n 0, 1) := by decide +kernel
theorem dJxc12de_init_da8c8_1 : decode cJxc12de_init_da8c8 1 = .ok (.invokespecial 1, 3) := by decide +kernel
theorem dJxc12de_init_da8c8_4 : decode cJxc12de_init_da8c8 4 = .ok (.aload_n 0, 1) := by decide +kernel
theorem dJxc12de_init_da8c8_5 : decode cJxc12de_init_da8c8 5 = .ok (.iconst 0, 1) := by decide +kernel
theorem dJxc12de_init_da8c8_6 : decode cJxc12de_init_da8c8 6 = .ok (.putfield 7, 3) := by decide +kernel
theorem dJxc12de_init_da8c8_9 : decode cJxc12de_init_da8c8 9 = .ok (.return_, 1) := by decide +kernel
theorem dJx4a65c_init_da8c8_0 : decode cJx4a65c_init_da8c8 0 = .ok (.aload_n 0, 1) := by decide +kernel
theorem dJx4a65c_init_da8c8_1 : decode cJx4a65c_init_da8c8 1 = .ok (.invokespecial 1, 3) := by decide +kernel
theorem dJx4a65c_init_da8c8_4 : decode cJx4a65c_init_da8c8 4 = .ok (.aload_n 0, 1) := by decide +kernel
theorem dJx4a65c_init_da8c8_5 : decode cJx4a65c_init_da8c8 5 = .ok (.getstatic 39, 3) := by decide +kernel
theorem dJx4a65c_init_da8c8_8 : decode cJx4a65c_init_da8c8 8 = .ok (.putfield 9, 3) := by decide +kernel
theorem dJx4a65c_init_da8c8_11 : decode cJx4a65c_init_da8c8 11 = .ok (.return_, 1) := by decide +kernel
theorem dJx4a65c_grow_92f84_0 : decode cJx4a65c_grow_92f84 0 = .ok (.aload_n 0, 1) := by decide +kernel
theorem dJx4a65c_grow_92f84_1 : decode cJx4a65c_grow_92f84 1 = .ok (.getfield 9, 3) := by decide +kernel
theorem dJx4a65c_grow_92f84_4 : decode cJx4a65c_grow_92f84 4 = .ok (.arraylength, 1) := by decide +kernel
theorem dJx4a65c_grow_92f84_5 : decode cJx4a65c_grow_92f84 5 = .ok (.istore_n 2, 1) := by decide +kernel
theorem dJx4a65c_grow_92f84_6 : decode cJx4a65c_grow_92f84 6 = .ok (.iload_n 2, 1) := by decide +kernel
theorem dJx4a65c_grow_92f84_7 : decode cJx4a65c_grow_92f84 7 = .ok (.ifCond .gt 13, 3) := by decide +kernel
theorem dJx4a65c_grow_92f84_10 : decode cJx4a65c_grow_92f84 10 = .ok (.aload_n 0, 1) := by decide +kernel
theorem dJx4a65c_grow_92f84_11 : decode cJx4a65c_grow_92f84 11 = .ok (.getfield 9, 3) := by decide +kernel
theorem dJx4a65c_grow_92f84_14 : decode cJx4a65c_grow_92f84 14 = .ok (.getstatic 39, 3) := by decide +kernel
theorem dJx4a65c_grow_92f84_17 : decode cJx4a65c_grow_92f84 17 = .ok (.if_acmp .eq 28, 3) := by decide +kernel
theorem dJx4a65c_grow_92f84_20 : decode cJx4a65c_grow_92f84 20 = .ok (.iload_n 2, 1) := by decide +kernel
theorem dJx4a65c_grow_92f84_21 : decode cJx4a65c_grow_92f84 21 = .ok (.iload_n 1, 1) := by decide +kernel
theorem dJx4a65c_grow_92f84_22 : decode cJx4a65c_grow_92f84 22 = .ok (.iload_n 2, 1) := by decide +kernel
theorem dJx4a65c_grow_92f84_23 : decode cJx4a65c_grow_92f84 23 = .ok (.isub, 1) := by decide +kernel
theorem dJx4a65c_grow_92f84_24 : decode cJx4a65c_grow_92f84 24 = .ok (.iload_n 2, 1) := by decide +kernel
theorem dJx4a65c_grow_92f84_25 : decode cJx4a65c_grow_92f84 25 = .ok (.iconst 1, 1) := by decide +kernel
theorem dJx4a65c_grow_92f84_26 : decode cJx4a65c_grow_92f84 26 = .ok (.ishr, 1) := by decide +kernel
theorem dJx4a65c_grow_92f84_27 : decode cJx4a65c_grow_92f84 27 = .ok (.invokestatic 73, 3) := by decide +kernel
theorem dJx4a65c_grow_92f84_30 : decode cJx4a65c_grow_92f84 30 = .ok (.istore_n 3, 1) := by decide +kernel
theorem dJx4a65c_grow_92f84_31 : decode cJx4a65c_grow_92f84 31 = .ok (.aload_n 0, 1) := by decide +kernel
theorem dJx4a65c_grow_92f84_32 : decode cJx4a65c_grow_92f84 32 = .ok (.aload_n 0, 1) := by decide +kernel
theorem dJx4a65c_grow_92f84_33 : decode cJx4a65c_grow_92f84 33 = .ok (.getfield 9, 3) := by decide +kernel
theorem dJx4a65c_grow_92f84_36 : decode cJx4a65c_grow_92f84 36 = .ok (.iload_n 3, 1) := by decide +kernel
theorem dJx4a65c_grow_92f84_37 : decode cJx4a65c_grow_92f84 37 = .ok (.invokestatic 66, 3) := by decide +kernel
theorem dJx4a65c_grow_92f84_40 : decode cJx4a65c_grow_92f84 40 = .ok (.dup_x1, 1) := by decide +kernel
theorem dJx4a65c_grow_92f84_41 : decode cJx4a65c_grow_92f84 41 = .ok (.putfield 9, 3) := by decide +kernel
theorem dJx4a65c_grow_92f84_44 : decode cJx4a65c_grow_92f84 44 = .ok (.areturn, 1) := by decide +kernel
theorem dJx4a65c_grow_92f84_45 : decode cJx4a65c_grow_92f84 45 = .ok (.aload_n 0, 1) := by decide +kernel
theorem dJx4a65c_grow_92f84_46 : decode cJx4a65c_grow_92f84 46 = .ok (.bipush 10, 2) := by decide +kernel
theorem dJx4a65c_grow_92f84_48 : decode cJx4a65c_grow_92f84 48 = .ok (.iload_n 1, 1) := by decide +kernel
theorem dJx4a65c_grow_92f84_49 : decode cJx4a65c_grow_92f84 49 = .ok (.invokestatic 79, 3) := by decide +kernel
theorem dJx4a65c_grow_92f84_52 : decode cJx4a65c_grow_92f84 52 = .ok (.anewarray 7, 3) := by decide +kernel
theorem dJx4a65c_grow_92f84_55 : decode cJx4a65c_grow_92f84 55 = .ok (.dup_x1, 1) := by decide +kernel
theorem dJx4a65c_grow_92f84_56 : decode cJx4a65c_grow_92f84 56 = .ok (.putfield 9, 3) := by decide +kernel
theorem dJx4a65c_grow_92f84_59 : decode cJx4a65c_grow_92f84 59 = .ok (.areturn, 1) := by decide +kernel
theorem dJx4a65c_grow_d5877_0 : decode cJx4a65c_grow_d5877 0 = .ok (.aload_n 0, 1) := by decide +kernel
theorem dJx4a65c_grow_d5877_1 : decode cJx4a65c_grow_d5877 1 = .ok (.aload_n 0, 1) := by decide +kernel
theorem dJx4a65c_grow_d5877_2 : decode cJx4a65c_grow_d5877 2 = .ok (.getfield 48, 3) := by decide +kernel
theorem dJx4a65c_grow_d5877_5 : decode cJx4a65c_grow_d5877 5 = .ok (.iconst 1, 1) := by decide +kernel
theorem dJx4a65c_grow_d5877_6 : decode cJx4a65c_grow_d5877 6 = .ok (.iadd, 1) := by decide +kernel
theorem dJx4a65c_grow_d5877_7 : decode cJx4a65c_grow_d5877 7 = .ok (.invokevirtual 69, 3) := by decide +kernel
theorem dJx4a65c_grow_d5877_10 : decode cJx4a65c_grow_d5877 10 = .ok (.areturn, 1) := by decide +kernel
theorem dJx4a65c_size_8abf5_0 : decode cJx4a65c_size_8abf5 0 = .ok (.aload_n 0, 1) := by decide +kernel
theorem dJx4a65c_size_8abf5_1 : decode cJx4a65c_size_8abf5 1 = .ok (.getfield 48, 3) := by decide +kernel
theorem dJx4a65c_size_8abf5_4 : decode cJx4a65c_size_8abf5 4 = .ok (.ireturn, 1) := by decide +kernel
theorem dJx4a65c_elementData_915e3_0 : decode cJx4a65c_elementData_915e3 0 = .ok (.aload_n 0, 1) := by decide +kernel
theorem dJx4a65c_elementData_915e3_1 : decode cJx4a65c_elementData_915e3 1 = .ok (.getfield 9, 3) := by decide +kernel
theorem dJx4a65c_elementData_915e3_4 : decode cJx4a65c_elementData_915e3 4 = .ok (.iload_n 1, 1) := by decide +kernel
theorem dJx4a65c_elementData_915e3_5 : decode cJx4a65c_elementData_915e3 5 = .ok (.aaload, 1) := by decide +kernel
theorem dJx4a65c_elementData_915e3_6 : decode cJx4a65c_elementData_915e3 6 = .ok (.areturn, 1) := by decide +kernel
theorem dJx4a65c_get_915e3_0 : decode cJx4a65c_get_915e3 0 = .ok (.iload_n 1, 1) := by decide +kernel
theorem dJx4a65c_get_915e3_1 : decode cJx4a65c_get_915e3 1 = .ok (.aload_n 0, 1) := by decide +kernel
theorem dJx4a65c_get_915e3_2 : decode cJx4a65c_get_915e3 2 = .ok (.getfield 48, 3) := by decide +kernel
theorem dJx4a65c_get_915e3_5 : decode cJx4a65c_get_915e3 5 = .ok (.invokestatic 118, 3) := by decide +kernel
theorem dJx4a65c_get_915e3_8 : decode cJx4a65c_get_915e3 8 = .ok (.pop, 1) := by decide +kernel
theorem dJx4a65c_get_915e3_9 : decode cJx4a65c_get_915e3 9 = .ok (.aload_n 0, 1) := by decide +kernel
theorem dJx4a65c_get_915e3_10 : decode cJx4a65c_get_915e3 10 = .ok (.iload_n 1, 1) := by decide +kernel
theorem dJx4a65c_get_915e3_11 : decode cJx4a65c_get_915e3 11 = .ok (.invokevirtual 123, 3) := by decide +kernel
theorem dJx4a65c_get_915e3_14 : decode cJx4a65c_get_915e3 14 = .ok (.areturn, 1) := by decide +kernel
theorem dJx4a65c_set_bcc79_0 : decode cJx4a65c_set_bcc79 0 = .ok (.iload_n 1, 1) := by decide +kernel
theorem dJx4a65c_set_bcc79_1 : decode cJx4a65c_set_bcc79 1 = .ok (.aload_n 0, 1) := by decide +kernel
theorem dJx4a65c_set_bcc79_2 : decode cJx4a65c_set_bcc79 2 = .ok (.getfield 48, 3) := by decide +kernel
theorem dJx4a65c_set_bcc79_5 : decode cJx4a65c_set_bcc79 5 = .ok (.invokestatic 118, 3) := by decide +kernel
theorem dJx4a65c_set_bcc79_8 : decode cJx4a65c_set_bcc79 8 = .ok (.pop, 1) := by decide +kernel
theorem dJx4a65c_set_bcc79_9 : decode cJx4a65c_set_bcc79 9 = .ok (.aload_n 0, 1) := by decide +kernel
theorem dJx4a65c_set_bcc79_10 : decode cJx4a65c_set_bcc79 10 = .ok (.iload_n 1, 1) := by decide +kernel
theorem dJx4a65c_set_bcc79_11 : decode cJx4a65c_set_bcc79 11 = .ok (.invokevirtual 123, 3) := by decide +kernel
theorem dJx4a65c_set_bcc79_14 : decode cJx4a65c_set_bcc79 14 = .ok (.astore_n 3, 1) := by decide +kernel
theorem dJx4a65c_set_bcc79_15 : decode cJx4a65c_set_bcc79 15 = .ok (.aload_n 0, 1) := by decide +kernel
theorem dJx4a65c_set_bcc79_16 : decode cJx4a65c_set_bcc79 16 = .ok (.getfield 9, 3) := by decide +kernel
theorem dJx4a65c_set_bcc79_19 : decode cJx4a65c_set_bcc79 19 = .ok (.iload_n 1, 1) := by decide +kernel
theorem dJx4a65c_set_bcc79_20 : decode cJx4a65c_set_bcc79 20 = .ok (.aload_n 2, 1) := by decide +kernel
theorem dJx4a65c_set_bcc79_21 : decode cJx4a65c_set_bcc79 21 = .ok (.aastore, 1) := by decide +kernel
theorem dJx4a65c_set_bcc79_22 : decode cJx4a65c_set_bcc79 22 = .ok (.aload_n 3, 1) := by decide +kernel
theorem dJx4a65c_set_bcc79_23 : decode cJx4a65c_set_bcc79 23 = .ok (.areturn, 1) := by decide +kernel
theorem dJx4a65c_add_72be8_0 : decode cJx4a65c_add_72be8 0 = .ok (.iload_n 3, 1) := by decide +kernel
theorem dJx4a65c_add_72be8_1 : decode cJx4a65c_add_72be8 1 = .ok (.aload_n 2, 1) := by decide +kernel
theorem dJx4a65c_add_72be8_2 : decode cJx4a65c_add_72be8 2 = .ok (.arraylength, 1) := by decide +kernel
theorem dJx4a65c_add_72be8_3 : decode cJx4a65c_add_72be8 3 = .ok (.if_icmp .ne 8, 3) := by decide +kernel
theorem dJx4a65c_add_72be8_6 : decode cJx4a65c_add_72be8 6 = .ok (.aload_n 0, 1) := by decide +kernel
theorem dJx4a65c_add_72be8_7 : decode cJx4a65c_add_72be8 7 = .ok (.invokevirtual 129, 3) := by decide +kernel
theorem dJx4a65c_add_72be8_10 : decode cJx4a65c_add_72be8 10 = .ok (.astore_n 2, 1) := by decide +kernel
theorem dJx4a65c_add_72be8_11 : decode cJx4a65c_add_72be8 11 = .ok (.aload_n 2, 1) := by decide +kernel
theorem dJx4a65c_add_72be8_12 : decode cJx4a65c_add_72be8 12 = .ok (.iload_n 3, 1) := by decide +kernel
theorem dJx4a65c_add_72be8_13 : decode cJx4a65c_add_72be8 13 = .ok (.aload_n 1, 1) := by decide +kernel
theorem dJx4a65c_add_72be8_14 : decode cJx4a65c_add_72be8 14 = .ok (.aastore, 1) := by decide +kernel
theorem dJx4a65c_add_72be8_15 : decode cJx4a65c_add_72be8 15 = .ok (.aload_n 0, 1) := by decide +kernel
theorem dJx4a65c_add_72be8_16 : decode cJx4a65c_add_72be8 16 = .ok (.iload_n 3, 1) := by decide +kernel
theorem dJx4a65c_add_72be8_17 : decode cJx4a65c_add_72be8 17 = .ok (.iconst 1, 1) := by decide +kernel
theorem dJx4a65c_add_72be8_18 : decode cJx4a65c_add_72be8 18 = .ok (.iadd, 1) := by decide +kernel
theorem dJx4a65c_add_72be8_19 : decode cJx4a65c_add_72be8 19 = .ok (.putfield 48, 3) := by decide +kernel
theorem dJx4a65c_add_72be8_22 : decode cJx4a65c_add_72be8 22 = .ok (.return_, 1) := by decide +kernel
theorem dJx4a65c_add_9ea2d_0 : decode cJx4a65c_add_9ea2d 0 = .ok (.aload_n 0, 1) := by decide +kernel
theorem dJx4a65c_add_9ea2d_1 : decode cJx4a65c_add_9ea2d 1 = .ok (.dup, 1) := by decide +kernel
theorem dJx4a65c_add_9ea2d_2 : decode cJx4a65c_add_9ea2d 2 = .ok (.getfield 63, 3) := by decide +kernel
theorem dJx4a65c_add_9ea2d_5 : decode cJx4a65c_add_9ea2d 5 = .ok (.iconst 1, 1) := by decide +kernel
theorem dJx4a65c_add_9ea2d_6 : decode cJx4a65c_add_9ea2d 6 = .ok (.iadd, 1) := by decide +kernel
theorem dJx4a65c_add_9ea2d_7 : decode cJx4a65c_add_9ea2d 7 = .ok (.putfield 63, 3) := by decide +kernel
theorem dJx4a65c_add_9ea2d_10 : decode cJx4a65c_add_9ea2d 10 = .ok (.aload_n 0, 1) := by decide +kernel
theorem dJx4a65c_add_9ea2d_11 : decode cJx4a65c_add_9ea2d 11 = .ok (.aload_n 1, 1) := by decide +kernel
theorem dJx4a65c_add_9ea2d_12 : decode cJx4a65c_add_9ea2d 12 = .ok (.aload_n 0, 1) := by decide +kernel
theorem dJx4a65c_add_9ea2d_13 : decode cJx4a65c_add_9ea2d 13 = .ok (.getfield 9, 3) := by decide +kernel
theorem dJx4a65c_add_9ea2d_16 : decode cJx4a65c_add_9ea2d 16 = .ok (.aload_n 0, 1) := by decide +kernel
theorem dJx4a65c_add_9ea2d_17 : decode cJx4a65c_add_9ea2d 17 = .ok (.getfield 48, 3) := by decide +kernel
theorem dJx4a65c_add_9ea2d_20 : decode cJx4a65c_add_9ea2d 20 = .ok (.invokevirtual 131, 3) := by decide +kernel
theorem dJx4a65c_add_9ea2d_23 : decode cJx4a65c_add_9ea2d 23 = .ok (.iconst 1, 1) := by decide +kernel
theorem dJx4a65c_add_9ea2d_24 : decode cJx4a65c_add_9ea2d 24 = .ok (.ireturn, 1) := by decide +kernel
theorem dJ7_copyOf_1904c_0 : decode cJ7_copyOf_1904c 0 = .ok (.aload_n 0, 1) := by decide +kernel
theorem dJ7_copyOf_1904c_1 : decode cJ7_copyOf_1904c 1 = .ok (.iload_n 1, 1) := by decide +kernel
theorem dJ7_copyOf_1904c_2 : decode cJ7_copyOf_1904c 2 = .ok (.aload_n 0, 1) := by decide +kernel
theorem dJ7_copyOf_1904c_3 : decode cJ7_copyOf_1904c 3 = .ok (.invokevirtual 86, 3) := by decide +kernel
theorem dJ7_copyOf_1904c_6 : decode cJ7_copyOf_1904c 6 = .ok (.invokestatic 300, 3) := by decide +kernel
theorem dJ7_copyOf_1904c_9 : decode cJ7_copyOf_1904c 9 = .ok (.areturn, 1) := by decide +kernel
theorem dJ7_copyOf_6403c_0 : decode cJ7_copyOf_6403c 0 = .ok (.aload_n 2, 1) := by decide +kernel
theorem dJ7_copyOf_6403c_1 : decode cJ7_copyOf_6403c 1 = .ok (.ldc 110, 2) := by decide +kernel
theorem dJ7_copyOf_6403c_3 : decode cJ7_copyOf_6403c 3 = .ok (.if_acmp .ne 10, 3) := by decide +kernel
theorem dJ7_copyOf_6403c_6 : decode cJ7_copyOf_6403c 6 = .ok (.iload_n 1, 1) := by decide +kernel
theorem dJ7_copyOf_6403c_7 : decode cJ7_copyOf_6403c 7 = .ok (.anewarray 2, 3) := by decide +kernel
theorem dJ7_copyOf_6403c_10 : decode cJ7_copyOf_6403c 10 = .ok (.goto 14, 3) := by decide +kernel
theorem dJ7_copyOf_6403c_13 : decode cJ7_copyOf_6403c 13 = .ok (.aload_n 2, 1) := by decide +kernel
theorem dJ7_copyOf_6403c_14 : decode cJ7_copyOf_6403c 14 = .ok (.invokevirtual 90, 3) := by decide +kernel
theorem dJ7_copyOf_6403c_17 : decode cJ7_copyOf_6403c 17 = .ok (.iload_n 1, 1) := by decide +kernel
theorem dJ7_copyOf_6403c_18 : decode cJ7_copyOf_6403c 18 = .ok (.invokestatic 95, 3) := by decide +kernel
theorem dJ7_copyOf_6403c_21 : decode cJ7_copyOf_6403c 21 = .ok (.checkcast 110, 3) := by decide +kernel
theorem dJ7_copyOf_6403c_24 : decode cJ7_copyOf_6403c 24 = .ok (.astore_n 3, 1) := by decide +kernel
theorem dJ7_copyOf_6403c_25 : decode cJ7_copyOf_6403c 25 = .ok (.aload_n 0, 1) := by decide +kernel
theorem dJ7_copyOf_6403c_26 : decode cJ7_copyOf_6403c 26 = .ok (.iconst 0, 1) := by decide +kernel
theorem dJ7_copyOf_6403c_27 : decode cJ7_copyOf_6403c 27 = .ok (.aload_n 3, 1) := by decide +kernel
theorem dJ7_copyOf_6403c_28 : decode cJ7_copyOf_6403c 28 = .ok (.iconst 0, 1) := by decide +kernel
theorem dJ7_copyOf_6403c_29 : decode cJ7_copyOf_6403c 29 = .ok (.aload_n 0, 1) := by decide +kernel
theorem dJ7_copyOf_6403c_30 : decode cJ7_copyOf_6403c 30 = .ok (.arraylength, 1) := by decide +kernel
theorem dJ7_copyOf_6403c_31 : decode cJ7_copyOf_6403c 31 = .ok (.iload_n 1, 1) := by decide +kernel
theorem dJ7_copyOf_6403c_32 : decode cJ7_copyOf_6403c 32 = .ok (.invokestatic 304, 3) := by decide +kernel
theorem dJ7_copyOf_6403c_35 : decode cJ7_copyOf_6403c 35 = .ok (.invokestatic 150, 3) := by decide +kernel
theorem dJ7_copyOf_6403c_38 : decode cJ7_copyOf_6403c 38 = .ok (.aload_n 3, 1) := by decide +kernel
theorem dJ7_copyOf_6403c_39 : decode cJ7_copyOf_6403c 39 = .ok (.areturn, 1) := by decide +kernel
theorem dJ15_checkIndex_7cf53_0 : decode cJ15_checkIndex_7cf53 0 = .ok (.iload_n 0, 1) := by decide +kernel
theorem dJ15_checkIndex_7cf53_1 : decode cJ15_checkIndex_7cf53 1 = .ok (.iload_n 1, 1) := by decide +kernel
theorem dJ15_checkIndex_7cf53_2 : decode cJ15_checkIndex_7cf53 2 = .ok (.aconst_null, 1) := by decide +kernel
theorem dJ15_checkIndex_7cf53_3 : decode cJ15_checkIndex_7cf53 3 = .ok (.invokestatic 105, 3) := by decide +kernel
theorem dJ15_checkIndex_7cf53_6 : decode cJ15_checkIndex_7cf53 6 = .ok (.ireturn, 1) := by decide +kernel
theorem dJ8_newLength_cabcc_0 : decode cJ8_newLength_cabcc 0 = .ok (.iload_n 0, 1) := by decide +kernel
theorem dJ8_newLength_cabcc_1 : decode cJ8_newLength_cabcc 1 = .ok (.iload_n 1, 1) := by decide +kernel
theorem dJ8_newLength_cabcc_2 : decode cJ8_newLength_cabcc 2 = .ok (.iload_n 2, 1) := by decide +kernel
theorem dJ8_newLength_cabcc_3 : decode cJ8_newLength_cabcc 3 = .ok (.invokestatic 194, 3) := by decide +kernel
theorem dJ8_newLength_cabcc_6 : decode cJ8_newLength_cabcc 6 = .ok (.iadd, 1) := by decide +kernel
theorem dJ8_newLength_cabcc_7 : decode cJ8_newLength_cabcc 7 = .ok (.istore_n 3, 1) := by decide +kernel
theorem dJ8_newLength_cabcc_8 : decode cJ8_newLength_cabcc 8 = .ok (.iconst 0, 1) := by decide +kernel
theorem dJ8_newLength_cabcc_9 : decode cJ8_newLength_cabcc 9 = .ok (.iload_n 3, 1) := by decide +kernel
theorem dJ8_newLength_cabcc_10 : decode cJ8_newLength_cabcc 10 = .ok (.if_icmp .ge 11, 3) := by decide +kernel
theorem dJ8_newLength_cabcc_13 : decode cJ8_newLength_cabcc 13 = .ok (.iload_n 3, 1) := by decide +kernel
theorem dJ8_newLength_cabcc_14 : decode cJ8_newLength_cabcc 14 = .ok (.ldc 200, 2) := by decide +kernel
theorem dJ8_newLength_cabcc_16 : decode cJ8_newLength_cabcc 16 = .ok (.if_icmp .gt 5, 3) := by decide +kernel
theorem dJ8_newLength_cabcc_19 : decode cJ8_newLength_cabcc 19 = .ok (.iload_n 3, 1) := by decide +kernel
theorem dJ8_newLength_cabcc_20 : decode cJ8_newLength_cabcc 20 = .ok (.ireturn, 1) := by decide +kernel
theorem dJ8_newLength_cabcc_21 : decode cJ8_newLength_cabcc 21 = .ok (.iload_n 0, 1) := by decide +kernel
theorem dJ8_newLength_cabcc_22 : decode cJ8_newLength_cabcc 22 = .ok (.iload_n 1, 1) := by decide +kernel
theorem dJ8_newLength_cabcc_23 : decode cJ8_newLength_cabcc 23 = .ok (.invokestatic 201, 3) := by decide +kernel
theorem dJ8_newLength_cabcc_26 : decode cJ8_newLength_cabcc 26 = .ok (.ireturn, 1) := by decide +kernel
theorem dJ3_checkIndex_8e157_0 : decode cJ3_checkIndex_8e157 0 = .ok (.iload_n 0, 1) := by decide +kernel
theorem dJ3_checkIndex_8e157_1 : decode cJ3_checkIndex_8e157 1 = .ok (.ifCond .lt 8, 3) := by decide +kernel
theorem dJ3_checkIndex_8e157_4 : decode cJ3_checkIndex_8e157 4 = .ok (.iload_n 0, 1) := by decide +kernel
theorem dJ3_checkIndex_8e157_5 : decode cJ3_checkIndex_8e157 5 = .ok (.iload_n 1, 1) := by decide +kernel
theorem dJ3_checkIndex_8e157_6 : decode cJ3_checkIndex_8e157 6 = .ok (.if_icmp .lt 10, 3) := by decide +kernel
theorem dJ3_checkIndex_8e157_9 : decode cJ3_checkIndex_8e157 9 = .ok (.aload_n 2, 1) := by decide +kernel
theorem dJ3_checkIndex_8e157_10 : decode cJ3_checkIndex_8e157 10 = .ok (.iload_n 0, 1) := by decide +kernel
theorem dJ3_checkIndex_8e157_11 : decode cJ3_checkIndex_8e157 11 = .ok (.iload_n 1, 1) := by decide +kernel
theorem dJ3_checkIndex_8e157_12 : decode cJ3_checkIndex_8e157 12 = .ok (.invokestatic 95, 3) := by decide +kernel
theorem dJ3_checkIndex_8e157_15 : decode cJ3_checkIndex_8e157 15 = .ok (.athrow, 1) := by decide +kernel
theorem dJ3_checkIndex_8e157_16 : decode cJ3_checkIndex_8e157 16 = .ok (.iload_n 0, 1) := by decide +kernel
theorem dJ3_checkIndex_8e157_17 : decode cJ3_checkIndex_8e157 17 = .ok (.ireturn, 1) := by decide +kernel
