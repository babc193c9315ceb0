theorem dX6_rowAt_5 : decode cX6_rowAt 5 = .ok (.aload_n 0, 1) := by decide +kernel
theorem dX6_rowAt_6 : decode cX6_rowAt 6 = .ok (.getfield 29, 3) := by decide +kernel
theorem dX6_rowAt_9 : decode cX6_rowAt 9 = .ok (.invokevirtual 130, 3) := by decide +kernel
theorem dX6_rowAt_12 : decode cX6_rowAt 12 = .ok (.if_icmp .lt 13, 3) := by decide +kernel
theorem dX6_rowAt_15 : decode cX6_rowAt 15 = .ok (.new 81, 3) := by decide +kernel
theorem dX6_rowAt_18 : decode cX6_rowAt 18 = .ok (.dup, 1) := by decide +kernel
theorem dX6_rowAt_19 : decode cX6_rowAt 19 = .ok (.ldc 204, 2) := by decide +kernel
theorem dX6_rowAt_21 : decode cX6_rowAt 21 = .ok (.invokespecial 85, 3) := by decide +kernel
theorem dX6_rowAt_24 : decode cX6_rowAt 24 = .ok (.athrow, 1) := by decide +kernel
theorem dX6_rowAt_25 : decode cX6_rowAt 25 = .ok (.aload_n 0, 1) := by decide +kernel
theorem dX6_rowAt_26 : decode cX6_rowAt 26 = .ok (.getfield 29, 3) := by decide +kernel
theorem dX6_rowAt_29 : decode cX6_rowAt 29 = .ok (.iload_n 1, 1) := by decide +kernel
theorem dX6_rowAt_30 : decode cX6_rowAt 30 = .ok (.invokevirtual 131, 3) := by decide +kernel
theorem dX6_rowAt_33 : decode cX6_rowAt 33 = .ok (.areturn, 1) := by decide +kernel
theorem dX6_realOne_0 : decode cX6_realOne 0 = .ok (.aload_n 1, 1) := by decide +kernel
theorem dX6_realOne_1 : decode cX6_realOne 1 = .ok (.getfield 74, 3) := by decide +kernel
theorem dX6_realOne_4 : decode cX6_realOne 4 = .ok (.invokevirtual 206, 3) := by decide +kernel
theorem dX6_realOne_7 : decode cX6_realOne 7 = .ok (.ifCond .eq 5, 3) := by decide +kernel
theorem dX6_realOne_10 : decode cX6_realOne 10 = .ok (.aload_n 1, 1) := by decide +kernel
theorem dX6_realOne_11 : decode cX6_realOne 11 = .ok (.areturn, 1) := by decide +kernel
theorem dX6_realOne_12 : decode cX6_realOne 12 = .ok (.iconst 0, 1) := by decide +kernel
theorem dX6_realOne_13 : decode cX6_realOne 13 = .ok (.istore_n 2, 1) := by decide +kernel
theorem dX6_realOne_14 : decode cX6_realOne 14 = .ok (.iload_n 2, 1) := by decide +kernel
theorem dX6_realOne_15 : decode cX6_realOne 15 = .ok (.aload_n 1, 1) := by decide +kernel
theorem dX6_realOne_16 : decode cX6_realOne 16 = .ok (.getfield 148, 3) := by decide +kernel
theorem dX6_realOne_19 : decode cX6_realOne 19 = .ok (.if_icmp .ge 56, 3) := by decide +kernel
theorem dX6_realOne_22 : decode cX6_realOne 22 = .ok (.iload_n 2, 1) := by decide +kernel
theorem dX6_realOne_23 : decode cX6_realOne 23 = .ok (.aload_n 0, 1) := by decide +kernel
theorem dX6_realOne_24 : decode cX6_realOne 24 = .ok (.getfield 12, 3) := by decide +kernel
theorem dX6_realOne_27 : decode cX6_realOne 27 = .ok (.invokevirtual 50, 3) := by decide +kernel
theorem dX6_realOne_30 : decode cX6_realOne 30 = .ok (.if_icmp .ge 45, 3) := by decide +kernel
theorem dX6_realOne_33 : decode cX6_realOne 33 = .ok (.aload_n 0, 1) := by decide +kernel
theorem dX6_realOne_34 : decode cX6_realOne 34 = .ok (.getfield 12, 3) := by decide +kernel
theorem dX6_realOne_37 : decode cX6_realOne 37 = .ok (.iload_n 2, 1) := by decide +kernel
theorem dX6_realOne_38 : decode cX6_realOne 38 = .ok (.invokevirtual 108, 3) := by decide +kernel
theorem dX6_realOne_41 : decode cX6_realOne 41 = .ok (.checkcast 61, 3) := by decide +kernel
theorem dX6_realOne_44 : decode cX6_realOne 44 = .ok (.getfield 74, 3) := by decide +kernel
theorem dX6_realOne_47 : decode cX6_realOne 47 = .ok (.aload_n 1, 1) := by decide +kernel
theorem dX6_realOne_48 : decode cX6_realOne 48 = .ok (.getfield 74, 3) := by decide +kernel
theorem dX6_realOne_51 : decode cX6_realOne 51 = .ok (.invokevirtual 210, 3) := by decide +kernel
theorem dX6_realOne_54 : decode cX6_realOne 54 = .ok (.ifCond .eq 15, 3) := by decide +kernel
theorem dX6_realOne_57 : decode cX6_realOne 57 = .ok (.aload_n 0, 1) := by decide +kernel
theorem dX6_realOne_58 : decode cX6_realOne 58 = .ok (.getfield 12, 3) := by decide +kernel
theorem dX6_realOne_61 : decode cX6_realOne 61 = .ok (.iload_n 2, 1) := by decide +kernel
theorem dX6_realOne_62 : decode cX6_realOne 62 = .ok (.invokevirtual 108, 3) := by decide +kernel
theorem dX6_realOne_65 : decode cX6_realOne 65 = .ok (.checkcast 61, 3) := by decide +kernel
theorem dX6_realOne_68 : decode cX6_realOne 68 = .ok (.areturn, 1) := by decide +kernel
theorem dX6_realOne_69 : decode cX6_realOne 69 = .ok (.iinc 2 1, 3) := by decide +kernel
theorem dX6_realOne_72 : decode cX6_realOne 72 = .ok (.goto (-58), 3) := by decide +kernel
theorem dX6_realOne_75 : decode cX6_realOne 75 = .ok (.aload_n 1, 1) := by decide +kernel
theorem dX6_realOne_76 : decode cX6_realOne 76 = .ok (.areturn, 1) := by decide +kernel
theorem dX6_printHead_0 : decode cX6_printHead 0 = .ok (.aload_n 0, 1) := by decide +kernel
theorem dX6_printHead_1 : decode cX6_printHead 1 = .ok (.getfield 29, 3) := by decide +kernel
theorem dX6_printHead_4 : decode cX6_printHead 4 = .ok (.getfield 214, 3) := by decide +kernel
theorem dX6_printHead_7 : decode cX6_printHead 7 = .ok (.ifCond .ne 13, 3) := by decide +kernel
theorem dX6_printHead_10 : decode cX6_printHead 10 = .ok (.new 81, 3) := by decide +kernel
theorem dX6_printHead_13 : decode cX6_printHead 13 = .ok (.dup, 1) := by decide +kernel
theorem dX6_printHead_14 : decode cX6_printHead 14 = .ok (.ldc 218, 2) := by decide +kernel
theorem dX6_printHead_16 : decode cX6_printHead 16 = .ok (.invokespecial 85, 3) := by decide +kernel
theorem dX6_printHead_19 : decode cX6_printHead 19 = .ok (.athrow, 1) := by decide +kernel
theorem dX6_printHead_20 : decode cX6_printHead 20 = .ok (.aload_n 0, 1) := by decide +kernel
theorem dX6_printHead_21 : decode cX6_printHead 21 = .ok (.getfield 36, 3) := by decide +kernel
theorem dX6_printHead_24 : decode cX6_printHead 24 = .ok (.invokevirtual 164, 3) := by decide +kernel
theorem dX6_printHead_27 : decode cX6_printHead 27 = .ok (.aload_n 0, 1) := by decide +kernel
theorem dX6_printHead_28 : decode cX6_printHead 28 = .ok (.getfield 36, 3) := by decide +kernel
theorem dX6_printHead_31 : decode cX6_printHead 31 = .ok (.ldc 220, 2) := by decide +kernel
theorem dX6_printHead_33 : decode cX6_printHead 33 = .ok (.invokevirtual 222, 3) := by decide +kernel
theorem dX6_printHead_36 : decode cX6_printHead 36 = .ok (.aload_n 0, 1) := by decide +kernel
theorem dX6_printHead_37 : decode cX6_printHead 37 = .ok (.getfield 36, 3) := by decide +kernel
theorem dX6_printHead_40 : decode cX6_printHead 40 = .ok (.aload_n 0, 1) := by decide +kernel
theorem dX6_printHead_41 : decode cX6_printHead 41 = .ok (.getfield 29, 3) := by decide +kernel
theorem dX6_printHead_44 : decode cX6_printHead 44 = .ok (.invokevirtual 130, 3) := by decide +kernel
theorem dX6_printHead_47 : decode cX6_printHead 47 = .ok (.invokevirtual 225, 3) := by decide +kernel
theorem dX6_printHead_50 : decode cX6_printHead 50 = .ok (.aload_n 0, 1) := by decide +kernel
theorem dX6_printHead_51 : decode cX6_printHead 51 = .ok (.getfield 36, 3) := by decide +kernel
theorem dX6_printHead_54 : decode cX6_printHead 54 = .ok (.bipush 41, 2) := by decide +kernel
theorem dX6_printHead_56 : decode cX6_printHead 56 = .ok (.invokevirtual 228, 3) := by decide +kernel
theorem dX6_printHead_59 : decode cX6_printHead 59 = .ok (.return_, 1) := by decide +kernel
theorem dX6_signOf_0 : decode cX6_signOf 0 = .ok (.iload_n 1, 1) := by decide +kernel
theorem dX6_signOf_1 : decode cX6_signOf 1 = .ok (.ifCond .lt 11, 3) := by decide +kernel
theorem dX6_signOf_4 : decode cX6_signOf 4 = .ok (.iload_n 1, 1) := by decide +kernel
theorem dX6_signOf_5 : decode cX6_signOf 5 = .ok (.aload_n 0, 1) := by decide +kernel
theorem dX6_signOf_6 : decode cX6_signOf 6 = .ok (.invokevirtual 171, 3) := by decide +kernel
theorem dX6_signOf_9 : decode cX6_signOf 9 = .ok (.if_icmp .lt 13, 3) := by decide +kernel
theorem dX6_signOf_12 : decode cX6_signOf 12 = .ok (.new 81, 3) := by decide +kernel
theorem dX6_signOf_15 : decode cX6_signOf 15 = .ok (.dup, 1) := by decide +kernel
theorem dX6_signOf_16 : decode cX6_signOf 16 = .ok (.ldc 231, 2) := by decide +kernel
theorem dX6_signOf_18 : decode cX6_signOf 18 = .ok (.invokespecial 85, 3) := by decide +kernel
theorem dX6_signOf_21 : decode cX6_signOf 21 = .ok (.athrow, 1) := by decide +kernel
theorem dX6_signOf_22 : decode cX6_signOf 22 = .ok (.aload_n 0, 1) := by decide +kernel
theorem dX6_signOf_23 : decode cX6_signOf 23 = .ok (.iload_n 1, 1) := by decide +kernel
theorem dX6_signOf_24 : decode cX6_signOf 24 = .ok (.invokevirtual 233, 3) := by decide +kernel
theorem dX6_signOf_27 : decode cX6_signOf 27 = .ok (.ireturn, 1) := by decide +kernel
theorem dX6_addBytes_0 : decode cX6_addBytes 0 = .ok (.iconst 0, 1) := by decide +kernel
theorem dX6_addBytes_1 : decode cX6_addBytes 1 = .ok (.istore_n 3, 1) := by decide +kernel
theorem dX6_addBytes_2 : decode cX6_addBytes 2 = .ok (.iconst 0, 1) := by decide +kernel
theorem dX6_addBytes_3 : decode cX6_addBytes 3 = .ok (.istore 4, 2) := by decide +kernel
theorem dX6_addBytes_5 : decode cX6_addBytes 5 = .ok (.iload 4, 2) := by decide +kernel
theorem dX6_addBytes_7 : decode cX6_addBytes 7 = .ok (.iconst 4, 1) := by decide +kernel
theorem dX6_addBytes_8 : decode cX6_addBytes 8 = .ok (.if_icmp .ge 43, 3) := by decide +kernel
theorem dX6_addBytes_11 : decode cX6_addBytes 11 = .ok (.iload_n 1, 1) := by decide +kernel
theorem dX6_addBytes_12 : decode cX6_addBytes 12 = .ok (.iload 4, 2) := by decide +kernel
theorem dX6_addBytes_14 : decode cX6_addBytes 14 = .ok (.invokestatic 237, 3) := by decide +kernel
theorem dX6_addBytes_17 : decode cX6_addBytes 17 = .ok (.istore 5, 2) := by decide +kernel
theorem dX6_addBytes_19 : decode cX6_addBytes 19 = .ok (.iload 5, 2) := by decide +kernel
theorem dX6_addBytes_21 : decode cX6_addBytes 21 = .ok (.ifCond .eq 24, 3) := by decide +kernel
theorem dX6_addBytes_24 : decode cX6_addBytes 24 = .ok (.iload 5, 2) := by decide +kernel
theorem dX6_addBytes_26 : decode cX6_addBytes 26 = .ok (.invokestatic 241, 3) := by decide +kernel
theorem dX6_addBytes_29 : decode cX6_addBytes 29 = .ok (.ifCond .ne 13, 3) := by decide +kernel
theorem dX6_addBytes_32 : decode cX6_addBytes 32 = .ok (.new 100, 3) := by decide +kernel
theorem dX6_addBytes_35 : decode cX6_addBytes 35 = .ok (.dup, 1) := by decide +kernel
theorem dX6_addBytes_36 : decode cX6_addBytes 36 = .ok (.ldc 245, 2) := by decide +kernel
theorem dX6_addBytes_38 : decode cX6_addBytes 38 = .ok (.invokespecial 104, 3) := by decide +kernel
theorem dX6_addBytes_41 : decode cX6_addBytes 41 = .ok (.athrow, 1) := by decide +kernel
theorem dX6_addBytes_42 : decode cX6_addBytes 42 = .ok (.iinc 3 1, 3) := by decide +kernel
theorem dX6_addBytes_45 : decode cX6_addBytes 45 = .ok (.iinc 4 1, 3) := by decide +kernel
theorem dX6_addBytes_48 : decode cX6_addBytes 48 = .ok (.goto (-43), 3) := by decide +kernel
theorem dX6_addBytes_51 : decode cX6_addBytes 51 = .ok (.aload_n 0, 1) := by decide +kernel
theorem dX6_addBytes_52 : decode cX6_addBytes 52 = .ok (.invokevirtual 171, 3) := by decide +kernel
theorem dX6_addBytes_55 : decode cX6_addBytes 55 = .ok (.iload_n 3, 1) := by decide +kernel
theorem dX6_addBytes_56 : decode cX6_addBytes 56 = .ok (.iadd, 1) := by decide +kernel
theorem dX6_addBytes_57 : decode cX6_addBytes 57 = .ok (.iload_n 2, 1) := by decide +kernel
theorem dX6_addBytes_58 : decode cX6_addBytes 58 = .ok (.if_icmp .le 13, 3) := by decide +kernel
theorem dX6_addBytes_61 : decode cX6_addBytes 61 = .ok (.new 54, 3) := by decide +kernel
theorem dX6_addBytes_64 : decode cX6_addBytes 64 = .ok (.dup, 1) := by decide +kernel
theorem dX6_addBytes_65 : decode cX6_addBytes 65 = .ok (.ldc 247, 2) := by decide +kernel
theorem dX6_addBytes_67 : decode cX6_addBytes 67 = .ok (.invokespecial 58, 3) := by decide +kernel
theorem dX6_addBytes_70 : decode cX6_addBytes 70 = .ok (.athrow, 1) := by decide +kernel
theorem dX6_addBytes_71 : decode cX6_addBytes 71 = .ok (.iconst 0, 1) := by decide +kernel
theorem dX6_addBytes_72 : decode cX6_addBytes 72 = .ok (.istore 4, 2) := by decide +kernel
theorem dX6_addBytes_74 : decode cX6_addBytes 74 = .ok (.iload 4, 2) := by decide +kernel
theorem dX6_addBytes_76 : decode cX6_addBytes 76 = .ok (.iconst 4, 1) := by decide +kernel
theorem dX6_addBytes_77 : decode cX6_addBytes 77 = .ok (.if_icmp .ge 28, 3) := by decide +kernel
theorem dX6_addBytes_80 : decode cX6_addBytes 80 = .ok (.iload_n 1, 1) := by decide +kernel
theorem dX6_addBytes_81 : decode cX6_addBytes 81 = .ok (.iload 4, 2) := by decide +kernel
theorem dX6_addBytes_83 : decode cX6_addBytes 83 = .ok (.invokestatic 237, 3) := by decide +kernel
theorem dX6_addBytes_86 : decode cX6_addBytes 86 = .ok (.ifCond .eq 13, 3) := by decide +kernel
theorem dX6_addBytes_89 : decode cX6_addBytes 89 = .ok (.aload_n 0, 1) := by decide +kernel
theorem dX6_addBytes_90 : decode cX6_addBytes 90 = .ok (.iload_n 1, 1) := by decide +kernel
theorem dX6_addBytes_91 : decode cX6_addBytes 91 = .ok (.iload 4, 2) := by decide +kernel
theorem dX6_addBytes_93 : decode cX6_addBytes 93 = .ok (.invokestatic 237, 3) := by decide +kernel
theorem dX6_addBytes_96 : decode cX6_addBytes 96 = .ok (.invokevirtual 228, 3) := by decide +kernel
theorem dX6_addBytes_99 : decode cX6_addBytes 99 = .ok (.iinc 4 1, 3) := by decide +kernel
theorem dX6_addBytes_102 : decode cX6_addBytes 102 = .ok (.goto (-28), 3) := by decide +kernel
theorem dX6_addBytes_105 : decode cX6_addBytes 105 = .ok (.return_, 1) := by decide +kernel
theorem dX6_byteOf_0 : decode cX6_byteOf 0 = .ok (.iload_n 0, 1) := by decide +kernel
theorem dX6_byteOf_1 : decode cX6_byteOf 1 = .ok (.bipush 8, 2) := by decide +kernel
theorem dX6_byteOf_3 : decode cX6_byteOf 3 = .ok (.iload_n 1, 1) := by decide +kernel
theorem dX6_byteOf_4 : decode cX6_byteOf 4 = .ok (.imul, 1) := by decide +kernel
theorem dX6_byteOf_5 : decode cX6_byteOf 5 = .ok (.iushr, 1) := by decide +kernel
theorem dX6_byteOf_6 : decode cX6_byteOf 6 = .ok (.sipush 255, 3) := by decide +kernel
theorem dX6_byteOf_9 : decode cX6_byteOf 9 = .ok (.iand, 1) := by decide +kernel
theorem dX6_byteOf_10 : decode cX6_byteOf 10 = .ok (.ireturn, 1) := by decide +kernel
theorem dX6_isCharacter_0 : decode cX6_isCharacter 0 = .ok (.iload_n 0, 1) := by decide +kernel
theorem dX6_isCharacter_1 : decode cX6_isCharacter 1 = .ok (.bipush 32, 2) := by decide +kernel
theorem dX6_isCharacter_3 : decode cX6_isCharacter 3 = .ok (.if_icmp .lt 9, 3) := by decide +kernel
theorem dX6_isCharacter_6 : decode cX6_isCharacter 6 = .ok (.iload_n 0, 1) := by decide +kernel
theorem dX6_isCharacter_7 : decode cX6_isCharacter 7 = .ok (.bipush 126, 2) := by decide +kernel
theorem dX6_isCharacter_9 : decode cX6_isCharacter 9 = .ok (.if_icmp .le 31, 3) := by decide +kernel
theorem dX6_isCharacter_12 : decode cX6_isCharacter 12 = .ok (.iload_n 0, 1) := by decide +kernel
theorem dX6_isCharacter_13 : decode cX6_isCharacter 13 = .ok (.sipush 192, 3) := by decide +kernel
theorem dX6_isCharacter_16 : decode cX6_isCharacter 16 = .ok (.if_icmp .lt 28, 3) := by decide +kernel
theorem dX6_isCharacter_19 : decode cX6_isCharacter 19 = .ok (.iload_n 0, 1) := by decide +kernel
theorem dX6_isCharacter_20 : decode cX6_isCharacter 20 = .ok (.sipush 255, 3) := by decide +kernel
theorem dX6_isCharacter_23 : decode cX6_isCharacter 23 = .ok (.if_icmp .gt 21, 3) := by decide +kernel
theorem dX6_isCharacter_26 : decode cX6_isCharacter 26 = .ok (.iload_n 0, 1) := by decide +kernel
theorem dX6_isCharacter_27 : decode cX6_isCharacter 27 = .ok (.sipush 215, 3) := by decide +kernel
theorem dX6_isCharacter_30 : decode cX6_isCharacter 30 = .ok (.if_icmp .eq 14, 3) := by decide +kernel
theorem dX6_isCharacter_33 : decode cX6_isCharacter 33 = .ok (.iload_n 0, 1) := by decide +kernel
theorem dX6_isCharacter_34 : decode cX6_isCharacter 34 = .ok (.sipush 247, 3) := by decide +kernel
theorem dX6_isCharacter_37 : decode cX6_isCharacter 37 = .ok (.if_icmp .eq 7, 3) := by decide +kernel
theorem dX6_isCharacter_40 : decode cX6_isCharacter 40 = .ok (.iconst 1, 1) := by decide +kernel
theorem dX6_isCharacter_41 : decode cX6_isCharacter 41 = .ok (.goto 4, 3) := by decide +kernel
theorem dX6_isCharacter_44 : decode cX6_isCharacter 44 = .ok (.iconst 0, 1) := by decide +kernel
theorem dX6_isCharacter_45 : decode cX6_isCharacter 45 = .ok (.ireturn, 1) := by decide +kernel
theorem dX6_isSmall_0 : decode cX6_isSmall 0 = .ok (.iload_n 0, 1) := by decide +kernel
theorem dX6_isSmall_1 : decode cX6_isSmall 1 = .ok (.bipush 97, 2) := by decide +kernel
theorem dX6_isSmall_3 : decode cX6_isSmall 3 = .ok (.if_icmp .lt 9, 3) := by decide +kernel
theorem dX6_isSmall_6 : decode cX6_isSmall 6 = .ok (.iload_n 0, 1) := by decide +kernel
theorem dX6_isSmall_7 : decode cX6_isSmall 7 = .ok (.bipush 122, 2) := by decide +kernel
theorem dX6_isSmall_9 : decode cX6_isSmall 9 = .ok (.if_icmp .le 10, 3) := by decide +kernel
theorem dX6_isSmall_12 : decode cX6_isSmall 12 = .ok (.iload_n 0, 1) := by decide +kernel
theorem dX6_isSmall_13 : decode cX6_isSmall 13 = .ok (.sipush 222, 3) := by decide +kernel
theorem dX6_isSmall_16 : decode cX6_isSmall 16 = .ok (.if_icmp .le 7, 3) := by decide +kernel
theorem dX6_isSmall_19 : decode cX6_isSmall 19 = .ok (.iconst 1, 1) := by decide +kernel
theorem dX6_isSmall_20 : decode cX6_isSmall 20 = .ok (.goto 4, 3) := by decide +kernel
theorem dX6_isSmall_23 : decode cX6_isSmall 23 = .ok (.iconst 0, 1) := by decide +kernel
theorem dX6_isSmall_24 : decode cX6_isSmall 24 = .ok (.ireturn, 1) := by decide +kernel
theorem dX6_folded_0 : decode cX6_folded 0 = .ok (.iload_n 0, 1) := by decide +kernel
theorem dX6_folded_1 : decode cX6_folded 1 = .ok (.bipush 65, 2) := by decide +kernel
theorem dX6_folded_3 : decode cX6_folded 3 = .ok (.if_icmp .lt 17, 3) := by decide +kernel
theorem dX6_folded_6 : decode cX6_folded 6 = .ok (.iload_n 0, 1) := by decide +kernel
theorem dX6_folded_7 : decode cX6_folded 7 = .ok (.bipush 90, 2) := by decide +kernel
theorem dX6_folded_9 : decode cX6_folded 9 = .ok (.if_icmp .gt 11, 3) := by decide +kernel
theorem dX6_folded_12 : decode cX6_folded 12 = .ok (.iload_n 0, 1) := by decide +kernel
theorem dX6_folded_13 : decode cX6_folded 13 = .ok (.bipush 65, 2) := by decide +kernel
theorem dX6_folded_15 : decode cX6_folded 15 = .ok (.isub, 1) := by decide +kernel
theorem dX6_folded_16 : decode cX6_folded 16 = .ok (.bipush 97, 2) := by decide +kernel
theorem dX6_folded_18 : decode cX6_folded 18 = .ok (.iadd, 1) := by decide +kernel
theorem dX6_folded_19 : decode cX6_folded 19 = .ok (.ireturn, 1) := by decide +kernel
theorem dX6_folded_20 : decode cX6_folded 20 = .ok (.iload_n 0, 1) := by decide +kernel
theorem dX6_folded_21 : decode cX6_folded 21 = .ok (.sipush 192, 3) := by decide +kernel
theorem dX6_folded_24 : decode cX6_folded 24 = .ok (.isub, 1) := by decide +kernel
theorem dX6_folded_25 : decode cX6_folded 25 = .ok (.istore_n 1, 1) := by decide +kernel
theorem dX6_folded_26 : decode cX6_folded 26 = .ok (.iload_n 1, 1) := by decide +kernel
theorem dX6_folded_27 : decode cX6_folded 27 = .ok (.ifCond .lt 21, 3) := by decide +kernel
theorem dX6_folded_30 : decode cX6_folded 30 = .ok (.iload_n 1, 1) := by decide +kernel
theorem dX6_folded_31 : decode cX6_folded 31 = .ok (.ldc 249, 2) := by decide +kernel
theorem dX6_folded_33 : decode cX6_folded 33 = .ok (.invokevirtual 251, 3) := by decide +kernel
theorem dX6_folded_36 : decode cX6_folded 36 = .ok (.if_icmp .ge 12, 3) := by decide +kernel
theorem dX6_folded_39 : decode cX6_folded 39 = .ok (.ldc 249, 2) := by decide +kernel
theorem dX6_folded_41 : decode cX6_folded 41 = .ok (.iload_n 1, 1) := by decide +kernel
theorem dX6_folded_42 : decode cX6_folded 42 = .ok (.invokevirtual 256, 3) := by decide +kernel
theorem dX6_folded_45 : decode cX6_folded 45 = .ok (.goto 4, 3) := by decide +kernel
theorem dX6_folded_48 : decode cX6_folded 48 = .ok (.iload_n 0, 1) := by decide +kernel
theorem dX6_folded_49 : decode cX6_folded 49 = .ok (.ireturn, 1) := by decide +kernel
theorem dX7_init_0 : decode cX7_init 0 = .ok (.aload_n 0, 1) := by decide +kernel
theorem dX7_init_1 : decode cX7_init 1 = .ok (.invokespecial 1, 3) := by decide +kernel
theorem dX7_init_4 : decode cX7_init 4 = .ok (.aload_n 0, 1) := by decide +kernel
theorem dX7_init_5 : decode cX7_init 5 = .ok (.bipush 24, 2) := by decide +kernel
theorem dX7_init_7 : decode cX7_init 7 = .ok (.newarray .int, 2) := by decide +kernel
theorem dX7_init_9 : decode cX7_init 9 = .ok (.putfield 7, 3) := by decide +kernel
theorem dX7_init_12 : decode cX7_init 12 = .ok (.aload_n 0, 1) := by decide +kernel
theorem dX7_init_13 : decode cX7_init 13 = .ok (.bipush 24, 2) := by decide +kernel
theorem dX7_init_15 : decode cX7_init 15 = .ok (.newarray .int, 2) := by decide +kernel
theorem dX7_init_17 : decode cX7_init 17 = .ok (.putfield 13, 3) := by decide +kernel
theorem dX7_init_20 : decode cX7_init 20 = .ok (.aload_n 0, 1) := by decide +kernel
theorem dX7_init_21 : decode cX7_init 21 = .ok (.sipush 384, 3) := by decide +kernel
theorem dX7_init_24 : decode cX7_init 24 = .ok (.newarray .int, 2) := by decide +kernel
theorem dX7_init_26 : decode cX7_init 26 = .ok (.putfield 16, 3) := by decide +kernel
theorem dX7_init_29 : decode cX7_init 29 = .ok (.aload_n 0, 1) := by decide +kernel
theorem dX7_init_30 : decode cX7_init 30 = .ok (.sipush 192, 3) := by decide +kernel
theorem dX7_init_33 : decode cX7_init 33 = .ok (.newarray .int, 2) := by decide +kernel
theorem dX7_init_35 : decode cX7_init 35 = .ok (.putfield 19, 3) := by decide +kernel
theorem dX7_init_38 : decode cX7_init 38 = .ok (.aload_n 0, 1) := by decide +kernel
theorem dX7_init_39 : decode cX7_init 39 = .ok (.sipush 15360, 3) := by decide +kernel
theorem dX7_init_42 : decode cX7_init 42 = .ok (.newarray .int, 2) := by decide +kernel
theorem dX7_init_44 : decode cX7_init 44 = .ok (.putfield 22, 3) := by decide +kernel
theorem dX7_init_47 : decode cX7_init 47 = .ok (.aload_n 0, 1) := by decide +kernel
theorem dX7_init_48 : decode cX7_init 48 = .ok (.bipush 24, 2) := by decide +kernel
theorem dX7_init_50 : decode cX7_init 50 = .ok (.newarray .int, 2) := by decide +kernel
theorem dX7_init_52 : decode cX7_init 52 = .ok (.putfield 25, 3) := by decide +kernel
theorem dX7_init_55 : decode cX7_init 55 = .ok (.aload_n 0, 1) := by decide +kernel
theorem dX7_init_56 : decode cX7_init 56 = .ok (.bipush 24, 2) := by decide +kernel
theorem dX7_init_58 : decode cX7_init 58 = .ok (.newarray .int, 2) := by decide +kernel
theorem dX7_init_60 : decode cX7_init 60 = .ok (.putfield 28, 3) := by decide +kernel
theorem dX7_init_63 : decode cX7_init 63 = .ok (.aload_n 0, 1) := by decide +kernel
theorem dX7_init_64 : decode cX7_init 64 = .ok (.sipush 160, 3) := by decide +kernel
theorem dX7_init_67 : decode cX7_init 67 = .ok (.newarray .int, 2) := by decide +kernel
theorem dX7_init_69 : decode cX7_init 69 = .ok (.putfield 31, 3) := by decide +kernel
theorem dX7_init_72 : decode cX7_init 72 = .ok (.aload_n 0, 1) := by decide +kernel
theorem dX7_init_73 : decode cX7_init 73 = .ok (.iconst 2, 1) := by decide +kernel
theorem dX7_init_74 : decode cX7_init 74 = .ok (.newarray .int, 2) := by decide +kernel
theorem dX7_init_76 : decode cX7_init 76 = .ok (.putfield 34, 3) := by decide +kernel
theorem dX7_init_79 : decode cX7_init 79 = .ok (.aload_n 0, 1) := by decide +kernel
theorem dX7_init_80 : decode cX7_init 80 = .ok (.sipush 128, 3) := by decide +kernel
theorem dX7_init_83 : decode cX7_init 83 = .ok (.newarray .int, 2) := by decide +kernel
theorem dX7_init_85 : decode cX7_init 85 = .ok (.putfield 37, 3) := by decide +kernel
theorem dX7_init_88 : decode cX7_init 88 = .ok (.aload_n 0, 1) := by decide +kernel
theorem dX7_init_89 : decode cX7_init 89 = .ok (.sipush 128, 3) := by decide +kernel
theorem dX7_init_92 : decode cX7_init 92 = .ok (.newarray .int, 2) := by decide +kernel
theorem dX7_init_94 : decode cX7_init 94 = .ok (.putfield 40, 3) := by decide +kernel
theorem dX7_init_97 : decode cX7_init 97 = .ok (.aload_n 0, 1) := by decide +kernel
theorem dX7_init_98 : decode cX7_init 98 = .ok (.sipush 128, 3) := by decide +kernel
theorem dX7_init_101 : decode cX7_init 101 = .ok (.newarray .int, 2) := by decide +kernel
theorem dX7_init_103 : decode cX7_init 103 = .ok (.putfield 43, 3) := by decide +kernel
theorem dX7_init_106 : decode cX7_init 106 = .ok (.aload_n 0, 1) := by decide +kernel
theorem dX7_init_107 : decode cX7_init 107 = .ok (.sipush 128, 3) := by decide +kernel
theorem dX7_init_110 : decode cX7_init 110 = .ok (.newarray .int, 2) := by decide +kernel
theorem dX7_init_112 : decode cX7_init 112 = .ok (.putfield 46, 3) := by decide +kernel
theorem dX7_init_115 : decode cX7_init 115 = .ok (.aload_n 0, 1) := by decide +kernel
theorem dX7_init_116 : decode cX7_init 116 = .ok (.iconst 2, 1) := by decide +kernel
theorem dX7_init_117 : decode cX7_init 117 = .ok (.newarray .int, 2) := by decide +kernel
theorem dX7_init_119 : decode cX7_init 119 = .ok (.putfield 49, 3) := by decide +kernel
theorem dX7_init_122 : decode cX7_init 122 = .ok (.aload_n 0, 1) := by decide +kernel
theorem dX7_init_123 : decode cX7_init 123 = .ok (.sipush 1000, 3) := by decide +kernel
theorem dX7_init_126 : decode cX7_init 126 = .ok (.newarray .int, 2) := by decide +kernel
theorem dX7_init_128 : decode cX7_init 128 = .ok (.putfield 52, 3) := by decide +kernel
theorem dX7_init_131 : decode cX7_init 131 = .ok (.aload_n 0, 1) := by decide +kernel
theorem dX7_init_132 : decode cX7_init 132 = .ok (.sipush 1000, 3) := by decide +kernel
theorem dX7_init_135 : decode cX7_init 135 = .ok (.newarray .int, 2) := by decide +kernel
theorem dX7_init_137 : decode cX7_init 137 = .ok (.putfield 55, 3) := by decide +kernel
theorem dX7_init_140 : decode cX7_init 140 = .ok (.aload_n 0, 1) := by decide +kernel
theorem dX7_init_141 : decode cX7_init 141 = .ok (.bipush 24, 2) := by decide +kernel
theorem dX7_init_143 : decode cX7_init 143 = .ok (.newarray .int, 2) := by decide +kernel
theorem dX7_init_145 : decode cX7_init 145 = .ok (.putfield 58, 3) := by decide +kernel
theorem dX7_init_148 : decode cX7_init 148 = .ok (.aload_n 0, 1) := by decide +kernel
theorem dX7_init_149 : decode cX7_init 149 = .ok (.bipush 24, 2) := by decide +kernel
theorem dX7_init_151 : decode cX7_init 151 = .ok (.newarray .int, 2) := by decide +kernel
theorem dX7_init_153 : decode cX7_init 153 = .ok (.putfield 61, 3) := by decide +kernel
theorem dX7_init_156 : decode cX7_init 156 = .ok (.aload_n 0, 1) := by decide +kernel
theorem dX7_init_157 : decode cX7_init 157 = .ok (.bipush 24, 2) := by decide +kernel
theorem dX7_init_159 : decode cX7_init 159 = .ok (.newarray .int, 2) := by decide +kernel
theorem dX7_init_161 : decode cX7_init 161 = .ok (.putfield 64, 3) := by decide +kernel
theorem dX7_init_164 : decode cX7_init 164 = .ok (.aload_n 0, 1) := by decide +kernel
theorem dX7_init_165 : decode cX7_init 165 = .ok (.sipush 9600, 3) := by decide +kernel
theorem dX7_init_168 : decode cX7_init 168 = .ok (.newarray .int, 2) := by decide +kernel
theorem dX7_init_170 : decode cX7_init 170 = .ok (.putfield 67, 3) := by decide +kernel
theorem dX7_init_173 : decode cX7_init 173 = .ok (.aload_n 0, 1) := by decide +kernel
theorem dX7_init_174 : decode cX7_init 174 = .ok (.bipush 24, 2) := by decide +kernel
theorem dX7_init_176 : decode cX7_init 176 = .ok (.newarray .int, 2) := by decide +kernel
theorem dX7_init_178 : decode cX7_init 178 = .ok (.putfield 70, 3) := by decide +kernel
theorem dX7_init_181 : decode cX7_init 181 = .ok (.aload_n 0, 1) := by decide +kernel
theorem dX7_init_182 : decode cX7_init 182 = .ok (.sipush 24000, 3) := by decide +kernel
theorem dX7_init_185 : decode cX7_init 185 = .ok (.newarray .int, 2) := by decide +kernel
theorem dX7_init_187 : decode cX7_init 187 = .ok (.putfield 73, 3) := by decide +kernel
theorem dX7_init_190 : decode cX7_init 190 = .ok (.aload_n 0, 1) := by decide +kernel
theorem dX7_init_191 : decode cX7_init 191 = .ok (.bipush 96, 2) := by decide +kernel
theorem dX7_init_193 : decode cX7_init 193 = .ok (.newarray .int, 2) := by decide +kernel
theorem dX7_init_195 : decode cX7_init 195 = .ok (.putfield 76, 3) := by decide +kernel
theorem dX7_init_198 : decode cX7_init 198 = .ok (.aload_n 0, 1) := by decide +kernel
theorem dX7_init_199 : decode cX7_init 199 = .ok (.bipush 96, 2) := by decide +kernel
theorem dX7_init_201 : decode cX7_init 201 = .ok (.newarray .int, 2) := by decide +kernel
theorem dX7_init_203 : decode cX7_init 203 = .ok (.putfield 79, 3) := by decide +kernel
theorem dX7_init_206 : decode cX7_init 206 = .ok (.aload_n 0, 1) := by decide +kernel
theorem dX7_init_207 : decode cX7_init 207 = .ok (.sipush 1000, 3) := by decide +kernel
theorem dX7_init_210 : decode cX7_init 210 = .ok (.newarray .int, 2) := by decide +kernel
theorem dX7_init_212 : decode cX7_init 212 = .ok (.putfield 82, 3) := by decide +kernel
theorem dX7_init_215 : decode cX7_init 215 = .ok (.return_, 1) := by decide +kernel
theorem dX7_thrown_0 : decode cX7_thrown 0 = .ok (.aload_n 0, 1) := by decide +kernel
theorem dX7_thrown_1 : decode cX7_thrown 1 = .ok (.getfield 85, 3) := by decide +kernel
theorem dX7_thrown_4 : decode cX7_thrown 4 = .ok (.ireturn, 1) := by decide +kernel
theorem dX7_isEntry_0 : decode cX7_isEntry 0 = .ok (.iload_n 1, 1) := by decide +kernel
theorem dX7_isEntry_1 : decode cX7_isEntry 1 = .ok (.ifCond .lt 15, 3) := by decide +kernel
theorem dX7_isEntry_4 : decode cX7_isEntry 4 = .ok (.iload_n 1, 1) := by decide +kernel
theorem dX7_isEntry_5 : decode cX7_isEntry 5 = .ok (.aload_n 0, 1) := by decide +kernel
theorem dX7_isEntry_6 : decode cX7_isEntry 6 = .ok (.getfield 89, 3) := by decide +kernel
theorem dX7_isEntry_9 : decode cX7_isEntry 9 = .ok (.if_icmp .ge 7, 3) := by decide +kernel
theorem dX7_isEntry_12 : decode cX7_isEntry 12 = .ok (.iconst 1, 1) := by decide +kernel
theorem dX7_isEntry_13 : decode cX7_isEntry 13 = .ok (.goto 4, 3) := by decide +kernel
theorem dX7_isEntry_16 : decode cX7_isEntry 16 = .ok (.iconst 0, 1) := by decide +kernel
theorem dX7_isEntry_17 : decode cX7_isEntry 17 = .ok (.ireturn, 1) := by decide +kernel
theorem dX7_entry_0 : decode cX7_entry 0 = .ok (.aload_n 0, 1) := by decide +kernel
theorem dX7_entry_1 : decode cX7_entry 1 = .ok (.aload_n 0, 1) := by decide +kernel
theorem dX7_entry_2 : decode cX7_entry 2 = .ok (.getfield 89, 3) := by decide +kernel
theorem dX7_entry_5 : decode cX7_entry 5 = .ok (.bipush 24, 2) := by decide +kernel
theorem dX7_entry_7 : decode cX7_entry 7 = .ok (.if_icmp .ne 7, 3) := by decide +kernel
theorem dX7_entry_10 : decode cX7_entry 10 = .ok (.iconst 1, 1) := by decide +kernel
theorem dX7_entry_11 : decode cX7_entry 11 = .ok (.goto 4, 3) := by decide +kernel
theorem dX7_entry_14 : decode cX7_entry 14 = .ok (.iconst 0, 1) := by decide +kernel
theorem dX7_entry_15 : decode cX7_entry 15 = .ok (.putfield 85, 3) := by decide +kernel
theorem dX7_entry_18 : decode cX7_entry 18 = .ok (.aload_n 0, 1) := by decide +kernel
theorem dX7_entry_19 : decode cX7_entry 19 = .ok (.getfield 85, 3) := by decide +kernel
theorem dX7_entry_22 : decode cX7_entry 22 = .ok (.ifCond .le 5, 3) := by decide +kernel
theorem dX7_entry_25 : decode cX7_entry 25 = .ok (.iconst 0, 1) := by decide +kernel
theorem dX7_entry_26 : decode cX7_entry 26 = .ok (.ireturn, 1) := by decide +kernel
theorem dX7_entry_27 : decode cX7_entry 27 = .ok (.aload_n 0, 1) := by decide +kernel
theorem dX7_entry_28 : decode cX7_entry 28 = .ok (.getfield 7, 3) := by decide +kernel
theorem dX7_entry_31 : decode cX7_entry 31 = .ok (.aload_n 0, 1) := by decide +kernel
theorem dX7_entry_32 : decode cX7_entry 32 = .ok (.getfield 89, 3) := by decide +kernel
theorem dX7_entry_35 : decode cX7_entry 35 = .ok (.iload_n 1, 1) := by decide +kernel
theorem dX7_entry_36 : decode cX7_entry 36 = .ok (.ifCond .lt 8, 3) := by decide +kernel
theorem dX7_entry_39 : decode cX7_entry 39 = .ok (.iload_n 1, 1) := by decide +kernel
theorem dX7_entry_40 : decode cX7_entry 40 = .ok (.iconst 3, 1) := by decide +kernel
theorem dX7_entry_41 : decode cX7_entry 41 = .ok (.if_icmp .le 7, 3) := by decide +kernel
theorem dX7_entry_44 : decode cX7_entry 44 = .ok (.iconst 4, 1) := by decide +kernel
theorem dX7_entry_45 : decode cX7_entry 45 = .ok (.goto 4, 3) := by decide +kernel
theorem dX7_entry_48 : decode cX7_entry 48 = .ok (.iload_n 1, 1) := by decide +kernel
theorem dX7_entry_49 : decode cX7_entry 49 = .ok (.iastore, 1) := by decide +kernel
theorem dX7_entry_50 : decode cX7_entry 50 = .ok (.aload_n 0, 1) := by decide +kernel
theorem dX7_entry_51 : decode cX7_entry 51 = .ok (.getfield 25, 3) := by decide +kernel
theorem dX7_entry_54 : decode cX7_entry 54 = .ok (.aload_n 0, 1) := by decide +kernel
theorem dX7_entry_55 : decode cX7_entry 55 = .ok (.getfield 89, 3) := by decide +kernel
theorem dX7_entry_58 : decode cX7_entry 58 = .ok (.iconst (-1), 1) := by decide +kernel
theorem dX7_entry_59 : decode cX7_entry 59 = .ok (.iastore, 1) := by decide +kernel
theorem dX7_entry_60 : decode cX7_entry 60 = .ok (.aload_n 0, 1) := by decide +kernel
theorem dX7_entry_61 : decode cX7_entry 61 = .ok (.dup, 1) := by decide +kernel
theorem dX7_entry_62 : decode cX7_entry 62 = .ok (.getfield 89, 3) := by decide +kernel
theorem dX7_entry_65 : decode cX7_entry 65 = .ok (.iconst 1, 1) := by decide +kernel
theorem dX7_entry_66 : decode cX7_entry 66 = .ok (.iadd, 1) := by decide +kernel
theorem dX7_entry_67 : decode cX7_entry 67 = .ok (.putfield 89, 3) := by decide +kernel
theorem dX7_entry_70 : decode cX7_entry 70 = .ok (.aload_n 0, 1) := by decide +kernel
theorem dX7_entry_71 : decode cX7_entry 71 = .ok (.getfield 89, 3) := by decide +kernel
theorem dX7_entry_74 : decode cX7_entry 74 = .ok (.iconst 1, 1) := by decide +kernel
theorem dX7_entry_75 : decode cX7_entry 75 = .ok (.isub, 1) := by decide +kernel
theorem dX7_entry_76 : decode cX7_entry 76 = .ok (.ireturn, 1) := by decide +kernel
theorem dX7_isCharacter_0 : decode cX7_isCharacter 0 = .ok (.iload_n 0, 1) := by decide +kernel
theorem dX7_isCharacter_1 : decode cX7_isCharacter 1 = .ok (.bipush 32, 2) := by decide +kernel
theorem dX7_isCharacter_3 : decode cX7_isCharacter 3 = .ok (.if_icmp .lt 9, 3) := by decide +kernel
theorem dX7_isCharacter_6 : decode cX7_isCharacter 6 = .ok (.iload_n 0, 1) := by decide +kernel
theorem dX7_isCharacter_7 : decode cX7_isCharacter 7 = .ok (.bipush 126, 2) := by decide +kernel
theorem dX7_isCharacter_9 : decode cX7_isCharacter 9 = .ok (.if_icmp .le 24, 3) := by decide +kernel
theorem dX7_isCharacter_12 : decode cX7_isCharacter 12 = .ok (.iload_n 0, 1) := by decide +kernel
theorem dX7_isCharacter_13 : decode cX7_isCharacter 13 = .ok (.sipush 192, 3) := by decide +kernel
theorem dX7_isCharacter_16 : decode cX7_isCharacter 16 = .ok (.if_icmp .lt 21, 3) := by decide +kernel
theorem dX7_isCharacter_19 : decode cX7_isCharacter 19 = .ok (.iload_n 0, 1) := by decide +kernel
theorem dX7_isCharacter_20 : decode cX7_isCharacter 20 = .ok (.sipush 215, 3) := by decide +kernel
theorem dX7_isCharacter_23 : decode cX7_isCharacter 23 = .ok (.if_icmp .eq 14, 3) := by decide +kernel
theorem dX7_isCharacter_26 : decode cX7_isCharacter 26 = .ok (.iload_n 0, 1) := by decide +kernel
theorem dX7_isCharacter_27 : decode cX7_isCharacter 27 = .ok (.sipush 247, 3) := by decide +kernel
theorem dX7_isCharacter_30 : decode cX7_isCharacter 30 = .ok (.if_icmp .eq 7, 3) := by decide +kernel
theorem dX7_isCharacter_33 : decode cX7_isCharacter 33 = .ok (.iconst 1, 1) := by decide +kernel
theorem dX7_isCharacter_34 : decode cX7_isCharacter 34 = .ok (.goto 4, 3) := by decide +kernel
theorem dX7_isCharacter_37 : decode cX7_isCharacter 37 = .ok (.iconst 0, 1) := by decide +kernel
theorem dX7_isCharacter_38 : decode cX7_isCharacter 38 = .ok (.ireturn, 1) := by decide +kernel
theorem dX7_countOf_0 : decode cX7_countOf 0 = .ok (.iconst 0, 1) := by decide +kernel
theorem dX7_countOf_1 : decode cX7_countOf 1 = .ok (.istore_n 1, 1) := by decide +kernel
theorem dX7_countOf_2 : decode cX7_countOf 2 = .ok (.iconst 0, 1) := by decide +kernel
theorem dX7_countOf_3 : decode cX7_countOf 3 = .ok (.istore_n 2, 1) := by decide +kernel
theorem dX7_countOf_4 : decode cX7_countOf 4 = .ok (.iload_n 2, 1) := by decide +kernel
theorem dX7_countOf_5 : decode cX7_countOf 5 = .ok (.iconst 4, 1) := by decide +kernel
theorem dX7_countOf_6 : decode cX7_countOf 6 = .ok (.if_icmp .ge 44, 3) := by decide +kernel
theorem dX7_countOf_9 : decode cX7_countOf 9 = .ok (.iload_n 1, 1) := by decide +kernel
theorem dX7_countOf_10 : decode cX7_countOf 10 = .ok (.iconst (-1), 1) := by decide +kernel
theorem dX7_countOf_11 : decode cX7_countOf 11 = .ok (.if_icmp .eq 39, 3) := by decide +kernel
theorem dX7_countOf_14 : decode cX7_countOf 14 = .ok (.iload_n 0, 1) := by decide +kernel
theorem dX7_countOf_15 : decode cX7_countOf 15 = .ok (.bipush 8, 2) := by decide +kernel
theorem dX7_countOf_17 : decode cX7_countOf 17 = .ok (.iload_n 2, 1) := by decide +kernel
theorem dX7_countOf_18 : decode cX7_countOf 18 = .ok (.imul, 1) := by decide +kernel
theorem dX7_countOf_19 : decode cX7_countOf 19 = .ok (.ishr, 1) := by decide +kernel
theorem dX7_countOf_20 : decode cX7_countOf 20 = .ok (.sipush 255, 3) := by decide +kernel
theorem dX7_countOf_23 : decode cX7_countOf 23 = .ok (.iand, 1) := by decide +kernel
theorem dX7_countOf_24 : decode cX7_countOf 24 = .ok (.istore_n 3, 1) := by decide +kernel
theorem dX7_countOf_25 : decode cX7_countOf 25 = .ok (.iload_n 3, 1) := by decide +kernel
theorem dX7_countOf_26 : decode cX7_countOf 26 = .ok (.ifCond .eq 18, 3) := by decide +kernel
theorem dX7_countOf_29 : decode cX7_countOf 29 = .ok (.iload_n 3, 1) := by decide +kernel
theorem dX7_countOf_30 : decode cX7_countOf 30 = .ok (.invokestatic 92, 3) := by decide +kernel
theorem dX7_countOf_33 : decode cX7_countOf 33 = .ok (.ifCond .eq 9, 3) := by decide +kernel
theorem dX7_countOf_36 : decode cX7_countOf 36 = .ok (.iload_n 1, 1) := by decide +kernel
theorem dX7_countOf_37 : decode cX7_countOf 37 = .ok (.iconst 1, 1) := by decide +kernel
theorem dX7_countOf_38 : decode cX7_countOf 38 = .ok (.iadd, 1) := by decide +kernel
theorem dX7_countOf_39 : decode cX7_countOf 39 = .ok (.goto 4, 3) := by decide +kernel
theorem dX7_countOf_42 : decode cX7_countOf 42 = .ok (.iconst (-1), 1) := by decide +kernel
theorem dX7_countOf_43 : decode cX7_countOf 43 = .ok (.istore_n 1, 1) := by decide +kernel
theorem dX7_countOf_44 : decode cX7_countOf 44 = .ok (.iinc 2 1, 3) := by decide +kernel
theorem dX7_countOf_47 : decode cX7_countOf 47 = .ok (.goto (-43), 3) := by decide +kernel
theorem dX7_countOf_50 : decode cX7_countOf 50 = .ok (.iload_n 1, 1) := by decide +kernel
theorem dX7_countOf_51 : decode cX7_countOf 51 = .ok (.ireturn, 1) := by decide +kernel
theorem dX7_addTo_0 : decode cX7_addTo 0 = .ok (.iconst 0, 1) := by decide +kernel
theorem dX7_addTo_1 : decode cX7_addTo 1 = .ok (.istore_n 3, 1) := by decide +kernel
theorem dX7_addTo_2 : decode cX7_addTo 2 = .ok (.iconst 0, 1) := by decide +kernel
theorem dX7_addTo_3 : decode cX7_addTo 3 = .ok (.istore 4, 2) := by decide +kernel
theorem dX7_addTo_5 : decode cX7_addTo 5 = .ok (.iload 4, 2) := by decide +kernel
theorem dX7_addTo_7 : decode cX7_addTo 7 = .ok (.iconst 4, 1) := by decide +kernel
theorem dX7_addTo_8 : decode cX7_addTo 8 = .ok (.if_icmp .ge 37, 3) := by decide +kernel
theorem dX7_addTo_11 : decode cX7_addTo 11 = .ok (.iload_n 2, 1) := by decide +kernel
theorem dX7_addTo_12 : decode cX7_addTo 12 = .ok (.bipush 8, 2) := by decide +kernel
theorem dX7_addTo_14 : decode cX7_addTo 14 = .ok (.iload 4, 2) := by decide +kernel
theorem dX7_addTo_16 : decode cX7_addTo 16 = .ok (.imul, 1) := by decide +kernel
theorem dX7_addTo_17 : decode cX7_addTo 17 = .ok (.ishr, 1) := by decide +kernel
theorem dX7_addTo_18 : decode cX7_addTo 18 = .ok (.sipush 255, 3) := by decide +kernel
theorem dX7_addTo_21 : decode cX7_addTo 21 = .ok (.iand, 1) := by decide +kernel
theorem dX7_addTo_22 : decode cX7_addTo 22 = .ok (.istore 5, 2) := by decide +kernel
theorem dX7_addTo_24 : decode cX7_addTo 24 = .ok (.iload 5, 2) := by decide +kernel
theorem dX7_addTo_26 : decode cX7_addTo 26 = .ok (.ifCond .eq 13, 3) := by decide +kernel
theorem dX7_addTo_29 : decode cX7_addTo 29 = .ok (.aload_n 0, 1) := by decide +kernel
theorem dX7_addTo_30 : decode cX7_addTo 30 = .ok (.iload_n 1, 1) := by decide +kernel
theorem dX7_addTo_31 : decode cX7_addTo 31 = .ok (.iload_n 3, 1) := by decide +kernel
theorem dX7_addTo_32 : decode cX7_addTo 32 = .ok (.iadd, 1) := by decide +kernel
theorem dX7_addTo_33 : decode cX7_addTo 33 = .ok (.iload 5, 2) := by decide +kernel
theorem dX7_addTo_35 : decode cX7_addTo 35 = .ok (.iastore, 1) := by decide +kernel
theorem dX7_addTo_36 : decode cX7_addTo 36 = .ok (.iinc 3 1, 3) := by decide +kernel
theorem dX7_addTo_39 : decode cX7_addTo 39 = .ok (.iinc 4 1, 3) := by decide +kernel
theorem dX7_addTo_42 : decode cX7_addTo 42 = .ok (.goto (-37), 3) := by decide +kernel
theorem dX7_addTo_45 : decode cX7_addTo 45 = .ok (.return_, 1) := by decide +kernel
theorem dX7_key_0 : decode cX7_key 0 = .ok (.iload_n 2, 1) := by decide +kernel
theorem dX7_key_1 : decode cX7_key 1 = .ok (.invokestatic 96, 3) := by decide +kernel
theorem dX7_key_4 : decode cX7_key 4 = .ok (.istore_n 3, 1) := by decide +kernel
theorem dX7_key_5 : decode cX7_key 5 = .ok (.aload_n 0, 1) := by decide +kernel
theorem dX7_key_6 : decode cX7_key 6 = .ok (.aload_n 0, 1) := by decide +kernel
theorem dX7_key_7 : decode cX7_key 7 = .ok (.iload_n 1, 1) := by decide +kernel
theorem dX7_key_8 : decode cX7_key 8 = .ok (.invokevirtual 100, 3) := by decide +kernel
theorem dX7_key_11 : decode cX7_key 11 = .ok (.ifCond .ne 7, 3) := by decide +kernel
theorem dX7_key_14 : decode cX7_key 14 = .ok (.iconst 1, 1) := by decide +kernel
theorem dX7_key_15 : decode cX7_key 15 = .ok (.goto 30, 3) := by decide +kernel
theorem dX7_key_18 : decode cX7_key 18 = .ok (.iload_n 3, 1) := by decide +kernel
theorem dX7_key_19 : decode cX7_key 19 = .ok (.iconst (-1), 1) := by decide +kernel
theorem dX7_key_20 : decode cX7_key 20 = .ok (.if_icmp .ne 7, 3) := by decide +kernel
theorem dX7_key_23 : decode cX7_key 23 = .ok (.iconst 2, 1) := by decide +kernel
theorem dX7_key_24 : decode cX7_key 24 = .ok (.goto 21, 3) := by decide +kernel
theorem dX7_key_27 : decode cX7_key 27 = .ok (.aload_n 0, 1) := by decide +kernel
theorem dX7_key_28 : decode cX7_key 28 = .ok (.getfield 13, 3) := by decide +kernel
theorem dX7_key_31 : decode cX7_key 31 = .ok (.iload_n 1, 1) := by decide +kernel
theorem dX7_key_32 : decode cX7_key 32 = .ok (.iaload, 1) := by decide +kernel
theorem dX7_key_33 : decode cX7_key 33 = .ok (.iload_n 3, 1) := by decide +kernel
theorem dX7_key_34 : decode cX7_key 34 = .ok (.iadd, 1) := by decide +kernel
theorem dX7_key_35 : decode cX7_key 35 = .ok (.bipush 16, 2) := by decide +kernel
theorem dX7_key_37 : decode cX7_key 37 = .ok (.if_icmp .le 7, 3) := by decide +kernel
theorem dX7_key_40 : decode cX7_key 40 = .ok (.iconst 3, 1) := by decide +kernel
theorem dX7_key_41 : decode cX7_key 41 = .ok (.goto 4, 3) := by decide +kernel
theorem dX7_key_44 : decode cX7_key 44 = .ok (.iconst 0, 1) := by decide +kernel
theorem dX7_key_45 : decode cX7_key 45 = .ok (.putfield 85, 3) := by decide +kernel
theorem dX7_key_48 : decode cX7_key 48 = .ok (.aload_n 0, 1) := by decide +kernel
theorem dX7_key_49 : decode cX7_key 49 = .ok (.getfield 85, 3) := by decide +kernel
theorem dX7_key_52 : decode cX7_key 52 = .ok (.ifCond .ne 36, 3) := by decide +kernel
theorem dX7_key_55 : decode cX7_key 55 = .ok (.aload_n 0, 1) := by decide +kernel
theorem dX7_key_56 : decode cX7_key 56 = .ok (.getfield 16, 3) := by decide +kernel
theorem dX7_key_59 : decode cX7_key 59 = .ok (.bipush 16, 2) := by decide +kernel
theorem dX7_key_61 : decode cX7_key 61 = .ok (.iload_n 1, 1) := by decide +kernel
theorem dX7_key_62 : decode cX7_key 62 = .ok (.imul, 1) := by decide +kernel
theorem dX7_key_63 : decode cX7_key 63 = .ok (.aload_n 0, 1) := by decide +kernel
theorem dX7_key_64 : decode cX7_key 64 = .ok (.getfield 13, 3) := by decide +kernel
theorem dX7_key_67 : decode cX7_key 67 = .ok (.iload_n 1, 1) := by decide +kernel
theorem dX7_key_68 : decode cX7_key 68 = .ok (.iaload, 1) := by decide +kernel
theorem dX7_key_69 : decode cX7_key 69 = .ok (.iadd, 1) := by decide +kernel
theorem dX7_key_70 : decode cX7_key 70 = .ok (.iload_n 2, 1) := by decide +kernel
theorem dX7_key_71 : decode cX7_key 71 = .ok (.invokestatic 103, 3) := by decide +kernel
theorem dX7_key_74 : decode cX7_key 74 = .ok (.aload_n 0, 1) := by decide +kernel
theorem dX7_key_75 : decode cX7_key 75 = .ok (.getfield 13, 3) := by decide +kernel
theorem dX7_key_78 : decode cX7_key 78 = .ok (.iload_n 1, 1) := by decide +kernel
theorem dX7_key_79 : decode cX7_key 79 = .ok (.aload_n 0, 1) := by decide +kernel
theorem dX7_key_80 : decode cX7_key 80 = .ok (.getfield 13, 3) := by decide +kernel
theorem dX7_key_83 : decode cX7_key 83 = .ok (.iload_n 1, 1) := by decide +kernel
theorem dX7_key_84 : decode cX7_key 84 = .ok (.iaload, 1) := by decide +kernel
theorem dX7_key_85 : decode cX7_key 85 = .ok (.iload_n 3, 1) := by decide +kernel
theorem dX7_key_86 : decode cX7_key 86 = .ok (.iadd, 1) := by decide +kernel
theorem dX7_key_87 : decode cX7_key 87 = .ok (.iastore, 1) := by decide +kernel
theorem dX7_key_88 : decode cX7_key 88 = .ok (.return_, 1) := by decide +kernel
theorem dX7_field_0 : decode cX7_field 0 = .ok (.iload_n 3, 1) := by decide +kernel
theorem dX7_field_1 : decode cX7_field 1 = .ok (.invokestatic 96, 3) := by decide +kernel
theorem dX7_field_4 : decode cX7_field 4 = .ok (.istore 4, 2) := by decide +kernel
theorem dX7_field_6 : decode cX7_field 6 = .ok (.aload_n 0, 1) := by decide +kernel
theorem dX7_field_7 : decode cX7_field 7 = .ok (.aload_n 0, 1) := by decide +kernel
theorem dX7_field_8 : decode cX7_field 8 = .ok (.iload_n 1, 1) := by decide +kernel
theorem dX7_field_9 : decode cX7_field 9 = .ok (.invokevirtual 100, 3) := by decide +kernel
theorem dX7_field_12 : decode cX7_field 12 = .ok (.ifCond .ne 7, 3) := by decide +kernel
theorem dX7_field_15 : decode cX7_field 15 = .ok (.iconst 1, 1) := by decide +kernel
theorem dX7_field_16 : decode cX7_field 16 = .ok (.goto 51, 3) := by decide +kernel
theorem dX7_field_19 : decode cX7_field 19 = .ok (.iload_n 2, 1) := by decide +kernel
theorem dX7_field_20 : decode cX7_field 20 = .ok (.ifCond .lt 9, 3) := by decide +kernel
theorem dX7_field_23 : decode cX7_field 23 = .ok (.iload_n 2, 1) := by decide +kernel
theorem dX7_field_24 : decode cX7_field 24 = .ok (.bipush 7, 2) := by decide +kernel
theorem dX7_field_26 : decode cX7_field 26 = .ok (.if_icmp .le 7, 3) := by decide +kernel
theorem dX7_field_29 : decode cX7_field 29 = .ok (.iconst 2, 1) := by decide +kernel
theorem dX7_field_30 : decode cX7_field 30 = .ok (.goto 37, 3) := by decide +kernel
theorem dX7_field_33 : decode cX7_field 33 = .ok (.iload 4, 2) := by decide +kernel
theorem dX7_field_35 : decode cX7_field 35 = .ok (.iconst (-1), 1) := by decide +kernel
theorem dX7_field_36 : decode cX7_field 36 = .ok (.if_icmp .ne 7, 3) := by decide +kernel
theorem dX7_field_39 : decode cX7_field 39 = .ok (.iconst 3, 1) := by decide +kernel
theorem dX7_field_40 : decode cX7_field 40 = .ok (.goto 27, 3) := by decide +kernel
theorem dX7_field_43 : decode cX7_field 43 = .ok (.aload_n 0, 1) := by decide +kernel
theorem dX7_field_44 : decode cX7_field 44 = .ok (.getfield 19, 3) := by decide +kernel
theorem dX7_field_47 : decode cX7_field 47 = .ok (.bipush 8, 2) := by decide +kernel
theorem dX7_field_49 : decode cX7_field 49 = .ok (.iload_n 1, 1) := by decide +kernel
theorem dX7_field_50 : decode cX7_field 50 = .ok (.imul, 1) := by decide +kernel
theorem dX7_field_51 : decode cX7_field 51 = .ok (.iload_n 2, 1) := by decide +kernel
theorem dX7_field_52 : decode cX7_field 52 = .ok (.iadd, 1) := by decide +kernel
theorem dX7_field_53 : decode cX7_field 53 = .ok (.iaload, 1) := by decide +kernel
theorem dX7_field_54 : decode cX7_field 54 = .ok (.iload 4, 2) := by decide +kernel
theorem dX7_field_56 : decode cX7_field 56 = .ok (.iadd, 1) := by decide +kernel
theorem dX7_field_57 : decode cX7_field 57 = .ok (.bipush 80, 2) := by decide +kernel
theorem dX7_field_59 : decode cX7_field 59 = .ok (.if_icmp .le 7, 3) := by decide +kernel
theorem dX7_field_62 : decode cX7_field 62 = .ok (.iconst 4, 1) := by decide +kernel
theorem dX7_field_63 : decode cX7_field 63 = .ok (.goto 4, 3) := by decide +kernel
theorem dX7_field_66 : decode cX7_field 66 = .ok (.iconst 0, 1) := by decide +kernel
theorem dX7_field_67 : decode cX7_field 67 = .ok (.putfield 85, 3) := by decide +kernel
theorem dX7_field_70 : decode cX7_field 70 = .ok (.aload_n 0, 1) := by decide +kernel
theorem dX7_field_71 : decode cX7_field 71 = .ok (.getfield 85, 3) := by decide +kernel
theorem dX7_field_74 : decode cX7_field 74 = .ok (.ifCond .ne 49, 3) := by decide +kernel
theorem dX7_field_77 : decode cX7_field 77 = .ok (.bipush 8, 2) := by decide +kernel
theorem dX7_field_79 : decode cX7_field 79 = .ok (.iload_n 1, 1) := by decide +kernel
theorem dX7_field_80 : decode cX7_field 80 = .ok (.imul, 1) := by decide +kernel
theorem dX7_field_81 : decode cX7_field 81 = .ok (.iload_n 2, 1) := by decide +kernel
theorem dX7_field_82 : decode cX7_field 82 = .ok (.iadd, 1) := by decide +kernel
theorem dX7_field_83 : decode cX7_field 83 = .ok (.istore 5, 2) := by decide +kernel
theorem dX7_field_85 : decode cX7_field 85 = .ok (.aload_n 0, 1) := by decide +kernel
theorem dX7_field_86 : decode cX7_field 86 = .ok (.getfield 22, 3) := by decide +kernel
theorem dX7_field_89 : decode cX7_field 89 = .ok (.bipush 80, 2) := by decide +kernel
theorem dX7_field_91 : decode cX7_field 91 = .ok (.iload 5, 2) := by decide +kernel
theorem dX7_field_93 : decode cX7_field 93 = .ok (.imul, 1) := by decide +kernel
theorem dX7_field_94 : decode cX7_field 94 = .ok (.aload_n 0, 1) := by decide +kernel
theorem dX7_field_95 : decode cX7_field 95 = .ok (.getfield 19, 3) := by decide +kernel
theorem dX7_field_98 : decode cX7_field 98 = .ok (.iload 5, 2) := by decide +kernel
theorem dX7_field_100 : decode cX7_field 100 = .ok (.iaload, 1) := by decide +kernel
theorem dX7_field_101 : decode cX7_field 101 = .ok (.iadd, 1) := by decide +kernel
theorem dX7_field_102 : decode cX7_field 102 = .ok (.iload_n 3, 1) := by decide +kernel
theorem dX7_field_103 : decode cX7_field 103 = .ok (.invokestatic 103, 3) := by decide +kernel
theorem dX7_field_106 : decode cX7_field 106 = .ok (.aload_n 0, 1) := by decide +kernel
theorem dX7_field_107 : decode cX7_field 107 = .ok (.getfield 19, 3) := by decide +kernel
theorem dX7_field_110 : decode cX7_field 110 = .ok (.iload 5, 2) := by decide +kernel
theorem dX7_field_112 : decode cX7_field 112 = .ok (.aload_n 0, 1) := by decide +kernel
theorem dX7_field_113 : decode cX7_field 113 = .ok (.getfield 19, 3) := by decide +kernel
theorem dX7_field_116 : decode cX7_field 116 = .ok (.iload 5, 2) := by decide +kernel
theorem dX7_field_118 : decode cX7_field 118 = .ok (.iaload, 1) := by decide +kernel
theorem dX7_field_119 : decode cX7_field 119 = .ok (.iload 4, 2) := by decide +kernel
theorem dX7_field_121 : decode cX7_field 121 = .ok (.iadd, 1) := by decide +kernel
theorem dX7_field_122 : decode cX7_field 122 = .ok (.iastore, 1) := by decide +kernel
theorem dX7_field_123 : decode cX7_field 123 = .ok (.return_, 1) := by decide +kernel
theorem dX7_cite_0 : decode cX7_cite 0 = .ok (.aload_n 0, 1) := by decide +kernel
theorem dX7_cite_1 : decode cX7_cite 1 = .ok (.aload_n 0, 1) := by decide +kernel
theorem dX7_cite_2 : decode cX7_cite 2 = .ok (.iload_n 1, 1) := by decide +kernel
theorem dX7_cite_3 : decode cX7_cite 3 = .ok (.invokevirtual 100, 3) := by decide +kernel
theorem dX7_cite_6 : decode cX7_cite 6 = .ok (.ifCond .ne 7, 3) := by decide +kernel
theorem dX7_cite_9 : decode cX7_cite 9 = .ok (.iconst 1, 1) := by decide +kernel
theorem dX7_cite_10 : decode cX7_cite 10 = .ok (.goto 17, 3) := by decide +kernel
theorem dX7_cite_13 : decode cX7_cite 13 = .ok (.aload_n 0, 1) := by decide +kernel
theorem dX7_cite_14 : decode cX7_cite 14 = .ok (.getfield 107, 3) := by decide +kernel
theorem dX7_cite_17 : decode cX7_cite 17 = .ok (.bipush 60, 2) := by decide +kernel
theorem dX7_cite_19 : decode cX7_cite 19 = .ok (.if_icmp .ne 7, 3) := by decide +kernel
theorem dX7_cite_22 : decode cX7_cite 22 = .ok (.iconst 2, 1) := by decide +kernel
theorem dX7_cite_23 : decode cX7_cite 23 = .ok (.goto 4, 3) := by decide +kernel
theorem dX7_cite_26 : decode cX7_cite 26 = .ok (.iconst 0, 1) := by decide +kernel
theorem dX7_cite_27 : decode cX7_cite 27 = .ok (.putfield 85, 3) := by decide +kernel
theorem dX7_cite_30 : decode cX7_cite 30 = .ok (.aload_n 0, 1) := by decide +kernel
theorem dX7_cite_31 : decode cX7_cite 31 = .ok (.getfield 85, 3) := by decide +kernel
theorem dX7_cite_34 : decode cX7_cite 34 = .ok (.ifCond .le 5, 3) := by decide +kernel
theorem dX7_cite_37 : decode cX7_cite 37 = .ok (.iconst 0, 1) := by decide +kernel
theorem dX7_cite_38 : decode cX7_cite 38 = .ok (.ireturn, 1) := by decide +kernel
theorem dX7_cite_39 : decode cX7_cite 39 = .ok (.aload_n 0, 1) := by decide +kernel
theorem dX7_cite_40 : decode cX7_cite 40 = .ok (.dup, 1) := by decide +kernel
theorem dX7_cite_41 : decode cX7_cite 41 = .ok (.getfield 107, 3) := by decide +kernel
theorem dX7_cite_44 : decode cX7_cite 44 = .ok (.iconst 1, 1) := by decide +kernel
theorem dX7_cite_45 : decode cX7_cite 45 = .ok (.iadd, 1) := by decide +kernel
theorem dX7_cite_46 : decode cX7_cite 46 = .ok (.putfield 107, 3) := by decide +kernel
theorem dX7_cite_49 : decode cX7_cite 49 = .ok (.iconst 0, 1) := by decide +kernel
theorem dX7_cite_50 : decode cX7_cite 50 = .ok (.istore_n 2, 1) := by decide +kernel
theorem dX7_cite_51 : decode cX7_cite 51 = .ok (.iconst 0, 1) := by decide +kernel
theorem dX7_cite_52 : decode cX7_cite 52 = .ok (.istore_n 3, 1) := by decide +kernel
theorem dX7_cite_53 : decode cX7_cite 53 = .ok (.iload_n 3, 1) := by decide +kernel
theorem dX7_cite_54 : decode cX7_cite 54 = .ok (.aload_n 0, 1) := by decide +kernel
theorem dX7_cite_55 : decode cX7_cite 55 = .ok (.getfield 110, 3) := by decide +kernel
theorem dX7_cite_58 : decode cX7_cite 58 = .ok (.if_icmp .ge 29, 3) := by decide +kernel
theorem dX7_cite_61 : decode cX7_cite 61 = .ok (.iload_n 2, 1) := by decide +kernel
theorem dX7_cite_62 : decode cX7_cite 62 = .ok (.ifCond .ne 13, 3) := by decide +kernel
theorem dX7_cite_65 : decode cX7_cite 65 = .ok (.aload_n 0, 1) := by decide +kernel
theorem dX7_cite_66 : decode cX7_cite 66 = .ok (.getfield 28, 3) := by decide +kernel
theorem dX7_cite_69 : decode cX7_cite 69 = .ok (.iload_n 3, 1) := by decide +kernel
theorem dX7_cite_70 : decode cX7_cite 70 = .ok (.iaload, 1) := by decide +kernel
theorem dX7_cite_71 : decode cX7_cite 71 = .ok (.iload_n 1, 1) := by decide +kernel
theorem dX7_cite_72 : decode cX7_cite 72 = .ok (.if_icmp .ne 7, 3) := by decide +kernel
theorem dX7_cite_75 : decode cX7_cite 75 = .ok (.iconst 1, 1) := by decide +kernel
theorem dX7_cite_76 : decode cX7_cite 76 = .ok (.goto 4, 3) := by decide +kernel
theorem dX7_cite_79 : decode cX7_cite 79 = .ok (.iconst 0, 1) := by decide +kernel
theorem dX7_cite_80 : decode cX7_cite 80 = .ok (.istore_n 2, 1) := by decide +kernel
theorem dX7_cite_81 : decode cX7_cite 81 = .ok (.iinc 3 1, 3) := by decide +kernel
theorem dX7_cite_84 : decode cX7_cite 84 = .ok (.goto (-31), 3) := by decide +kernel
theorem dX7_cite_87 : decode cX7_cite 87 = .ok (.iload_n 2, 1) := by decide +kernel
theorem dX7_cite_88 : decode cX7_cite 88 = .ok (.ifCond .ne 23, 3) := by decide +kernel
theorem dX7_cite_91 : decode cX7_cite 91 = .ok (.aload_n 0, 1) := by decide +kernel
theorem dX7_cite_92 : decode cX7_cite 92 = .ok (.getfield 28, 3) := by decide +kernel
theorem dX7_cite_95 : decode cX7_cite 95 = .ok (.aload_n 0, 1) := by decide +kernel
theorem dX7_cite_96 : decode cX7_cite 96 = .ok (.getfield 110, 3) := by decide +kernel
theorem dX7_cite_99 : decode cX7_cite 99 = .ok (.iload_n 1, 1) := by decide +kernel
theorem dX7_cite_100 : decode cX7_cite 100 = .ok (.iastore, 1) := by decide +kernel
theorem dX7_cite_101 : decode cX7_cite 101 = .ok (.aload_n 0, 1) := by decide +kernel
theorem dX7_cite_102 : decode cX7_cite 102 = .ok (.dup, 1) := by decide +kernel
theorem dX7_cite_103 : decode cX7_cite 103 = .ok (.getfield 110, 3) := by decide +kernel
theorem dX7_cite_106 : decode cX7_cite 106 = .ok (.iconst 1, 1) := by decide +kernel
theorem dX7_cite_107 : decode cX7_cite 107 = .ok (.iadd, 1) := by decide +kernel
theorem dX7_cite_108 : decode cX7_cite 108 = .ok (.putfield 110, 3) := by decide +kernel
theorem dX7_cite_111 : decode cX7_cite 111 = .ok (.aload_n 0, 1) := by decide +kernel
theorem dX7_cite_112 : decode cX7_cite 112 = .ok (.getfield 107, 3) := by decide +kernel
theorem dX7_cite_115 : decode cX7_cite 115 = .ok (.ireturn, 1) := by decide +kernel
theorem dX7_cross_0 : decode cX7_cross 0 = .ok (.aload_n 0, 1) := by decide +kernel
theorem dX7_cross_1 : decode cX7_cross 1 = .ok (.aload_n 0, 1) := by decide +kernel
theorem dX7_cross_2 : decode cX7_cross 2 = .ok (.iload_n 1, 1) := by decide +kernel
theorem dX7_cross_3 : decode cX7_cross 3 = .ok (.invokevirtual 100, 3) := by decide +kernel
theorem dX7_cross_6 : decode cX7_cross 6 = .ok (.ifCond .eq 15, 3) := by decide +kernel
theorem dX7_cross_9 : decode cX7_cross 9 = .ok (.aload_n 0, 1) := by decide +kernel
theorem dX7_cross_10 : decode cX7_cross 10 = .ok (.iload_n 2, 1) := by decide +kernel
theorem dX7_cross_11 : decode cX7_cross 11 = .ok (.invokevirtual 100, 3) := by decide +kernel
theorem dX7_cross_14 : decode cX7_cross 14 = .ok (.ifCond .eq 7, 3) := by decide +kernel
theorem dX7_cross_17 : decode cX7_cross 17 = .ok (.iconst 0, 1) := by decide +kernel
theorem dX7_cross_18 : decode cX7_cross 18 = .ok (.goto 4, 3) := by decide +kernel
theorem dX7_cross_21 : decode cX7_cross 21 = .ok (.iconst 1, 1) := by decide +kernel
theorem dX7_cross_22 : decode cX7_cross 22 = .ok (.putfield 85, 3) := by decide +kernel
theorem dX7_cross_25 : decode cX7_cross 25 = .ok (.aload_n 0, 1) := by decide +kernel
theorem dX7_cross_26 : decode cX7_cross 26 = .ok (.getfield 85, 3) := by decide +kernel
theorem dX7_cross_29 : decode cX7_cross 29 = .ok (.ifCond .le 5, 3) := by decide +kernel
theorem dX7_cross_32 : decode cX7_cross 32 = .ok (.iconst 0, 1) := by decide +kernel
theorem dX7_cross_33 : decode cX7_cross 33 = .ok (.ireturn, 1) := by decide +kernel
theorem dX7_cross_34 : decode cX7_cross 34 = .ok (.iload_n 2, 1) := by decide +kernel
theorem dX7_cross_35 : decode cX7_cross 35 = .ok (.istore_n 3, 1) := by decide +kernel
theorem dX7_cross_36 : decode cX7_cross 36 = .ok (.iload_n 3, 1) := by decide +kernel
theorem dX7_cross_37 : decode cX7_cross 37 = .ok (.iconst (-1), 1) := by decide +kernel
theorem dX7_cross_38 : decode cX7_cross 38 = .ok (.if_icmp .eq 20, 3) := by decide +kernel
theorem dX7_cross_41 : decode cX7_cross 41 = .ok (.iload_n 3, 1) := by decide +kernel
theorem dX7_cross_42 : decode cX7_cross 42 = .ok (.iload_n 1, 1) := by decide +kernel
theorem dX7_cross_43 : decode cX7_cross 43 = .ok (.if_icmp .ne 5, 3) := by decide +kernel
theorem dX7_cross_46 : decode cX7_cross 46 = .ok (.iconst 0, 1) := by decide +kernel
theorem dX7_cross_47 : decode cX7_cross 47 = .ok (.ireturn, 1) := by decide +kernel
theorem dX7_cross_48 : decode cX7_cross 48 = .ok (.aload_n 0, 1) := by decide +kernel
theorem dX7_cross_49 : decode cX7_cross 49 = .ok (.getfield 25, 3) := by decide +kernel
theorem dX7_cross_52 : decode cX7_cross 52 = .ok (.iload_n 3, 1) := by decide +kernel
theorem dX7_cross_53 : decode cX7_cross 53 = .ok (.iaload, 1) := by decide +kernel
theorem dX7_cross_54 : decode cX7_cross 54 = .ok (.istore_n 3, 1) := by decide +kernel
theorem dX7_cross_55 : decode cX7_cross 55 = .ok (.goto (-19), 3) := by decide +kernel
theorem dX7_cross_58 : decode cX7_cross 58 = .ok (.aload_n 0, 1) := by decide +kernel
theorem dX7_cross_59 : decode cX7_cross 59 = .ok (.getfield 25, 3) := by decide +kernel
theorem dX7_cross_62 : decode cX7_cross 62 = .ok (.iload_n 1, 1) := by decide +kernel
theorem dX7_cross_63 : decode cX7_cross 63 = .ok (.iload_n 2, 1) := by decide +kernel
theorem dX7_cross_64 : decode cX7_cross 64 = .ok (.iastore, 1) := by decide +kernel
theorem dX7_cross_65 : decode cX7_cross 65 = .ok (.iconst 1, 1) := by decide +kernel
theorem dX7_cross_66 : decode cX7_cross 66 = .ok (.ireturn, 1) := by decide +kernel
theorem dX7_style_0 : decode cX7_style 0 = .ok (.aload_n 0, 1) := by decide +kernel
theorem dX7_style_1 : decode cX7_style 1 = .ok (.iload_n 1, 1) := by decide +kernel
theorem dX7_style_2 : decode cX7_style 2 = .ok (.ifCond .lt 17, 3) := by decide +kernel
theorem dX7_style_5 : decode cX7_style 5 = .ok (.iload_n 1, 1) := by decide +kernel
theorem dX7_style_6 : decode cX7_style 6 = .ok (.iconst 2, 1) := by decide +kernel
theorem dX7_style_7 : decode cX7_style 7 = .ok (.if_icmp .gt 12, 3) := by decide +kernel
theorem dX7_style_10 : decode cX7_style 10 = .ok (.iload_n 2, 1) := by decide +kernel
theorem dX7_style_11 : decode cX7_style 11 = .ok (.ifCond .lt 8, 3) := by decide +kernel
theorem dX7_style_14 : decode cX7_style 14 = .ok (.iload_n 2, 1) := by decide +kernel
theorem dX7_style_15 : decode cX7_style 15 = .ok (.iconst 2, 1) := by decide +kernel
theorem dX7_style_16 : decode cX7_style 16 = .ok (.if_icmp .le 7, 3) := by decide +kernel
theorem dX7_style_19 : decode cX7_style 19 = .ok (.iconst 1, 1) := by decide +kernel
theorem dX7_style_20 : decode cX7_style 20 = .ok (.goto 4, 3) := by decide +kernel
theorem dX7_style_23 : decode cX7_style 23 = .ok (.iconst 0, 1) := by decide +kernel
theorem dX7_style_24 : decode cX7_style 24 = .ok (.putfield 85, 3) := by decide +kernel
theorem dX7_style_27 : decode cX7_style 27 = .ok (.aload_n 0, 1) := by decide +kernel
theorem dX7_style_28 : decode cX7_style 28 = .ok (.getfield 85, 3) := by decide +kernel
theorem dX7_style_31 : decode cX7_style 31 = .ok (.ifCond .le 5, 3) := by decide +kernel
theorem dX7_style_34 : decode cX7_style 34 = .ok (.iconst 0, 1) := by decide +kernel
theorem dX7_style_35 : decode cX7_style 35 = .ok (.ireturn, 1) := by decide +kernel
theorem dX7_style_36 : decode cX7_style 36 = .ok (.bipush 10, 2) := by decide +kernel
theorem dX7_style_38 : decode cX7_style 38 = .ok (.aload_n 0, 1) := by decide +kernel
theorem dX7_style_39 : decode cX7_style 39 = .ok (.getfield 113, 3) := by decide +kernel
theorem dX7_style_42 : decode cX7_style 42 = .ok (.imul, 1) := by decide +kernel
theorem dX7_style_43 : decode cX7_style 43 = .ok (.aload_n 0, 1) := by decide +kernel
theorem dX7_style_44 : decode cX7_style 44 = .ok (.getfield 116, 3) := by decide +kernel
theorem dX7_style_47 : decode cX7_style 47 = .ok (.iadd, 1) := by decide +kernel
theorem dX7_style_48 : decode cX7_style 48 = .ok (.istore_n 3, 1) := by decide +kernel
theorem dX7_style_49 : decode cX7_style 49 = .ok (.aload_n 0, 1) := by decide +kernel
theorem dX7_style_50 : decode cX7_style 50 = .ok (.iload_n 1, 1) := by decide +kernel
theorem dX7_style_51 : decode cX7_style 51 = .ok (.putfield 113, 3) := by decide +kernel
theorem dX7_style_54 : decode cX7_style 54 = .ok (.aload_n 0, 1) := by decide +kernel
theorem dX7_style_55 : decode cX7_style 55 = .ok (.iload_n 2, 1) := by decide +kernel
theorem dX7_style_56 : decode cX7_style 56 = .ok (.putfield 116, 3) := by decide +kernel
theorem dX7_style_59 : decode cX7_style 59 = .ok (.iload_n 3, 1) := by decide +kernel
theorem dX7_style_60 : decode cX7_style 60 = .ok (.ireturn, 1) := by decide +kernel
theorem dX7_value_0 : decode cX7_value 0 = .ok (.iload_n 1, 1) := by decide +kernel
theorem dX7_value_1 : decode cX7_value 1 = .ok (.istore_n 3, 1) := by decide +kernel
theorem dX7_value_2 : decode cX7_value 2 = .ok (.aload_n 0, 1) := by decide +kernel
theorem dX7_value_3 : decode cX7_value 3 = .ok (.getfield 19, 3) := by decide +kernel
theorem dX7_value_6 : decode cX7_value 6 = .ok (.bipush 8, 2) := by decide +kernel
theorem dX7_value_8 : decode cX7_value 8 = .ok (.iload_n 3, 1) := by decide +kernel
theorem dX7_value_9 : decode cX7_value 9 = .ok (.imul, 1) := by decide +kernel
theorem dX7_value_10 : decode cX7_value 10 = .ok (.iload_n 2, 1) := by decide +kernel
theorem dX7_value_11 : decode cX7_value 11 = .ok (.iadd, 1) := by decide +kernel
theorem dX7_value_12 : decode cX7_value 12 = .ok (.iaload, 1) := by decide +kernel
theorem dX7_value_13 : decode cX7_value 13 = .ok (.ifCond .ne 54, 3) := by decide +kernel
theorem dX7_value_16 : decode cX7_value 16 = .ok (.aload_n 0, 1) := by decide +kernel
theorem dX7_value_17 : decode cX7_value 17 = .ok (.getfield 25, 3) := by decide +kernel
theorem dX7_value_20 : decode cX7_value 20 = .ok (.iload_n 3, 1) := by decide +kernel
theorem dX7_value_21 : decode cX7_value 21 = .ok (.iaload, 1) := by decide +kernel
theorem dX7_value_22 : decode cX7_value 22 = .ok (.iconst (-1), 1) := by decide +kernel
theorem dX7_value_23 : decode cX7_value 23 = .ok (.if_icmp .eq 8, 3) := by decide +kernel
theorem dX7_value_26 : decode cX7_value 26 = .ok (.iload_n 2, 1) := by decide +kernel
theorem dX7_value_27 : decode cX7_value 27 = .ok (.iconst 1, 1) := by decide +kernel
theorem dX7_value_28 : decode cX7_value 28 = .ok (.if_icmp .ne 5, 3) := by decide +kernel
theorem dX7_value_31 : decode cX7_value 31 = .ok (.iconst (-1), 1) := by decide +kernel
theorem dX7_value_32 : decode cX7_value 32 = .ok (.ireturn, 1) := by decide +kernel
theorem dX7_value_33 : decode cX7_value 33 = .ok (.aload_n 0, 1) := by decide +kernel
theorem dX7_value_34 : decode cX7_value 34 = .ok (.getfield 25, 3) := by decide +kernel
theorem dX7_value_37 : decode cX7_value 37 = .ok (.iload_n 3, 1) := by decide +kernel
theorem dX7_value_38 : decode cX7_value 38 = .ok (.iaload, 1) := by decide +kernel
theorem dX7_value_39 : decode cX7_value 39 = .ok (.istore_n 3, 1) := by decide +kernel
theorem dX7_value_40 : decode cX7_value 40 = .ok (.iload_n 2, 1) := by decide +kernel
theorem dX7_value_41 : decode cX7_value 41 = .ok (.bipush 6, 2) := by decide +kernel
theorem dX7_value_43 : decode cX7_value 43 = .ok (.if_icmp .ne (-41), 3) := by decide +kernel
theorem dX7_value_46 : decode cX7_value 46 = .ok (.aload_n 0, 1) := by decide +kernel
theorem dX7_value_47 : decode cX7_value 47 = .ok (.getfield 19, 3) := by decide +kernel
theorem dX7_value_50 : decode cX7_value 50 = .ok (.bipush 8, 2) := by decide +kernel
theorem dX7_value_52 : decode cX7_value 52 = .ok (.iload_n 3, 1) := by decide +kernel
theorem dX7_value_53 : decode cX7_value 53 = .ok (.imul, 1) := by decide +kernel
theorem dX7_value_54 : decode cX7_value 54 = .ok (.iconst 1, 1) := by decide +kernel
theorem dX7_value_55 : decode cX7_value 55 = .ok (.iadd, 1) := by decide +kernel
theorem dX7_value_56 : decode cX7_value 56 = .ok (.iaload, 1) := by decide +kernel
theorem dX7_value_57 : decode cX7_value 57 = .ok (.ifCond .le (-55), 3) := by decide +kernel
theorem dX7_value_60 : decode cX7_value 60 = .ok (.bipush 8, 2) := by decide +kernel
theorem dX7_value_62 : decode cX7_value 62 = .ok (.iload_n 3, 1) := by decide +kernel
theorem dX7_value_63 : decode cX7_value 63 = .ok (.imul, 1) := by decide +kernel
theorem dX7_value_64 : decode cX7_value 64 = .ok (.iconst 1, 1) := by decide +kernel
theorem dX7_value_65 : decode cX7_value 65 = .ok (.iadd, 1) := by decide +kernel
theorem dX7_value_66 : decode cX7_value 66 = .ok (.ireturn, 1) := by decide +kernel
theorem dX7_value_67 : decode cX7_value 67 = .ok (.bipush 8, 2) := by decide +kernel
theorem dX7_value_69 : decode cX7_value 69 = .ok (.iload_n 3, 1) := by decide +kernel
theorem dX7_value_70 : decode cX7_value 70 = .ok (.imul, 1) := by decide +kernel
theorem dX7_value_71 : decode cX7_value 71 = .ok (.iload_n 2, 1) := by decide +kernel
theorem dX7_value_72 : decode cX7_value 72 = .ok (.iadd, 1) := by decide +kernel
theorem dX7_value_73 : decode cX7_value 73 = .ok (.ireturn, 1) := by decide +kernel
theorem dX7_real_0 : decode cX7_real 0 = .ok (.iconst 0, 1) := by decide +kernel
theorem dX7_real_1 : decode cX7_real 1 = .ok (.istore_n 2, 1) := by decide +kernel
theorem dX7_real_2 : decode cX7_real 2 = .ok (.iload_n 2, 1) := by decide +kernel
theorem dX7_real_3 : decode cX7_real 3 = .ok (.iload_n 1, 1) := by decide +kernel
theorem dX7_real_4 : decode cX7_real 4 = .ok (.if_icmp .ge 102, 3) := by decide +kernel
theorem dX7_real_7 : decode cX7_real 7 = .ok (.aload_n 0, 1) := by decide +kernel
theorem dX7_real_8 : decode cX7_real 8 = .ok (.getfield 13, 3) := by decide +kernel
theorem dX7_real_11 : decode cX7_real 11 = .ok (.iload_n 1, 1) := by decide +kernel
theorem dX7_real_12 : decode cX7_real 12 = .ok (.iaload, 1) := by decide +kernel
theorem dX7_real_13 : decode cX7_real 13 = .ok (.ifCond .le 93, 3) := by decide +kernel
theorem dX7_real_16 : decode cX7_real 16 = .ok (.aload_n 0, 1) := by decide +kernel
theorem dX7_real_17 : decode cX7_real 17 = .ok (.getfield 13, 3) := by decide +kernel
theorem dX7_real_20 : decode cX7_real 20 = .ok (.iload_n 2, 1) := by decide +kernel
theorem dX7_real_21 : decode cX7_real 21 = .ok (.iaload, 1) := by decide +kernel
theorem dX7_real_22 : decode cX7_real 22 = .ok (.aload_n 0, 1) := by decide +kernel
theorem dX7_real_23 : decode cX7_real 23 = .ok (.getfield 13, 3) := by decide +kernel
theorem dX7_real_26 : decode cX7_real 26 = .ok (.iload_n 1, 1) := by decide +kernel
theorem dX7_real_27 : decode cX7_real 27 = .ok (.iaload, 1) := by decide +kernel
theorem dX7_real_28 : decode cX7_real 28 = .ok (.if_icmp .ne 7, 3) := by decide +kernel
theorem dX7_real_31 : decode cX7_real 31 = .ok (.iconst 1, 1) := by decide +kernel
theorem dX7_real_32 : decode cX7_real 32 = .ok (.goto 4, 3) := by decide +kernel
theorem dX7_real_35 : decode cX7_real 35 = .ok (.iconst 0, 1) := by decide +kernel
theorem dX7_real_36 : decode cX7_real 36 = .ok (.istore_n 3, 1) := by decide +kernel
theorem dX7_real_37 : decode cX7_real 37 = .ok (.iconst 0, 1) := by decide +kernel
theorem dX7_real_38 : decode cX7_real 38 = .ok (.istore 4, 2) := by decide +kernel
theorem dX7_real_40 : decode cX7_real 40 = .ok (.iload 4, 2) := by decide +kernel
theorem dX7_real_42 : decode cX7_real 42 = .ok (.aload_n 0, 1) := by decide +kernel
theorem dX7_real_43 : decode cX7_real 43 = .ok (.getfield 13, 3) := by decide +kernel
theorem dX7_real_46 : decode cX7_real 46 = .ok (.iload_n 1, 1) := by decide +kernel
theorem dX7_real_47 : decode cX7_real 47 = .ok (.iaload, 1) := by decide +kernel
theorem dX7_real_48 : decode cX7_real 48 = .ok (.if_icmp .ge 46, 3) := by decide +kernel
theorem dX7_real_51 : decode cX7_real 51 = .ok (.iload_n 3, 1) := by decide +kernel
theorem dX7_real_52 : decode cX7_real 52 = .ok (.ifCond .eq 42, 3) := by decide +kernel
theorem dX7_real_55 : decode cX7_real 55 = .ok (.aload_n 0, 1) := by decide +kernel
theorem dX7_real_56 : decode cX7_real 56 = .ok (.getfield 16, 3) := by decide +kernel
theorem dX7_real_59 : decode cX7_real 59 = .ok (.bipush 16, 2) := by decide +kernel
theorem dX7_real_61 : decode cX7_real 61 = .ok (.iload_n 2, 1) := by decide +kernel
theorem dX7_real_62 : decode cX7_real 62 = .ok (.imul, 1) := by decide +kernel
theorem dX7_real_63 : decode cX7_real 63 = .ok (.iload 4, 2) := by decide +kernel
theorem dX7_real_65 : decode cX7_real 65 = .ok (.iadd, 1) := by decide +kernel
theorem dX7_real_66 : decode cX7_real 66 = .ok (.iaload, 1) := by decide +kernel
theorem dX7_real_67 : decode cX7_real 67 = .ok (.aload_n 0, 1) := by decide +kernel
theorem dX7_real_68 : decode cX7_real 68 = .ok (.getfield 16, 3) := by decide +kernel
theorem dX7_real_71 : decode cX7_real 71 = .ok (.bipush 16, 2) := by decide +kernel
theorem dX7_real_73 : decode cX7_real 73 = .ok (.iload_n 1, 1) := by decide +kernel
theorem dX7_real_74 : decode cX7_real 74 = .ok (.imul, 1) := by decide +kernel
theorem dX7_real_75 : decode cX7_real 75 = .ok (.iload 4, 2) := by decide +kernel
theorem dX7_real_77 : decode cX7_real 77 = .ok (.iadd, 1) := by decide +kernel
theorem dX7_real_78 : decode cX7_real 78 = .ok (.iaload, 1) := by decide +kernel
theorem dX7_real_79 : decode cX7_real 79 = .ok (.if_icmp .ne 7, 3) := by decide +kernel
theorem dX7_real_82 : decode cX7_real 82 = .ok (.iconst 1, 1) := by decide +kernel
theorem dX7_real_83 : decode cX7_real 83 = .ok (.goto 4, 3) := by decide +kernel
theorem dX7_real_86 : decode cX7_real 86 = .ok (.iconst 0, 1) := by decide +kernel
theorem dX7_real_87 : decode cX7_real 87 = .ok (.istore_n 3, 1) := by decide +kernel
theorem dX7_real_88 : decode cX7_real 88 = .ok (.iinc 4 1, 3) := by decide +kernel
theorem dX7_real_91 : decode cX7_real 91 = .ok (.goto (-51), 3) := by decide +kernel
theorem dX7_real_94 : decode cX7_real 94 = .ok (.iload_n 3, 1) := by decide +kernel
theorem dX7_real_95 : decode cX7_real 95 = .ok (.ifCond .eq 5, 3) := by decide +kernel
theorem dX7_real_98 : decode cX7_real 98 = .ok (.iload_n 2, 1) := by decide +kernel
theorem dX7_real_99 : decode cX7_real 99 = .ok (.ireturn, 1) := by decide +kernel
theorem dX7_real_100 : decode cX7_real 100 = .ok (.iinc 2 1, 3) := by decide +kernel
theorem dX7_real_103 : decode cX7_real 103 = .ok (.goto (-101), 3) := by decide +kernel
theorem dX7_real_106 : decode cX7_real 106 = .ok (.iload_n 1, 1) := by decide +kernel
theorem dX7_real_107 : decode cX7_real 107 = .ok (.ireturn, 1) := by decide +kernel
theorem dX7_fold_0 : decode cX7_fold 0 = .ok (.iload_n 0, 1) := by decide +kernel
theorem dX7_fold_1 : decode cX7_fold 1 = .ok (.sipush 192, 3) := by decide +kernel
theorem dX7_fold_4 : decode cX7_fold 4 = .ok (.if_icmp .ge 24, 3) := by decide +kernel
theorem dX7_fold_7 : decode cX7_fold 7 = .ok (.iload_n 0, 1) := by decide +kernel
theorem dX7_fold_8 : decode cX7_fold 8 = .ok (.bipush 65, 2) := by decide +kernel
theorem dX7_fold_10 : decode cX7_fold 10 = .ok (.if_icmp .lt 16, 3) := by decide +kernel
theorem dX7_fold_13 : decode cX7_fold 13 = .ok (.iload_n 0, 1) := by decide +kernel
theorem dX7_fold_14 : decode cX7_fold 14 = .ok (.bipush 90, 2) := by decide +kernel
theorem dX7_fold_16 : decode cX7_fold 16 = .ok (.if_icmp .gt 10, 3) := by decide +kernel
theorem dX7_fold_19 : decode cX7_fold 19 = .ok (.iload_n 0, 1) := by decide +kernel
theorem dX7_fold_20 : decode cX7_fold 20 = .ok (.bipush 32, 2) := by decide +kernel
theorem dX7_fold_22 : decode cX7_fold 22 = .ok (.iadd, 1) := by decide +kernel
theorem dX7_fold_23 : decode cX7_fold 23 = .ok (.goto 4, 3) := by decide +kernel
theorem dX7_fold_26 : decode cX7_fold 26 = .ok (.iload_n 0, 1) := by decide +kernel
theorem dX7_fold_27 : decode cX7_fold 27 = .ok (.ireturn, 1) := by decide +kernel
theorem dX7_fold_28 : decode cX7_fold 28 = .ok (.iload_n 0, 1) := by decide +kernel
theorem dX7_fold_29 : decode cX7_fold 29 = .ok (.sipush 223, 3) := by decide +kernel
theorem dX7_fold_32 : decode cX7_fold 32 = .ok (.if_icmp .ne 6, 3) := by decide +kernel
theorem dX7_fold_35 : decode cX7_fold 35 = .ok (.bipush 115, 2) := by decide +kernel
theorem dX7_fold_37 : decode cX7_fold 37 = .ok (.ireturn, 1) := by decide +kernel
theorem dX7_fold_38 : decode cX7_fold 38 = .ok (.iload_n 0, 1) := by decide +kernel
theorem dX7_fold_39 : decode cX7_fold 39 = .ok (.sipush 222, 3) := by decide +kernel
theorem dX7_fold_42 : decode cX7_fold 42 = .ok (.if_icmp .eq 10, 3) := by decide +kernel
theorem dX7_fold_45 : decode cX7_fold 45 = .ok (.iload_n 0, 1) := by decide +kernel
theorem dX7_fold_46 : decode cX7_fold 46 = .ok (.sipush 254, 3) := by decide +kernel
theorem dX7_fold_49 : decode cX7_fold 49 = .ok (.if_icmp .ne 6, 3) := by decide +kernel
theorem dX7_fold_52 : decode cX7_fold 52 = .ok (.bipush 116, 2) := by decide +kernel
theorem dX7_fold_54 : decode cX7_fold 54 = .ok (.ireturn, 1) := by decide +kernel
theorem dX7_fold_55 : decode cX7_fold 55 = .ok (.iload_n 0, 1) := by decide +kernel
theorem dX7_fold_56 : decode cX7_fold 56 = .ok (.sipush 224, 3) := by decide +kernel
theorem dX7_fold_59 : decode cX7_fold 59 = .ok (.if_icmp .ge 10, 3) := by decide +kernel
theorem dX7_fold_62 : decode cX7_fold 62 = .ok (.iload_n 0, 1) := by decide +kernel
theorem dX7_fold_63 : decode cX7_fold 63 = .ok (.bipush 32, 2) := by decide +kernel
theorem dX7_fold_65 : decode cX7_fold 65 = .ok (.iadd, 1) := by decide +kernel
theorem dX7_fold_66 : decode cX7_fold 66 = .ok (.goto 4, 3) := by decide +kernel
theorem dX7_fold_69 : decode cX7_fold 69 = .ok (.iload_n 0, 1) := by decide +kernel
theorem dX7_fold_70 : decode cX7_fold 70 = .ok (.istore_n 1, 1) := by decide +kernel
theorem dX7_fold_71 : decode cX7_fold 71 = .ok (.iload_n 1, 1) := by decide +kernel
theorem dX7_fold_72 : decode cX7_fold 72 = .ok (.sipush 232, 3) := by decide +kernel
theorem dX7_fold_75 : decode cX7_fold 75 = .ok (.if_icmp .ge 18, 3) := by decide +kernel
theorem dX7_fold_78 : decode cX7_fold 78 = .ok (.iload_n 1, 1) := by decide +kernel
theorem dX7_fold_79 : decode cX7_fold 79 = .ok (.sipush 231, 3) := by decide +kernel
theorem dX7_fold_82 : decode cX7_fold 82 = .ok (.if_icmp .ne 8, 3) := by decide +kernel
theorem dX7_fold_85 : decode cX7_fold 85 = .ok (.bipush 99, 2) := by decide +kernel
theorem dX7_fold_87 : decode cX7_fold 87 = .ok (.goto 5, 3) := by decide +kernel
theorem dX7_fold_90 : decode cX7_fold 90 = .ok (.bipush 97, 2) := by decide +kernel
theorem dX7_fold_92 : decode cX7_fold 92 = .ok (.ireturn, 1) := by decide +kernel
theorem dX7_fold_93 : decode cX7_fold 93 = .ok (.iload_n 1, 1) := by decide +kernel
theorem dX7_fold_94 : decode cX7_fold 94 = .ok (.sipush 240, 3) := by decide +kernel
theorem dX7_fold_97 : decode cX7_fold 97 = .ok (.if_icmp .ge 18, 3) := by decide +kernel
theorem dX7_fold_100 : decode cX7_fold 100 = .ok (.iload_n 1, 1) := by decide +kernel
theorem dX7_fold_101 : decode cX7_fold 101 = .ok (.sipush 236, 3) := by decide +kernel
theorem dX7_fold_104 : decode cX7_fold 104 = .ok (.if_icmp .ge 8, 3) := by decide +kernel
theorem dX7_fold_107 : decode cX7_fold 107 = .ok (.bipush 101, 2) := by decide +kernel
theorem dX7_fold_109 : decode cX7_fold 109 = .ok (.goto 5, 3) := by decide +kernel
theorem dX7_fold_112 : decode cX7_fold 112 = .ok (.bipush 105, 2) := by decide +kernel
theorem dX7_fold_114 : decode cX7_fold 114 = .ok (.ireturn, 1) := by decide +kernel
theorem dX7_fold_115 : decode cX7_fold 115 = .ok (.iload_n 1, 1) := by decide +kernel
theorem dX7_fold_116 : decode cX7_fold 116 = .ok (.sipush 249, 3) := by decide +kernel
theorem dX7_fold_119 : decode cX7_fold 119 = .ok (.if_icmp .ge 30, 3) := by decide +kernel
theorem dX7_fold_122 : decode cX7_fold 122 = .ok (.iload_n 1, 1) := by decide +kernel
theorem dX7_fold_123 : decode cX7_fold 123 = .ok (.sipush 240, 3) := by decide +kernel
theorem dX7_fold_126 : decode cX7_fold 126 = .ok (.if_icmp .ne 8, 3) := by decide +kernel
theorem dX7_fold_129 : decode cX7_fold 129 = .ok (.bipush 100, 2) := by decide +kernel
theorem dX7_fold_131 : decode cX7_fold 131 = .ok (.goto 17, 3) := by decide +kernel
theorem dX7_fold_134 : decode cX7_fold 134 = .ok (.iload_n 1, 1) := by decide +kernel
theorem dX7_fold_135 : decode cX7_fold 135 = .ok (.sipush 241, 3) := by decide +kernel
theorem dX7_fold_138 : decode cX7_fold 138 = .ok (.if_icmp .ne 8, 3) := by decide +kernel
theorem dX7_fold_141 : decode cX7_fold 141 = .ok (.bipush 110, 2) := by decide +kernel
theorem dX7_fold_143 : decode cX7_fold 143 = .ok (.goto 5, 3) := by decide +kernel
theorem dX7_fold_146 : decode cX7_fold 146 = .ok (.bipush 111, 2) := by decide +kernel
theorem dX7_fold_148 : decode cX7_fold 148 = .ok (.ireturn, 1) := by decide +kernel
theorem dX7_fold_149 : decode cX7_fold 149 = .ok (.iload_n 1, 1) := by decide +kernel
theorem dX7_fold_150 : decode cX7_fold 150 = .ok (.sipush 253, 3) := by decide +kernel
theorem dX7_fold_153 : decode cX7_fold 153 = .ok (.if_icmp .ge 8, 3) := by decide +kernel
theorem dX7_fold_156 : decode cX7_fold 156 = .ok (.bipush 117, 2) := by decide +kernel
theorem dX7_fold_158 : decode cX7_fold 158 = .ok (.goto 5, 3) := by decide +kernel
theorem dX7_fold_161 : decode cX7_fold 161 = .ok (.bipush 121, 2) := by decide +kernel
theorem dX7_fold_163 : decode cX7_fold 163 = .ok (.ireturn, 1) := by decide +kernel
theorem dX7_isSmall_0 : decode cX7_isSmall 0 = .ok (.iload_n 0, 1) := by decide +kernel
theorem dX7_isSmall_1 : decode cX7_isSmall 1 = .ok (.bipush 97, 2) := by decide +kernel
theorem dX7_isSmall_3 : decode cX7_isSmall 3 = .ok (.if_icmp .lt 9, 3) := by decide +kernel
theorem dX7_isSmall_6 : decode cX7_isSmall 6 = .ok (.iload_n 0, 1) := by decide +kernel
theorem dX7_isSmall_7 : decode cX7_isSmall 7 = .ok (.bipush 122, 2) := by decide +kernel
theorem dX7_isSmall_9 : decode cX7_isSmall 9 = .ok (.if_icmp .le 10, 3) := by decide +kernel
theorem dX7_isSmall_12 : decode cX7_isSmall 12 = .ok (.iload_n 0, 1) := by decide +kernel
theorem dX7_isSmall_13 : decode cX7_isSmall 13 = .ok (.sipush 222, 3) := by decide +kernel
theorem dX7_isSmall_16 : decode cX7_isSmall 16 = .ok (.if_icmp .le 7, 3) := by decide +kernel
theorem dX7_isSmall_19 : decode cX7_isSmall 19 = .ok (.iconst 1, 1) := by decide +kernel
theorem dX7_isSmall_20 : decode cX7_isSmall 20 = .ok (.goto 4, 3) := by decide +kernel
theorem dX7_isSmall_23 : decode cX7_isSmall 23 = .ok (.iconst 0, 1) := by decide +kernel
theorem dX7_isSmall_24 : decode cX7_isSmall 24 = .ok (.ireturn, 1) := by decide +kernel
theorem dX7_startsSmall_0 : decode cX7_startsSmall 0 = .ok (.aload_n 0, 1) := by decide +kernel
theorem dX7_startsSmall_1 : decode cX7_startsSmall 1 = .ok (.getfield 31, 3) := by decide +kernel
theorem dX7_startsSmall_4 : decode cX7_startsSmall 4 = .ok (.aload_n 0, 1) := by decide +kernel
theorem dX7_startsSmall_5 : decode cX7_startsSmall 5 = .ok (.getfield 37, 3) := by decide +kernel
theorem dX7_startsSmall_8 : decode cX7_startsSmall 8 = .ok (.iload_n 1, 1) := by decide +kernel
theorem dX7_startsSmall_9 : decode cX7_startsSmall 9 = .ok (.iaload, 1) := by decide +kernel
theorem dX7_startsSmall_10 : decode cX7_startsSmall 10 = .ok (.iaload, 1) := by decide +kernel
theorem dX7_startsSmall_11 : decode cX7_startsSmall 11 = .ok (.invokestatic 119, 3) := by decide +kernel
theorem dX7_startsSmall_14 : decode cX7_startsSmall 14 = .ok (.ireturn, 1) := by decide +kernel
theorem dX7_addWord_0 : decode cX7_addWord 0 = .ok (.bipush 64, 2) := by decide +kernel
theorem dX7_addWord_2 : decode cX7_addWord 2 = .ok (.iload_n 1, 1) := by decide +kernel
theorem dX7_addWord_3 : decode cX7_addWord 3 = .ok (.imul, 1) := by decide +kernel
theorem dX7_addWord_4 : decode cX7_addWord 4 = .ok (.aload_n 0, 1) := by decide +kernel
theorem dX7_addWord_5 : decode cX7_addWord 5 = .ok (.getfield 34, 3) := by decide +kernel
theorem dX7_addWord_8 : decode cX7_addWord 8 = .ok (.iload_n 1, 1) := by decide +kernel
theorem dX7_addWord_9 : decode cX7_addWord 9 = .ok (.iaload, 1) := by decide +kernel
theorem dX7_addWord_10 : decode cX7_addWord 10 = .ok (.iadd, 1) := by decide +kernel
theorem dX7_addWord_11 : decode cX7_addWord 11 = .ok (.istore 4, 2) := by decide +kernel
theorem dX7_addWord_13 : decode cX7_addWord 13 = .ok (.aload_n 0, 1) := by decide +kernel
theorem dX7_addWord_14 : decode cX7_addWord 14 = .ok (.getfield 37, 3) := by decide +kernel
theorem dX7_addWord_17 : decode cX7_addWord 17 = .ok (.iload 4, 2) := by decide +kernel
theorem dX7_addWord_19 : decode cX7_addWord 19 = .ok (.iload_n 2, 1) := by decide +kernel
theorem dX7_addWord_20 : decode cX7_addWord 20 = .ok (.iastore, 1) := by decide +kernel
theorem dX7_addWord_21 : decode cX7_addWord 21 = .ok (.aload_n 0, 1) := by decide +kernel
theorem dX7_addWord_22 : decode cX7_addWord 22 = .ok (.getfield 40, 3) := by decide +kernel
theorem dX7_addWord_25 : decode cX7_addWord 25 = .ok (.iload 4, 2) := by decide +kernel
theorem dX7_addWord_27 : decode cX7_addWord 27 = .ok (.iload_n 3, 1) := by decide +kernel
theorem dX7_addWord_28 : decode cX7_addWord 28 = .ok (.iastore, 1) := by decide +kernel
theorem dX7_addWord_29 : decode cX7_addWord 29 = .ok (.aload_n 0, 1) := by decide +kernel
theorem dX7_addWord_30 : decode cX7_addWord 30 = .ok (.getfield 43, 3) := by decide +kernel
theorem dX7_addWord_33 : decode cX7_addWord 33 = .ok (.iload 4, 2) := by decide +kernel
theorem dX7_addWord_35 : decode cX7_addWord 35 = .ok (.aload_n 0, 1) := by decide +kernel
theorem dX7_addWord_36 : decode cX7_addWord 36 = .ok (.getfield 49, 3) := by decide +kernel
theorem dX7_addWord_39 : decode cX7_addWord 39 = .ok (.iload_n 1, 1) := by decide +kernel
theorem dX7_addWord_40 : decode cX7_addWord 40 = .ok (.iaload, 1) := by decide +kernel
theorem dX7_addWord_41 : decode cX7_addWord 41 = .ok (.iastore, 1) := by decide +kernel
theorem dX7_addWord_42 : decode cX7_addWord 42 = .ok (.aload_n 0, 1) := by decide +kernel
theorem dX7_addWord_43 : decode cX7_addWord 43 = .ok (.getfield 34, 3) := by decide +kernel
theorem dX7_addWord_46 : decode cX7_addWord 46 = .ok (.iload_n 1, 1) := by decide +kernel
theorem dX7_addWord_47 : decode cX7_addWord 47 = .ok (.dup2, 1) := by decide +kernel
theorem dX7_addWord_48 : decode cX7_addWord 48 = .ok (.iaload, 1) := by decide +kernel
theorem dX7_addWord_49 : decode cX7_addWord 49 = .ok (.iconst 1, 1) := by decide +kernel
theorem dX7_addWord_50 : decode cX7_addWord 50 = .ok (.iadd, 1) := by decide +kernel
theorem dX7_addWord_51 : decode cX7_addWord 51 = .ok (.iastore, 1) := by decide +kernel
theorem dX7_addWord_52 : decode cX7_addWord 52 = .ok (.return_, 1) := by decide +kernel
theorem dX7_endPerson_0 : decode cX7_endPerson 0 = .ok (.aload_n 0, 1) := by decide +kernel
theorem dX7_endPerson_1 : decode cX7_endPerson 1 = .ok (.getfield 34, 3) := by decide +kernel
theorem dX7_endPerson_4 : decode cX7_endPerson 4 = .ok (.iload_n 1, 1) := by decide +kernel
theorem dX7_endPerson_5 : decode cX7_endPerson 5 = .ok (.iaload, 1) := by decide +kernel
theorem dX7_endPerson_6 : decode cX7_endPerson 6 = .ok (.iload_n 2, 1) := by decide +kernel
theorem dX7_endPerson_7 : decode cX7_endPerson 7 = .ok (.isub, 1) := by decide +kernel
theorem dX7_endPerson_8 : decode cX7_endPerson 8 = .ok (.istore 4, 2) := by decide +kernel
theorem dX7_endPerson_10 : decode cX7_endPerson 10 = .ok (.iload 4, 2) := by decide +kernel
theorem dX7_endPerson_12 : decode cX7_endPerson 12 = .ok (.ifCond .ne 4, 3) := by decide +kernel
theorem dX7_endPerson_15 : decode cX7_endPerson 15 = .ok (.return_, 1) := by decide +kernel
theorem dX7_endPerson_16 : decode cX7_endPerson 16 = .ok (.bipush 64, 2) := by decide +kernel
theorem dX7_endPerson_18 : decode cX7_endPerson 18 = .ok (.iload_n 1, 1) := by decide +kernel
theorem dX7_endPerson_19 : decode cX7_endPerson 19 = .ok (.imul, 1) := by decide +kernel
theorem dX7_endPerson_20 : decode cX7_endPerson 20 = .ok (.iload_n 2, 1) := by decide +kernel
theorem dX7_endPerson_21 : decode cX7_endPerson 21 = .ok (.iadd, 1) := by decide +kernel
theorem dX7_endPerson_22 : decode cX7_endPerson 22 = .ok (.istore 5, 2) := by decide +kernel
theorem dX7_endPerson_24 : decode cX7_endPerson 24 = .ok (.iload 4, 2) := by decide +kernel
theorem dX7_endPerson_26 : decode cX7_endPerson 26 = .ok (.iconst 1, 1) := by decide +kernel
theorem dX7_endPerson_27 : decode cX7_endPerson 27 = .ok (.isub, 1) := by decide +kernel
theorem dX7_endPerson_28 : decode cX7_endPerson 28 = .ok (.istore 6, 2) := by decide +kernel
theorem dX7_endPerson_30 : decode cX7_endPerson 30 = .ok (.iload 4, 2) := by decide +kernel
theorem dX7_endPerson_32 : decode cX7_endPerson 32 = .ok (.iconst 1, 1) := by decide +kernel
theorem dX7_endPerson_33 : decode cX7_endPerson 33 = .ok (.isub, 1) := by decide +kernel
theorem dX7_endPerson_34 : decode cX7_endPerson 34 = .ok (.istore 7, 2) := by decide +kernel
theorem dX7_endPerson_36 : decode cX7_endPerson 36 = .ok (.iload_n 3, 1) := by decide +kernel
theorem dX7_endPerson_37 : decode cX7_endPerson 37 = .ok (.iconst (-1), 1) := by decide +kernel
theorem dX7_endPerson_38 : decode cX7_endPerson 38 = .ok (.if_icmp .ne 111, 3) := by decide +kernel
theorem dX7_endPerson_41 : decode cX7_endPerson 41 = .ok (.iconst 0, 1) := by decide +kernel
theorem dX7_endPerson_42 : decode cX7_endPerson 42 = .ok (.istore 8, 2) := by decide +kernel
theorem dX7_endPerson_44 : decode cX7_endPerson 44 = .ok (.iconst 0, 1) := by decide +kernel
theorem dX7_endPerson_45 : decode cX7_endPerson 45 = .ok (.istore 9, 2) := by decide +kernel
theorem dX7_endPerson_47 : decode cX7_endPerson 47 = .ok (.iload 9, 2) := by decide +kernel
theorem dX7_endPerson_49 : decode cX7_endPerson 49 = .ok (.iload 4, 2) := by decide +kernel
theorem dX7_endPerson_51 : decode cX7_endPerson 51 = .ok (.iconst 1, 1) := by decide +kernel
theorem dX7_endPerson_52 : decode cX7_endPerson 52 = .ok (.isub, 1) := by decide +kernel
theorem dX7_endPerson_53 : decode cX7_endPerson 53 = .ok (.if_icmp .ge 44, 3) := by decide +kernel
theorem dX7_endPerson_56 : decode cX7_endPerson 56 = .ok (.aload_n 0, 1) := by decide +kernel
theorem dX7_endPerson_57 : decode cX7_endPerson 57 = .ok (.iload 5, 2) := by decide +kernel
theorem dX7_endPerson_59 : decode cX7_endPerson 59 = .ok (.iload 9, 2) := by decide +kernel
theorem dX7_endPerson_61 : decode cX7_endPerson 61 = .ok (.iadd, 1) := by decide +kernel
theorem dX7_endPerson_62 : decode cX7_endPerson 62 = .ok (.invokevirtual 122, 3) := by decide +kernel
theorem dX7_endPerson_65 : decode cX7_endPerson 65 = .ok (.ifCond .eq 26, 3) := by decide +kernel
theorem dX7_endPerson_68 : decode cX7_endPerson 68 = .ok (.iload 8, 2) := by decide +kernel
theorem dX7_endPerson_70 : decode cX7_endPerson 70 = .ok (.ifCond .eq 8, 3) := by decide +kernel
theorem dX7_endPerson_73 : decode cX7_endPerson 73 = .ok (.iload 6, 2) := by decide +kernel
theorem dX7_endPerson_75 : decode cX7_endPerson 75 = .ok (.goto 5, 3) := by decide +kernel
theorem dX7_endPerson_78 : decode cX7_endPerson 78 = .ok (.iload 9, 2) := by decide +kernel
theorem dX7_endPerson_80 : decode cX7_endPerson 80 = .ok (.istore 6, 2) := by decide +kernel
theorem dX7_endPerson_82 : decode cX7_endPerson 82 = .ok (.iload 9, 2) := by decide +kernel
theorem dX7_endPerson_84 : decode cX7_endPerson 84 = .ok (.iconst 1, 1) := by decide +kernel
theorem dX7_endPerson_85 : decode cX7_endPerson 85 = .ok (.iadd, 1) := by decide +kernel
theorem dX7_endPerson_86 : decode cX7_endPerson 86 = .ok (.istore 7, 2) := by decide +kernel
theorem dX7_endPerson_88 : decode cX7_endPerson 88 = .ok (.iconst 1, 1) := by decide +kernel
theorem dX7_endPerson_89 : decode cX7_endPerson 89 = .ok (.istore 8, 2) := by decide +kernel
theorem dX7_endPerson_91 : decode cX7_endPerson 91 = .ok (.iinc 9 1, 3) := by decide +kernel
theorem dX7_endPerson_94 : decode cX7_endPerson 94 = .ok (.goto (-47), 3) := by decide +kernel
theorem dX7_endPerson_97 : decode cX7_endPerson 97 = .ok (.iconst 0, 1) := by decide +kernel
theorem dX7_endPerson_98 : decode cX7_endPerson 98 = .ok (.istore 9, 2) := by decide +kernel
theorem dX7_endPerson_100 : decode cX7_endPerson 100 = .ok (.iload 9, 2) := by decide +kernel
theorem dX7_endPerson_102 : decode cX7_endPerson 102 = .ok (.iload 4, 2) := by decide +kernel
theorem dX7_endPerson_104 : decode cX7_endPerson 104 = .ok (.if_icmp .ge 42, 3) := by decide +kernel
theorem dX7_endPerson_107 : decode cX7_endPerson 107 = .ok (.aload_n 0, 1) := by decide +kernel
theorem dX7_endPerson_108 : decode cX7_endPerson 108 = .ok (.getfield 46, 3) := by decide +kernel
theorem dX7_endPerson_111 : decode cX7_endPerson 111 = .ok (.iload 5, 2) := by decide +kernel
theorem dX7_endPerson_113 : decode cX7_endPerson 113 = .ok (.iload 9, 2) := by decide +kernel
theorem dX7_endPerson_115 : decode cX7_endPerson 115 = .ok (.iadd, 1) := by decide +kernel
theorem dX7_endPerson_116 : decode cX7_endPerson 116 = .ok (.iload 9, 2) := by decide +kernel
theorem dX7_endPerson_118 : decode cX7_endPerson 118 = .ok (.iload 6, 2) := by decide +kernel
theorem dX7_endPerson_120 : decode cX7_endPerson 120 = .ok (.if_icmp .ge 7, 3) := by decide +kernel
theorem dX7_endPerson_123 : decode cX7_endPerson 123 = .ok (.iconst 0, 1) := by decide +kernel
theorem dX7_endPerson_124 : decode cX7_endPerson 124 = .ok (.goto 15, 3) := by decide +kernel
theorem dX7_endPerson_127 : decode cX7_endPerson 127 = .ok (.iload 9, 2) := by decide +kernel
theorem dX7_endPerson_129 : decode cX7_endPerson 129 = .ok (.iload 7, 2) := by decide +kernel
theorem dX7_endPerson_131 : decode cX7_endPerson 131 = .ok (.if_icmp .ge 7, 3) := by decide +kernel
theorem dX7_endPerson_134 : decode cX7_endPerson 134 = .ok (.iconst 1, 1) := by decide +kernel
theorem dX7_endPerson_135 : decode cX7_endPerson 135 = .ok (.goto 4, 3) := by decide +kernel
theorem dX7_endPerson_138 : decode cX7_endPerson 138 = .ok (.iconst 2, 1) := by decide +kernel
theorem dX7_endPerson_139 : decode cX7_endPerson 139 = .ok (.iastore, 1) := by decide +kernel
theorem dX7_endPerson_140 : decode cX7_endPerson 140 = .ok (.iinc 9 1, 3) := by decide +kernel
theorem dX7_endPerson_143 : decode cX7_endPerson 143 = .ok (.goto (-43), 3) := by decide +kernel
theorem dX7_endPerson_146 : decode cX7_endPerson 146 = .ok (.goto 77, 3) := by decide +kernel
theorem dX7_endPerson_149 : decode cX7_endPerson 149 = .ok (.iconst 0, 1) := by decide +kernel
theorem dX7_endPerson_150 : decode cX7_endPerson 150 = .ok (.istore 8, 2) := by decide +kernel
theorem dX7_endPerson_152 : decode cX7_endPerson 152 = .ok (.iload 8, 2) := by decide +kernel
theorem dX7_endPerson_154 : decode cX7_endPerson 154 = .ok (.iconst 1, 1) := by decide +kernel
theorem dX7_endPerson_155 : decode cX7_endPerson 155 = .ok (.iadd, 1) := by decide +kernel
theorem dX7_endPerson_156 : decode cX7_endPerson 156 = .ok (.iload_n 3, 1) := by decide +kernel
theorem dX7_endPerson_157 : decode cX7_endPerson 157 = .ok (.if_icmp .ge 32, 3) := by decide +kernel
theorem dX7_endPerson_160 : decode cX7_endPerson 160 = .ok (.aload_n 0, 1) := by decide +kernel
theorem dX7_endPerson_161 : decode cX7_endPerson 161 = .ok (.iload 5, 2) := by decide +kernel
theorem dX7_endPerson_163 : decode cX7_endPerson 163 = .ok (.iload 8, 2) := by decide +kernel
theorem dX7_endPerson_165 : decode cX7_endPerson 165 = .ok (.iadd, 1) := by decide +kernel
theorem dX7_endPerson_166 : decode cX7_endPerson 166 = .ok (.invokevirtual 122, 3) := by decide +kernel
theorem dX7_endPerson_169 : decode cX7_endPerson 169 = .ok (.ifCond .eq 20, 3) := by decide +kernel
theorem dX7_endPerson_172 : decode cX7_endPerson 172 = .ok (.aload_n 0, 1) := by decide +kernel
theorem dX7_endPerson_173 : decode cX7_endPerson 173 = .ok (.getfield 46, 3) := by decide +kernel
theorem dX7_endPerson_176 : decode cX7_endPerson 176 = .ok (.iload 5, 2) := by decide +kernel
theorem dX7_endPerson_178 : decode cX7_endPerson 178 = .ok (.iload 8, 2) := by decide +kernel
theorem dX7_endPerson_180 : decode cX7_endPerson 180 = .ok (.iadd, 1) := by decide +kernel
theorem dX7_endPerson_181 : decode cX7_endPerson 181 = .ok (.iconst 1, 1) := by decide +kernel
theorem dX7_endPerson_182 : decode cX7_endPerson 182 = .ok (.iastore, 1) := by decide +kernel
theorem dX7_endPerson_183 : decode cX7_endPerson 183 = .ok (.iinc 8 1, 3) := by decide +kernel
theorem dX7_endPerson_186 : decode cX7_endPerson 186 = .ok (.goto (-34), 3) := by decide +kernel
theorem dX7_endPerson_189 : decode cX7_endPerson 189 = .ok (.iload 8, 2) := by decide +kernel
theorem dX7_endPerson_191 : decode cX7_endPerson 191 = .ok (.iload 4, 2) := by decide +kernel
theorem dX7_endPerson_193 : decode cX7_endPerson 193 = .ok (.if_icmp .ge 30, 3) := by decide +kernel
theorem dX7_endPerson_196 : decode cX7_endPerson 196 = .ok (.aload_n 0, 1) := by decide +kernel
theorem dX7_endPerson_197 : decode cX7_endPerson 197 = .ok (.getfield 46, 3) := by decide +kernel
theorem dX7_endPerson_200 : decode cX7_endPerson 200 = .ok (.iload 5, 2) := by decide +kernel
theorem dX7_endPerson_202 : decode cX7_endPerson 202 = .ok (.iload 8, 2) := by decide +kernel
theorem dX7_endPerson_204 : decode cX7_endPerson 204 = .ok (.iadd, 1) := by decide +kernel
theorem dX7_endPerson_205 : decode cX7_endPerson 205 = .ok (.iload 8, 2) := by decide +kernel
