/-! THE LAW: names, decode rows, words -/
def RL : String := "CiteListsLaw"
def yL_entry : MethodName := ⟨RL, "entry", "(LCiteLists;I[J)I"⟩
def yL_key : MethodName := ⟨RL, "key", "(LCiteLists;II)I"⟩
def yL_field : MethodName := ⟨RL, "field", "(LCiteLists;III)I"⟩
def yL_cite : MethodName := ⟨RL, "cite", "(LCiteLists;I[J)I"⟩
def yL_cross : MethodName := ⟨RL, "cross", "(LCiteLists;II[J)I"⟩
def yL_style : MethodName := ⟨RL, "style", "(LCiteLists;II[J)I"⟩
def yL_row : MethodName := ⟨RL, "row", "(LCiteLists;I[J)I"⟩
def yL_letter : MethodName := ⟨RL, "letter", "(LCiteLists;I[J)I"⟩
def yL_initials : MethodName := ⟨RL, "initials", "(LCiteLists;III[J)I"⟩
def yL_missing : MethodName := ⟨RL, "missing", "(LCiteLists;II[J)I"⟩
def yL_print : MethodName := ⟨RL, "print", "(LCiteLists;I[J)I"⟩
def yL_at : MethodName := ⟨RL, "at", "(LCiteLists;I[J)I"⟩
def yL_twice : MethodName := ⟨RL, "twice", "(LCiteLists;I[J)I"⟩
theorem dL_entry_0 : decode method_3_code 0 = .ok (.aload_n 2, 1) := by decide +kernel
theorem dL_entry_1 : decode method_3_code 1 = .ok (.iconst 0, 1) := by decide +kernel
theorem dL_entry_2 : decode method_3_code 2 = .ok (.aload_n 0, 1) := by decide +kernel
theorem dL_entry_3 : decode method_3_code 3 = .ok (.iload_n 1, 1) := by decide +kernel
theorem dL_entry_4 : decode method_3_code 4 = .ok (.invokevirtual 7, 3) := by decide +kernel
theorem dL_entry_7 : decode method_3_code 7 = .ok (.i2l, 1) := by decide +kernel
theorem dL_entry_8 : decode method_3_code 8 = .ok (.lastore, 1) := by decide +kernel
theorem dL_entry_9 : decode method_3_code 9 = .ok (.goto 6, 3) := by decide +kernel
theorem dL_entry_12 : decode method_3_code 12 = .ok (.astore_n 3, 1) := by decide +kernel
theorem dL_entry_13 : decode method_3_code 13 = .ok (.iconst 1, 1) := by decide +kernel
theorem dL_entry_14 : decode method_3_code 14 = .ok (.ireturn, 1) := by decide +kernel
theorem dL_entry_15 : decode method_3_code 15 = .ok (.iconst 0, 1) := by decide +kernel
theorem dL_entry_16 : decode method_3_code 16 = .ok (.ireturn, 1) := by decide +kernel
theorem dL_key_0 : decode method_4_code 0 = .ok (.aload_n 0, 1) := by decide +kernel
theorem dL_key_1 : decode method_4_code 1 = .ok (.iload_n 1, 1) := by decide +kernel
theorem dL_key_2 : decode method_4_code 2 = .ok (.iload_n 2, 1) := by decide +kernel
theorem dL_key_3 : decode method_4_code 3 = .ok (.invokevirtual 15, 3) := by decide +kernel
theorem dL_key_6 : decode method_4_code 6 = .ok (.goto 12, 3) := by decide +kernel
theorem dL_key_9 : decode method_4_code 9 = .ok (.astore_n 3, 1) := by decide +kernel
theorem dL_key_10 : decode method_4_code 10 = .ok (.iconst 1, 1) := by decide +kernel
theorem dL_key_11 : decode method_4_code 11 = .ok (.ireturn, 1) := by decide +kernel
theorem dL_key_12 : decode method_4_code 12 = .ok (.astore_n 3, 1) := by decide +kernel
theorem dL_key_13 : decode method_4_code 13 = .ok (.iconst 2, 1) := by decide +kernel
theorem dL_key_14 : decode method_4_code 14 = .ok (.ireturn, 1) := by decide +kernel
theorem dL_key_15 : decode method_4_code 15 = .ok (.astore_n 3, 1) := by decide +kernel
theorem dL_key_16 : decode method_4_code 16 = .ok (.iconst 3, 1) := by decide +kernel
theorem dL_key_17 : decode method_4_code 17 = .ok (.ireturn, 1) := by decide +kernel
theorem dL_key_18 : decode method_4_code 18 = .ok (.iconst 0, 1) := by decide +kernel
theorem dL_key_19 : decode method_4_code 19 = .ok (.ireturn, 1) := by decide +kernel
theorem dL_field_0 : decode method_5_code 0 = .ok (.aload_n 0, 1) := by decide +kernel
theorem dL_field_1 : decode method_5_code 1 = .ok (.iload_n 1, 1) := by decide +kernel
theorem dL_field_2 : decode method_5_code 2 = .ok (.iload_n 2, 1) := by decide +kernel
theorem dL_field_3 : decode method_5_code 3 = .ok (.iload_n 3, 1) := by decide +kernel
theorem dL_field_4 : decode method_5_code 4 = .ok (.invokevirtual 23, 3) := by decide +kernel
theorem dL_field_7 : decode method_5_code 7 = .ok (.goto 19, 3) := by decide +kernel
theorem dL_field_10 : decode method_5_code 10 = .ok (.astore 4, 2) := by decide +kernel
theorem dL_field_12 : decode method_5_code 12 = .ok (.iconst 1, 1) := by decide +kernel
theorem dL_field_13 : decode method_5_code 13 = .ok (.ireturn, 1) := by decide +kernel
theorem dL_field_14 : decode method_5_code 14 = .ok (.astore 4, 2) := by decide +kernel
theorem dL_field_16 : decode method_5_code 16 = .ok (.iconst 2, 1) := by decide +kernel
theorem dL_field_17 : decode method_5_code 17 = .ok (.ireturn, 1) := by decide +kernel
theorem dL_field_18 : decode method_5_code 18 = .ok (.astore 4, 2) := by decide +kernel
theorem dL_field_20 : decode method_5_code 20 = .ok (.iconst 3, 1) := by decide +kernel
theorem dL_field_21 : decode method_5_code 21 = .ok (.ireturn, 1) := by decide +kernel
theorem dL_field_22 : decode method_5_code 22 = .ok (.astore 4, 2) := by decide +kernel
theorem dL_field_24 : decode method_5_code 24 = .ok (.iconst 4, 1) := by decide +kernel
theorem dL_field_25 : decode method_5_code 25 = .ok (.ireturn, 1) := by decide +kernel
theorem dL_field_26 : decode method_5_code 26 = .ok (.iconst 0, 1) := by decide +kernel
theorem dL_field_27 : decode method_5_code 27 = .ok (.ireturn, 1) := by decide +kernel
theorem dL_cite_0 : decode method_6_code 0 = .ok (.aload_n 2, 1) := by decide +kernel
theorem dL_cite_1 : decode method_6_code 1 = .ok (.iconst 0, 1) := by decide +kernel
theorem dL_cite_2 : decode method_6_code 2 = .ok (.aload_n 0, 1) := by decide +kernel
theorem dL_cite_3 : decode method_6_code 3 = .ok (.iload_n 1, 1) := by decide +kernel
theorem dL_cite_4 : decode method_6_code 4 = .ok (.invokevirtual 29, 3) := by decide +kernel
theorem dL_cite_7 : decode method_6_code 7 = .ok (.i2l, 1) := by decide +kernel
theorem dL_cite_8 : decode method_6_code 8 = .ok (.lastore, 1) := by decide +kernel
theorem dL_cite_9 : decode method_6_code 9 = .ok (.goto 9, 3) := by decide +kernel
theorem dL_cite_12 : decode method_6_code 12 = .ok (.astore_n 3, 1) := by decide +kernel
theorem dL_cite_13 : decode method_6_code 13 = .ok (.iconst 1, 1) := by decide +kernel
theorem dL_cite_14 : decode method_6_code 14 = .ok (.ireturn, 1) := by decide +kernel
theorem dL_cite_15 : decode method_6_code 15 = .ok (.astore_n 3, 1) := by decide +kernel
theorem dL_cite_16 : decode method_6_code 16 = .ok (.iconst 2, 1) := by decide +kernel
theorem dL_cite_17 : decode method_6_code 17 = .ok (.ireturn, 1) := by decide +kernel
theorem dL_cite_18 : decode method_6_code 18 = .ok (.iconst 0, 1) := by decide +kernel
theorem dL_cite_19 : decode method_6_code 19 = .ok (.ireturn, 1) := by decide +kernel
theorem dL_cross_0 : decode method_7_code 0 = .ok (.aload_n 3, 1) := by decide +kernel
theorem dL_cross_1 : decode method_7_code 1 = .ok (.iconst 0, 1) := by decide +kernel
theorem dL_cross_2 : decode method_7_code 2 = .ok (.aload_n 0, 1) := by decide +kernel
theorem dL_cross_3 : decode method_7_code 3 = .ok (.iload_n 1, 1) := by decide +kernel
theorem dL_cross_4 : decode method_7_code 4 = .ok (.iload_n 2, 1) := by decide +kernel
theorem dL_cross_5 : decode method_7_code 5 = .ok (.invokevirtual 32, 3) := by decide +kernel
theorem dL_cross_8 : decode method_7_code 8 = .ok (.i2l, 1) := by decide +kernel
theorem dL_cross_9 : decode method_7_code 9 = .ok (.lastore, 1) := by decide +kernel
theorem dL_cross_10 : decode method_7_code 10 = .ok (.goto 7, 3) := by decide +kernel
theorem dL_cross_13 : decode method_7_code 13 = .ok (.astore 4, 2) := by decide +kernel
theorem dL_cross_15 : decode method_7_code 15 = .ok (.iconst 1, 1) := by decide +kernel
theorem dL_cross_16 : decode method_7_code 16 = .ok (.ireturn, 1) := by decide +kernel
theorem dL_cross_17 : decode method_7_code 17 = .ok (.iconst 0, 1) := by decide +kernel
theorem dL_cross_18 : decode method_7_code 18 = .ok (.ireturn, 1) := by decide +kernel
theorem dL_style_0 : decode method_8_code 0 = .ok (.aload_n 3, 1) := by decide +kernel
theorem dL_style_1 : decode method_8_code 1 = .ok (.iconst 0, 1) := by decide +kernel
theorem dL_style_2 : decode method_8_code 2 = .ok (.aload_n 0, 1) := by decide +kernel
theorem dL_style_3 : decode method_8_code 3 = .ok (.iload_n 1, 1) := by decide +kernel
theorem dL_style_4 : decode method_8_code 4 = .ok (.iload_n 2, 1) := by decide +kernel
theorem dL_style_5 : decode method_8_code 5 = .ok (.invokevirtual 36, 3) := by decide +kernel
theorem dL_style_8 : decode method_8_code 8 = .ok (.i2l, 1) := by decide +kernel
theorem dL_style_9 : decode method_8_code 9 = .ok (.lastore, 1) := by decide +kernel
theorem dL_style_10 : decode method_8_code 10 = .ok (.goto 7, 3) := by decide +kernel
theorem dL_style_13 : decode method_8_code 13 = .ok (.astore 4, 2) := by decide +kernel
theorem dL_style_15 : decode method_8_code 15 = .ok (.iconst 1, 1) := by decide +kernel
theorem dL_style_16 : decode method_8_code 16 = .ok (.ireturn, 1) := by decide +kernel
theorem dL_style_17 : decode method_8_code 17 = .ok (.iconst 0, 1) := by decide +kernel
theorem dL_style_18 : decode method_8_code 18 = .ok (.ireturn, 1) := by decide +kernel
theorem dL_row_0 : decode method_9_code 0 = .ok (.aload_n 2, 1) := by decide +kernel
theorem dL_row_1 : decode method_9_code 1 = .ok (.iconst 0, 1) := by decide +kernel
theorem dL_row_2 : decode method_9_code 2 = .ok (.aload_n 0, 1) := by decide +kernel
theorem dL_row_3 : decode method_9_code 3 = .ok (.iload_n 1, 1) := by decide +kernel
theorem dL_row_4 : decode method_9_code 4 = .ok (.invokevirtual 39, 3) := by decide +kernel
theorem dL_row_7 : decode method_9_code 7 = .ok (.i2l, 1) := by decide +kernel
theorem dL_row_8 : decode method_9_code 8 = .ok (.lastore, 1) := by decide +kernel
theorem dL_row_9 : decode method_9_code 9 = .ok (.goto 6, 3) := by decide +kernel
theorem dL_row_12 : decode method_9_code 12 = .ok (.astore_n 3, 1) := by decide +kernel
theorem dL_row_13 : decode method_9_code 13 = .ok (.iconst 1, 1) := by decide +kernel
theorem dL_row_14 : decode method_9_code 14 = .ok (.ireturn, 1) := by decide +kernel
theorem dL_row_15 : decode method_9_code 15 = .ok (.iconst 0, 1) := by decide +kernel
theorem dL_row_16 : decode method_9_code 16 = .ok (.ireturn, 1) := by decide +kernel
theorem dL_letter_0 : decode method_10_code 0 = .ok (.aload_n 2, 1) := by decide +kernel
theorem dL_letter_1 : decode method_10_code 1 = .ok (.iconst 0, 1) := by decide +kernel
theorem dL_letter_2 : decode method_10_code 2 = .ok (.aload_n 0, 1) := by decide +kernel
theorem dL_letter_3 : decode method_10_code 3 = .ok (.iload_n 1, 1) := by decide +kernel
theorem dL_letter_4 : decode method_10_code 4 = .ok (.invokevirtual 42, 3) := by decide +kernel
theorem dL_letter_7 : decode method_10_code 7 = .ok (.i2l, 1) := by decide +kernel
theorem dL_letter_8 : decode method_10_code 8 = .ok (.lastore, 1) := by decide +kernel
theorem dL_letter_9 : decode method_10_code 9 = .ok (.goto 6, 3) := by decide +kernel
theorem dL_letter_12 : decode method_10_code 12 = .ok (.astore_n 3, 1) := by decide +kernel
theorem dL_letter_13 : decode method_10_code 13 = .ok (.iconst 1, 1) := by decide +kernel
theorem dL_letter_14 : decode method_10_code 14 = .ok (.ireturn, 1) := by decide +kernel
theorem dL_letter_15 : decode method_10_code 15 = .ok (.iconst 0, 1) := by decide +kernel
theorem dL_letter_16 : decode method_10_code 16 = .ok (.ireturn, 1) := by decide +kernel
theorem dL_initials_0 : decode method_11_code 0 = .ok (.aload 4, 2) := by decide +kernel
theorem dL_initials_2 : decode method_11_code 2 = .ok (.iconst 0, 1) := by decide +kernel
theorem dL_initials_3 : decode method_11_code 3 = .ok (.aload_n 0, 1) := by decide +kernel
theorem dL_initials_4 : decode method_11_code 4 = .ok (.iload_n 1, 1) := by decide +kernel
theorem dL_initials_5 : decode method_11_code 5 = .ok (.iload_n 2, 1) := by decide +kernel
theorem dL_initials_6 : decode method_11_code 6 = .ok (.iload_n 3, 1) := by decide +kernel
theorem dL_initials_7 : decode method_11_code 7 = .ok (.invokevirtual 45, 3) := by decide +kernel
theorem dL_initials_10 : decode method_11_code 10 = .ok (.i2l, 1) := by decide +kernel
theorem dL_initials_11 : decode method_11_code 11 = .ok (.lastore, 1) := by decide +kernel
theorem dL_initials_12 : decode method_11_code 12 = .ok (.goto 11, 3) := by decide +kernel
theorem dL_initials_15 : decode method_11_code 15 = .ok (.astore 5, 2) := by decide +kernel
theorem dL_initials_17 : decode method_11_code 17 = .ok (.iconst 1, 1) := by decide +kernel
theorem dL_initials_18 : decode method_11_code 18 = .ok (.ireturn, 1) := by decide +kernel
theorem dL_initials_19 : decode method_11_code 19 = .ok (.astore 5, 2) := by decide +kernel
theorem dL_initials_21 : decode method_11_code 21 = .ok (.iconst 2, 1) := by decide +kernel
theorem dL_initials_22 : decode method_11_code 22 = .ok (.ireturn, 1) := by decide +kernel
theorem dL_initials_23 : decode method_11_code 23 = .ok (.iconst 0, 1) := by decide +kernel
theorem dL_initials_24 : decode method_11_code 24 = .ok (.ireturn, 1) := by decide +kernel
theorem dL_missing_0 : decode method_12_code 0 = .ok (.aload_n 3, 1) := by decide +kernel
theorem dL_missing_1 : decode method_12_code 1 = .ok (.iconst 0, 1) := by decide +kernel
theorem dL_missing_2 : decode method_12_code 2 = .ok (.aload_n 0, 1) := by decide +kernel
theorem dL_missing_3 : decode method_12_code 3 = .ok (.iload_n 1, 1) := by decide +kernel
theorem dL_missing_4 : decode method_12_code 4 = .ok (.iload_n 2, 1) := by decide +kernel
theorem dL_missing_5 : decode method_12_code 5 = .ok (.invokevirtual 49, 3) := by decide +kernel
theorem dL_missing_8 : decode method_12_code 8 = .ok (.i2l, 1) := by decide +kernel
theorem dL_missing_9 : decode method_12_code 9 = .ok (.lastore, 1) := by decide +kernel
theorem dL_missing_10 : decode method_12_code 10 = .ok (.goto 7, 3) := by decide +kernel
theorem dL_missing_13 : decode method_12_code 13 = .ok (.astore 4, 2) := by decide +kernel
theorem dL_missing_15 : decode method_12_code 15 = .ok (.iconst 1, 1) := by decide +kernel
theorem dL_missing_16 : decode method_12_code 16 = .ok (.ireturn, 1) := by decide +kernel
theorem dL_missing_17 : decode method_12_code 17 = .ok (.iconst 0, 1) := by decide +kernel
theorem dL_missing_18 : decode method_12_code 18 = .ok (.ireturn, 1) := by decide +kernel
theorem dL_print_0 : decode method_13_code 0 = .ok (.aload_n 2, 1) := by decide +kernel
theorem dL_print_1 : decode method_13_code 1 = .ok (.iconst 0, 1) := by decide +kernel
theorem dL_print_2 : decode method_13_code 2 = .ok (.aload_n 0, 1) := by decide +kernel
theorem dL_print_3 : decode method_13_code 3 = .ok (.iload_n 1, 1) := by decide +kernel
theorem dL_print_4 : decode method_13_code 4 = .ok (.invokevirtual 52, 3) := by decide +kernel
theorem dL_print_7 : decode method_13_code 7 = .ok (.i2l, 1) := by decide +kernel
theorem dL_print_8 : decode method_13_code 8 = .ok (.lastore, 1) := by decide +kernel
theorem dL_print_9 : decode method_13_code 9 = .ok (.goto 6, 3) := by decide +kernel
theorem dL_print_12 : decode method_13_code 12 = .ok (.astore_n 3, 1) := by decide +kernel
theorem dL_print_13 : decode method_13_code 13 = .ok (.iconst 1, 1) := by decide +kernel
theorem dL_print_14 : decode method_13_code 14 = .ok (.ireturn, 1) := by decide +kernel
theorem dL_print_15 : decode method_13_code 15 = .ok (.iconst 0, 1) := by decide +kernel
theorem dL_print_16 : decode method_13_code 16 = .ok (.ireturn, 1) := by decide +kernel
theorem dL_at_0 : decode method_14_code 0 = .ok (.aload_n 2, 1) := by decide +kernel
theorem dL_at_1 : decode method_14_code 1 = .ok (.iconst 0, 1) := by decide +kernel
theorem dL_at_2 : decode method_14_code 2 = .ok (.aload_n 0, 1) := by decide +kernel
theorem dL_at_3 : decode method_14_code 3 = .ok (.iload_n 1, 1) := by decide +kernel
theorem dL_at_4 : decode method_14_code 4 = .ok (.invokevirtual 55, 3) := by decide +kernel
theorem dL_at_7 : decode method_14_code 7 = .ok (.i2l, 1) := by decide +kernel
theorem dL_at_8 : decode method_14_code 8 = .ok (.lastore, 1) := by decide +kernel
theorem dL_at_9 : decode method_14_code 9 = .ok (.goto 6, 3) := by decide +kernel
theorem dL_at_12 : decode method_14_code 12 = .ok (.astore_n 3, 1) := by decide +kernel
theorem dL_at_13 : decode method_14_code 13 = .ok (.iconst 1, 1) := by decide +kernel
theorem dL_at_14 : decode method_14_code 14 = .ok (.ireturn, 1) := by decide +kernel
theorem dL_at_15 : decode method_14_code 15 = .ok (.iconst 0, 1) := by decide +kernel
theorem dL_at_16 : decode method_14_code 16 = .ok (.ireturn, 1) := by decide +kernel
theorem dL_twice_0 : decode method_15_code 0 = .ok (.aload_n 2, 1) := by decide +kernel
theorem dL_twice_1 : decode method_15_code 1 = .ok (.iconst 0, 1) := by decide +kernel
theorem dL_twice_2 : decode method_15_code 2 = .ok (.aload_n 0, 1) := by decide +kernel
theorem dL_twice_3 : decode method_15_code 3 = .ok (.iload_n 1, 1) := by decide +kernel
theorem dL_twice_4 : decode method_15_code 4 = .ok (.invokevirtual 58, 3) := by decide +kernel
theorem dL_twice_7 : decode method_15_code 7 = .ok (.i2l, 1) := by decide +kernel
theorem dL_twice_8 : decode method_15_code 8 = .ok (.lastore, 1) := by decide +kernel
theorem dL_twice_9 : decode method_15_code 9 = .ok (.goto 6, 3) := by decide +kernel
theorem dL_twice_12 : decode method_15_code 12 = .ok (.astore_n 3, 1) := by decide +kernel
theorem dL_twice_13 : decode method_15_code 13 = .ok (.iconst 1, 1) := by decide +kernel
theorem dL_twice_14 : decode method_15_code 14 = .ok (.ireturn, 1) := by decide +kernel
theorem dL_twice_15 : decode method_15_code 15 = .ok (.iconst 0, 1) := by decide +kernel
theorem dL_twice_16 : decode method_15_code 16 = .ok (.ireturn, 1) := by decide +kernel
theorem dL_law_0 : decode code 0 = .ok (.new 8, 3) := by decide +kernel
theorem dL_law_3 : decode code 3 = .ok (.dup, 1) := by decide +kernel
theorem dL_law_4 : decode code 4 = .ok (.invokespecial 61, 3) := by decide +kernel
theorem dL_law_7 : decode code 7 = .ok (.astore_n 1, 1) := by decide +kernel
theorem dL_law_8 : decode code 8 = .ok (.new 62, 3) := by decide +kernel
theorem dL_law_11 : decode code 11 = .ok (.dup, 1) := by decide +kernel
theorem dL_law_12 : decode code 12 = .ok (.invokespecial 64, 3) := by decide +kernel
theorem dL_law_15 : decode code 15 = .ok (.astore_n 2, 1) := by decide +kernel
theorem dL_law_16 : decode code 16 = .ok (.iconst 1, 1) := by decide +kernel
theorem dL_law_17 : decode code 17 = .ok (.newarray .long, 2) := by decide +kernel
theorem dL_law_19 : decode code 19 = .ok (.astore_n 3, 1) := by decide +kernel
theorem dL_law_20 : decode code 20 = .ok (.iconst 0, 1) := by decide +kernel
theorem dL_law_21 : decode code 21 = .ok (.istore 4, 2) := by decide +kernel
theorem dL_law_23 : decode code 23 = .ok (.iload 4, 2) := by decide +kernel
theorem dL_law_25 : decode code 25 = .ok (.aload_n 0, 1) := by decide +kernel
theorem dL_law_26 : decode code 26 = .ok (.arraylength, 1) := by decide +kernel
theorem dL_law_27 : decode code 27 = .ok (.iconst 4, 1) := by decide +kernel
theorem dL_law_28 : decode code 28 = .ok (.isub, 1) := by decide +kernel
theorem dL_law_29 : decode code 29 = .ok (.if_icmp .gt 882, 3) := by decide +kernel
theorem dL_law_32 : decode code 32 = .ok (.aload_n 0, 1) := by decide +kernel
theorem dL_law_33 : decode code 33 = .ok (.iload 4, 2) := by decide +kernel
theorem dL_law_35 : decode code 35 = .ok (.iaload, 1) := by decide +kernel
theorem dL_law_36 : decode code 36 = .ok (.bipush 15, 2) := by decide +kernel
theorem dL_law_38 : decode code 38 = .ok (.iand, 1) := by decide +kernel
theorem dL_law_39 : decode code 39 = .ok (.tableswitch 866 0 13 #[69, 125, 173, 233, 289, 357, 425, 438, 494, 550, 630, 698, 754, 810], 69) := by decide +kernel
theorem dL_law_108 : decode code 108 = .ok (.aload_n 1, 1) := by decide +kernel
theorem dL_law_109 : decode code 109 = .ok (.aload_n 0, 1) := by decide +kernel
theorem dL_law_110 : decode code 110 = .ok (.iload 4, 2) := by decide +kernel
theorem dL_law_112 : decode code 112 = .ok (.iconst 1, 1) := by decide +kernel
theorem dL_law_113 : decode code 113 = .ok (.iadd, 1) := by decide +kernel
theorem dL_law_114 : decode code 114 = .ok (.iaload, 1) := by decide +kernel
theorem dL_law_115 : decode code 115 = .ok (.aload_n 3, 1) := by decide +kernel
theorem dL_law_116 : decode code 116 = .ok (.invokestatic 65, 3) := by decide +kernel
theorem dL_law_119 : decode code 119 = .ok (.istore 5, 2) := by decide +kernel
theorem dL_law_121 : decode code 121 = .ok (.aload_n 2, 1) := by decide +kernel
theorem dL_law_122 : decode code 122 = .ok (.aload_n 0, 1) := by decide +kernel
theorem dL_law_123 : decode code 123 = .ok (.iload 4, 2) := by decide +kernel
theorem dL_law_125 : decode code 125 = .ok (.iconst 1, 1) := by decide +kernel
theorem dL_law_126 : decode code 126 = .ok (.iadd, 1) := by decide +kernel
theorem dL_law_127 : decode code 127 = .ok (.iaload, 1) := by decide +kernel
theorem dL_law_128 : decode code 128 = .ok (.invokevirtual 70, 3) := by decide +kernel
theorem dL_law_131 : decode code 131 = .ok (.istore 6, 2) := by decide +kernel
theorem dL_law_133 : decode code 133 = .ok (.aload_n 2, 1) := by decide +kernel
theorem dL_law_134 : decode code 134 = .ok (.invokevirtual 71, 3) := by decide +kernel
theorem dL_law_137 : decode code 137 = .ok (.iload 5, 2) := by decide +kernel
theorem dL_law_139 : decode code 139 = .ok (.if_icmp .eq 5, 3) := by decide +kernel
theorem dL_law_142 : decode code 142 = .ok (.iconst 0, 1) := by decide +kernel
theorem dL_law_143 : decode code 143 = .ok (.ireturn, 1) := by decide +kernel
theorem dL_law_144 : decode code 144 = .ok (.iload 5, 2) := by decide +kernel
theorem dL_law_146 : decode code 146 = .ok (.ifCond .ne 15, 3) := by decide +kernel
theorem dL_law_149 : decode code 149 = .ok (.aload_n 3, 1) := by decide +kernel
theorem dL_law_150 : decode code 150 = .ok (.iconst 0, 1) := by decide +kernel
theorem dL_law_151 : decode code 151 = .ok (.laload, 1) := by decide +kernel
theorem dL_law_152 : decode code 152 = .ok (.iload 6, 2) := by decide +kernel
theorem dL_law_154 : decode code 154 = .ok (.i2l, 1) := by decide +kernel
theorem dL_law_155 : decode code 155 = .ok (.lcmp, 1) := by decide +kernel
theorem dL_law_156 : decode code 156 = .ok (.ifCond .eq 5, 3) := by decide +kernel
theorem dL_law_159 : decode code 159 = .ok (.iconst 0, 1) := by decide +kernel
theorem dL_law_160 : decode code 160 = .ok (.ireturn, 1) := by decide +kernel
theorem dL_law_161 : decode code 161 = .ok (.goto 744, 3) := by decide +kernel
theorem dL_law_164 : decode code 164 = .ok (.aload_n 1, 1) := by decide +kernel
theorem dL_law_165 : decode code 165 = .ok (.aload_n 0, 1) := by decide +kernel
theorem dL_law_166 : decode code 166 = .ok (.iload 4, 2) := by decide +kernel
theorem dL_law_168 : decode code 168 = .ok (.iconst 1, 1) := by decide +kernel
theorem dL_law_169 : decode code 169 = .ok (.iadd, 1) := by decide +kernel
theorem dL_law_170 : decode code 170 = .ok (.iaload, 1) := by decide +kernel
theorem dL_law_171 : decode code 171 = .ok (.aload_n 0, 1) := by decide +kernel
theorem dL_law_172 : decode code 172 = .ok (.iload 4, 2) := by decide +kernel
theorem dL_law_174 : decode code 174 = .ok (.iconst 2, 1) := by decide +kernel
theorem dL_law_175 : decode code 175 = .ok (.iadd, 1) := by decide +kernel
theorem dL_law_176 : decode code 176 = .ok (.iaload, 1) := by decide +kernel
theorem dL_law_177 : decode code 177 = .ok (.invokestatic 75, 3) := by decide +kernel
theorem dL_law_180 : decode code 180 = .ok (.istore 5, 2) := by decide +kernel
theorem dL_law_182 : decode code 182 = .ok (.aload_n 2, 1) := by decide +kernel
theorem dL_law_183 : decode code 183 = .ok (.aload_n 0, 1) := by decide +kernel
theorem dL_law_184 : decode code 184 = .ok (.iload 4, 2) := by decide +kernel
theorem dL_law_186 : decode code 186 = .ok (.iconst 1, 1) := by decide +kernel
theorem dL_law_187 : decode code 187 = .ok (.iadd, 1) := by decide +kernel
theorem dL_law_188 : decode code 188 = .ok (.iaload, 1) := by decide +kernel
theorem dL_law_189 : decode code 189 = .ok (.aload_n 0, 1) := by decide +kernel
theorem dL_law_190 : decode code 190 = .ok (.iload 4, 2) := by decide +kernel
theorem dL_law_192 : decode code 192 = .ok (.iconst 2, 1) := by decide +kernel
theorem dL_law_193 : decode code 193 = .ok (.iadd, 1) := by decide +kernel
theorem dL_law_194 : decode code 194 = .ok (.iaload, 1) := by decide +kernel
theorem dL_law_195 : decode code 195 = .ok (.invokevirtual 78, 3) := by decide +kernel
theorem dL_law_198 : decode code 198 = .ok (.aload_n 2, 1) := by decide +kernel
theorem dL_law_199 : decode code 199 = .ok (.invokevirtual 71, 3) := by decide +kernel
theorem dL_law_202 : decode code 202 = .ok (.iload 5, 2) := by decide +kernel
theorem dL_law_204 : decode code 204 = .ok (.if_icmp .eq 5, 3) := by decide +kernel
theorem dL_law_207 : decode code 207 = .ok (.iconst 0, 1) := by decide +kernel
theorem dL_law_208 : decode code 208 = .ok (.ireturn, 1) := by decide +kernel
theorem dL_law_209 : decode code 209 = .ok (.goto 696, 3) := by decide +kernel
theorem dL_law_212 : decode code 212 = .ok (.aload_n 1, 1) := by decide +kernel
theorem dL_law_213 : decode code 213 = .ok (.aload_n 0, 1) := by decide +kernel
theorem dL_law_214 : decode code 214 = .ok (.iload 4, 2) := by decide +kernel
theorem dL_law_216 : decode code 216 = .ok (.iconst 1, 1) := by decide +kernel
theorem dL_law_217 : decode code 217 = .ok (.iadd, 1) := by decide +kernel
theorem dL_law_218 : decode code 218 = .ok (.iaload, 1) := by decide +kernel
theorem dL_law_219 : decode code 219 = .ok (.aload_n 0, 1) := by decide +kernel
theorem dL_law_220 : decode code 220 = .ok (.iload 4, 2) := by decide +kernel
theorem dL_law_222 : decode code 222 = .ok (.iconst 2, 1) := by decide +kernel
theorem dL_law_223 : decode code 223 = .ok (.iadd, 1) := by decide +kernel
theorem dL_law_224 : decode code 224 = .ok (.iaload, 1) := by decide +kernel
theorem dL_law_225 : decode code 225 = .ok (.aload_n 0, 1) := by decide +kernel
theorem dL_law_226 : decode code 226 = .ok (.iload 4, 2) := by decide +kernel
theorem dL_law_228 : decode code 228 = .ok (.iconst 3, 1) := by decide +kernel
theorem dL_law_229 : decode code 229 = .ok (.iadd, 1) := by decide +kernel
theorem dL_law_230 : decode code 230 = .ok (.iaload, 1) := by decide +kernel
theorem dL_law_231 : decode code 231 = .ok (.invokestatic 79, 3) := by decide +kernel
theorem dL_law_234 : decode code 234 = .ok (.istore 5, 2) := by decide +kernel
theorem dL_law_236 : decode code 236 = .ok (.aload_n 2, 1) := by decide +kernel
theorem dL_law_237 : decode code 237 = .ok (.aload_n 0, 1) := by decide +kernel
theorem dL_law_238 : decode code 238 = .ok (.iload 4, 2) := by decide +kernel
theorem dL_law_240 : decode code 240 = .ok (.iconst 1, 1) := by decide +kernel
theorem dL_law_241 : decode code 241 = .ok (.iadd, 1) := by decide +kernel
theorem dL_law_242 : decode code 242 = .ok (.iaload, 1) := by decide +kernel
theorem dL_law_243 : decode code 243 = .ok (.aload_n 0, 1) := by decide +kernel
theorem dL_law_244 : decode code 244 = .ok (.iload 4, 2) := by decide +kernel
theorem dL_law_246 : decode code 246 = .ok (.iconst 2, 1) := by decide +kernel
theorem dL_law_247 : decode code 247 = .ok (.iadd, 1) := by decide +kernel
theorem dL_law_248 : decode code 248 = .ok (.iaload, 1) := by decide +kernel
theorem dL_law_249 : decode code 249 = .ok (.aload_n 0, 1) := by decide +kernel
theorem dL_law_250 : decode code 250 = .ok (.iload 4, 2) := by decide +kernel
theorem dL_law_252 : decode code 252 = .ok (.iconst 3, 1) := by decide +kernel
theorem dL_law_253 : decode code 253 = .ok (.iadd, 1) := by decide +kernel
theorem dL_law_254 : decode code 254 = .ok (.iaload, 1) := by decide +kernel
theorem dL_law_255 : decode code 255 = .ok (.invokevirtual 82, 3) := by decide +kernel
theorem dL_law_258 : decode code 258 = .ok (.aload_n 2, 1) := by decide +kernel
theorem dL_law_259 : decode code 259 = .ok (.invokevirtual 71, 3) := by decide +kernel
theorem dL_law_262 : decode code 262 = .ok (.iload 5, 2) := by decide +kernel
theorem dL_law_264 : decode code 264 = .ok (.if_icmp .eq 5, 3) := by decide +kernel
theorem dL_law_267 : decode code 267 = .ok (.iconst 0, 1) := by decide +kernel
theorem dL_law_268 : decode code 268 = .ok (.ireturn, 1) := by decide +kernel
theorem dL_law_269 : decode code 269 = .ok (.goto 636, 3) := by decide +kernel
theorem dL_law_272 : decode code 272 = .ok (.aload_n 1, 1) := by decide +kernel
theorem dL_law_273 : decode code 273 = .ok (.aload_n 0, 1) := by decide +kernel
theorem dL_law_274 : decode code 274 = .ok (.iload 4, 2) := by decide +kernel
theorem dL_law_276 : decode code 276 = .ok (.iconst 1, 1) := by decide +kernel
theorem dL_law_277 : decode code 277 = .ok (.iadd, 1) := by decide +kernel
theorem dL_law_278 : decode code 278 = .ok (.iaload, 1) := by decide +kernel
theorem dL_law_279 : decode code 279 = .ok (.aload_n 3, 1) := by decide +kernel
theorem dL_law_280 : decode code 280 = .ok (.invokestatic 83, 3) := by decide +kernel
theorem dL_law_283 : decode code 283 = .ok (.istore 5, 2) := by decide +kernel
theorem dL_law_285 : decode code 285 = .ok (.aload_n 2, 1) := by decide +kernel
theorem dL_law_286 : decode code 286 = .ok (.aload_n 0, 1) := by decide +kernel
theorem dL_law_287 : decode code 287 = .ok (.iload 4, 2) := by decide +kernel
theorem dL_law_289 : decode code 289 = .ok (.iconst 1, 1) := by decide +kernel
theorem dL_law_290 : decode code 290 = .ok (.iadd, 1) := by decide +kernel
theorem dL_law_291 : decode code 291 = .ok (.iaload, 1) := by decide +kernel
theorem dL_law_292 : decode code 292 = .ok (.invokevirtual 85, 3) := by decide +kernel
theorem dL_law_295 : decode code 295 = .ok (.istore 6, 2) := by decide +kernel
theorem dL_law_297 : decode code 297 = .ok (.aload_n 2, 1) := by decide +kernel
theorem dL_law_298 : decode code 298 = .ok (.invokevirtual 71, 3) := by decide +kernel
theorem dL_law_301 : decode code 301 = .ok (.iload 5, 2) := by decide +kernel
theorem dL_law_303 : decode code 303 = .ok (.if_icmp .eq 5, 3) := by decide +kernel
theorem dL_law_306 : decode code 306 = .ok (.iconst 0, 1) := by decide +kernel
theorem dL_law_307 : decode code 307 = .ok (.ireturn, 1) := by decide +kernel
theorem dL_law_308 : decode code 308 = .ok (.iload 5, 2) := by decide +kernel
theorem dL_law_310 : decode code 310 = .ok (.ifCond .ne 15, 3) := by decide +kernel
theorem dL_law_313 : decode code 313 = .ok (.aload_n 3, 1) := by decide +kernel
theorem dL_law_314 : decode code 314 = .ok (.iconst 0, 1) := by decide +kernel
theorem dL_law_315 : decode code 315 = .ok (.laload, 1) := by decide +kernel
theorem dL_law_316 : decode code 316 = .ok (.iload 6, 2) := by decide +kernel
theorem dL_law_318 : decode code 318 = .ok (.i2l, 1) := by decide +kernel
theorem dL_law_319 : decode code 319 = .ok (.lcmp, 1) := by decide +kernel
theorem dL_law_320 : decode code 320 = .ok (.ifCond .eq 5, 3) := by decide +kernel
theorem dL_law_323 : decode code 323 = .ok (.iconst 0, 1) := by decide +kernel
theorem dL_law_324 : decode code 324 = .ok (.ireturn, 1) := by decide +kernel
theorem dL_law_325 : decode code 325 = .ok (.goto 580, 3) := by decide +kernel
theorem dL_law_328 : decode code 328 = .ok (.aload_n 1, 1) := by decide +kernel
theorem dL_law_329 : decode code 329 = .ok (.aload_n 0, 1) := by decide +kernel
theorem dL_law_330 : decode code 330 = .ok (.iload 4, 2) := by decide +kernel
theorem dL_law_332 : decode code 332 = .ok (.iconst 1, 1) := by decide +kernel
theorem dL_law_333 : decode code 333 = .ok (.iadd, 1) := by decide +kernel
theorem dL_law_334 : decode code 334 = .ok (.iaload, 1) := by decide +kernel
theorem dL_law_335 : decode code 335 = .ok (.aload_n 0, 1) := by decide +kernel
theorem dL_law_336 : decode code 336 = .ok (.iload 4, 2) := by decide +kernel
theorem dL_law_338 : decode code 338 = .ok (.iconst 2, 1) := by decide +kernel
theorem dL_law_339 : decode code 339 = .ok (.iadd, 1) := by decide +kernel
theorem dL_law_340 : decode code 340 = .ok (.iaload, 1) := by decide +kernel
theorem dL_law_341 : decode code 341 = .ok (.aload_n 3, 1) := by decide +kernel
theorem dL_law_342 : decode code 342 = .ok (.invokestatic 86, 3) := by decide +kernel
theorem dL_law_345 : decode code 345 = .ok (.istore 5, 2) := by decide +kernel
theorem dL_law_347 : decode code 347 = .ok (.aload_n 2, 1) := by decide +kernel
theorem dL_law_348 : decode code 348 = .ok (.aload_n 0, 1) := by decide +kernel
theorem dL_law_349 : decode code 349 = .ok (.iload 4, 2) := by decide +kernel
theorem dL_law_351 : decode code 351 = .ok (.iconst 1, 1) := by decide +kernel
theorem dL_law_352 : decode code 352 = .ok (.iadd, 1) := by decide +kernel
theorem dL_law_353 : decode code 353 = .ok (.iaload, 1) := by decide +kernel
theorem dL_law_354 : decode code 354 = .ok (.aload_n 0, 1) := by decide +kernel
theorem dL_law_355 : decode code 355 = .ok (.iload 4, 2) := by decide +kernel
theorem dL_law_357 : decode code 357 = .ok (.iconst 2, 1) := by decide +kernel
theorem dL_law_358 : decode code 358 = .ok (.iadd, 1) := by decide +kernel
theorem dL_law_359 : decode code 359 = .ok (.iaload, 1) := by decide +kernel
theorem dL_law_360 : decode code 360 = .ok (.invokevirtual 89, 3) := by decide +kernel
theorem dL_law_363 : decode code 363 = .ok (.istore 6, 2) := by decide +kernel
theorem dL_law_365 : decode code 365 = .ok (.aload_n 2, 1) := by decide +kernel
theorem dL_law_366 : decode code 366 = .ok (.invokevirtual 71, 3) := by decide +kernel
theorem dL_law_369 : decode code 369 = .ok (.iload 5, 2) := by decide +kernel
theorem dL_law_371 : decode code 371 = .ok (.if_icmp .eq 5, 3) := by decide +kernel
theorem dL_law_374 : decode code 374 = .ok (.iconst 0, 1) := by decide +kernel
theorem dL_law_375 : decode code 375 = .ok (.ireturn, 1) := by decide +kernel
theorem dL_law_376 : decode code 376 = .ok (.iload 5, 2) := by decide +kernel
theorem dL_law_378 : decode code 378 = .ok (.ifCond .ne 15, 3) := by decide +kernel
theorem dL_law_381 : decode code 381 = .ok (.aload_n 3, 1) := by decide +kernel
theorem dL_law_382 : decode code 382 = .ok (.iconst 0, 1) := by decide +kernel
theorem dL_law_383 : decode code 383 = .ok (.laload, 1) := by decide +kernel
theorem dL_law_384 : decode code 384 = .ok (.iload 6, 2) := by decide +kernel
theorem dL_law_386 : decode code 386 = .ok (.i2l, 1) := by decide +kernel
theorem dL_law_387 : decode code 387 = .ok (.lcmp, 1) := by decide +kernel
theorem dL_law_388 : decode code 388 = .ok (.ifCond .eq 5, 3) := by decide +kernel
theorem dL_law_391 : decode code 391 = .ok (.iconst 0, 1) := by decide +kernel
theorem dL_law_392 : decode code 392 = .ok (.ireturn, 1) := by decide +kernel
theorem dL_law_393 : decode code 393 = .ok (.goto 512, 3) := by decide +kernel
theorem dL_law_396 : decode code 396 = .ok (.aload_n 1, 1) := by decide +kernel
theorem dL_law_397 : decode code 397 = .ok (.aload_n 0, 1) := by decide +kernel
theorem dL_law_398 : decode code 398 = .ok (.iload 4, 2) := by decide +kernel
theorem dL_law_400 : decode code 400 = .ok (.iconst 1, 1) := by decide +kernel
theorem dL_law_401 : decode code 401 = .ok (.iadd, 1) := by decide +kernel
theorem dL_law_402 : decode code 402 = .ok (.iaload, 1) := by decide +kernel
theorem dL_law_403 : decode code 403 = .ok (.aload_n 0, 1) := by decide +kernel
theorem dL_law_404 : decode code 404 = .ok (.iload 4, 2) := by decide +kernel
theorem dL_law_406 : decode code 406 = .ok (.iconst 2, 1) := by decide +kernel
theorem dL_law_407 : decode code 407 = .ok (.iadd, 1) := by decide +kernel
theorem dL_law_408 : decode code 408 = .ok (.iaload, 1) := by decide +kernel
theorem dL_law_409 : decode code 409 = .ok (.aload_n 3, 1) := by decide +kernel
theorem dL_law_410 : decode code 410 = .ok (.invokestatic 90, 3) := by decide +kernel
theorem dL_law_413 : decode code 413 = .ok (.istore 5, 2) := by decide +kernel
theorem dL_law_415 : decode code 415 = .ok (.aload_n 2, 1) := by decide +kernel
theorem dL_law_416 : decode code 416 = .ok (.aload_n 0, 1) := by decide +kernel
theorem dL_law_417 : decode code 417 = .ok (.iload 4, 2) := by decide +kernel
theorem dL_law_419 : decode code 419 = .ok (.iconst 1, 1) := by decide +kernel
theorem dL_law_420 : decode code 420 = .ok (.iadd, 1) := by decide +kernel
theorem dL_law_421 : decode code 421 = .ok (.iaload, 1) := by decide +kernel
theorem dL_law_422 : decode code 422 = .ok (.aload_n 0, 1) := by decide +kernel
theorem dL_law_423 : decode code 423 = .ok (.iload 4, 2) := by decide +kernel
theorem dL_law_425 : decode code 425 = .ok (.iconst 2, 1) := by decide +kernel
theorem dL_law_426 : decode code 426 = .ok (.iadd, 1) := by decide +kernel
theorem dL_law_427 : decode code 427 = .ok (.iaload, 1) := by decide +kernel
theorem dL_law_428 : decode code 428 = .ok (.invokevirtual 92, 3) := by decide +kernel
theorem dL_law_431 : decode code 431 = .ok (.istore 6, 2) := by decide +kernel
theorem dL_law_433 : decode code 433 = .ok (.aload_n 2, 1) := by decide +kernel
theorem dL_law_434 : decode code 434 = .ok (.invokevirtual 71, 3) := by decide +kernel
theorem dL_law_437 : decode code 437 = .ok (.iload 5, 2) := by decide +kernel
theorem dL_law_439 : decode code 439 = .ok (.if_icmp .eq 5, 3) := by decide +kernel
theorem dL_law_442 : decode code 442 = .ok (.iconst 0, 1) := by decide +kernel
theorem dL_law_443 : decode code 443 = .ok (.ireturn, 1) := by decide +kernel
theorem dL_law_444 : decode code 444 = .ok (.iload 5, 2) := by decide +kernel
theorem dL_law_446 : decode code 446 = .ok (.ifCond .ne 15, 3) := by decide +kernel
theorem dL_law_449 : decode code 449 = .ok (.aload_n 3, 1) := by decide +kernel
theorem dL_law_450 : decode code 450 = .ok (.iconst 0, 1) := by decide +kernel
theorem dL_law_451 : decode code 451 = .ok (.laload, 1) := by decide +kernel
theorem dL_law_452 : decode code 452 = .ok (.iload 6, 2) := by decide +kernel
theorem dL_law_454 : decode code 454 = .ok (.i2l, 1) := by decide +kernel
theorem dL_law_455 : decode code 455 = .ok (.lcmp, 1) := by decide +kernel
theorem dL_law_456 : decode code 456 = .ok (.ifCond .eq 5, 3) := by decide +kernel
theorem dL_law_459 : decode code 459 = .ok (.iconst 0, 1) := by decide +kernel
theorem dL_law_460 : decode code 460 = .ok (.ireturn, 1) := by decide +kernel
theorem dL_law_461 : decode code 461 = .ok (.goto 444, 3) := by decide +kernel
theorem dL_law_464 : decode code 464 = .ok (.aload_n 1, 1) := by decide +kernel
theorem dL_law_465 : decode code 465 = .ok (.invokevirtual 93, 3) := by decide +kernel
theorem dL_law_468 : decode code 468 = .ok (.aload_n 2, 1) := by decide +kernel
theorem dL_law_469 : decode code 469 = .ok (.invokevirtual 96, 3) := by decide +kernel
theorem dL_law_472 : decode code 472 = .ok (.if_icmp .eq 433, 3) := by decide +kernel
theorem dL_law_475 : decode code 475 = .ok (.iconst 0, 1) := by decide +kernel
theorem dL_law_476 : decode code 476 = .ok (.ireturn, 1) := by decide +kernel
theorem dL_law_477 : decode code 477 = .ok (.aload_n 1, 1) := by decide +kernel
theorem dL_law_478 : decode code 478 = .ok (.aload_n 0, 1) := by decide +kernel
theorem dL_law_479 : decode code 479 = .ok (.iload 4, 2) := by decide +kernel
theorem dL_law_481 : decode code 481 = .ok (.iconst 1, 1) := by decide +kernel
theorem dL_law_482 : decode code 482 = .ok (.iadd, 1) := by decide +kernel
theorem dL_law_483 : decode code 483 = .ok (.iaload, 1) := by decide +kernel
theorem dL_law_484 : decode code 484 = .ok (.aload_n 3, 1) := by decide +kernel
theorem dL_law_485 : decode code 485 = .ok (.invokestatic 97, 3) := by decide +kernel
theorem dL_law_488 : decode code 488 = .ok (.istore 5, 2) := by decide +kernel
theorem dL_law_490 : decode code 490 = .ok (.aload_n 2, 1) := by decide +kernel
theorem dL_law_491 : decode code 491 = .ok (.aload_n 0, 1) := by decide +kernel
theorem dL_law_492 : decode code 492 = .ok (.iload 4, 2) := by decide +kernel
theorem dL_law_494 : decode code 494 = .ok (.iconst 1, 1) := by decide +kernel
theorem dL_law_495 : decode code 495 = .ok (.iadd, 1) := by decide +kernel
theorem dL_law_496 : decode code 496 = .ok (.iaload, 1) := by decide +kernel
theorem dL_law_497 : decode code 497 = .ok (.invokevirtual 99, 3) := by decide +kernel
theorem dL_law_500 : decode code 500 = .ok (.istore 6, 2) := by decide +kernel
theorem dL_law_502 : decode code 502 = .ok (.aload_n 2, 1) := by decide +kernel
theorem dL_law_503 : decode code 503 = .ok (.invokevirtual 71, 3) := by decide +kernel
theorem dL_law_506 : decode code 506 = .ok (.iload 5, 2) := by decide +kernel
theorem dL_law_508 : decode code 508 = .ok (.if_icmp .eq 5, 3) := by decide +kernel
theorem dL_law_511 : decode code 511 = .ok (.iconst 0, 1) := by decide +kernel
theorem dL_law_512 : decode code 512 = .ok (.ireturn, 1) := by decide +kernel
theorem dL_law_513 : decode code 513 = .ok (.iload 5, 2) := by decide +kernel
theorem dL_law_515 : decode code 515 = .ok (.ifCond .ne 15, 3) := by decide +kernel
theorem dL_law_518 : decode code 518 = .ok (.aload_n 3, 1) := by decide +kernel
theorem dL_law_519 : decode code 519 = .ok (.iconst 0, 1) := by decide +kernel
theorem dL_law_520 : decode code 520 = .ok (.laload, 1) := by decide +kernel
theorem dL_law_521 : decode code 521 = .ok (.iload 6, 2) := by decide +kernel
theorem dL_law_523 : decode code 523 = .ok (.i2l, 1) := by decide +kernel
theorem dL_law_524 : decode code 524 = .ok (.lcmp, 1) := by decide +kernel
theorem dL_law_525 : decode code 525 = .ok (.ifCond .eq 5, 3) := by decide +kernel
theorem dL_law_528 : decode code 528 = .ok (.iconst 0, 1) := by decide +kernel
theorem dL_law_529 : decode code 529 = .ok (.ireturn, 1) := by decide +kernel
theorem dL_law_530 : decode code 530 = .ok (.goto 375, 3) := by decide +kernel
theorem dL_law_533 : decode code 533 = .ok (.aload_n 1, 1) := by decide +kernel
theorem dL_law_534 : decode code 534 = .ok (.aload_n 0, 1) := by decide +kernel
theorem dL_law_535 : decode code 535 = .ok (.iload 4, 2) := by decide +kernel
theorem dL_law_537 : decode code 537 = .ok (.iconst 1, 1) := by decide +kernel
theorem dL_law_538 : decode code 538 = .ok (.iadd, 1) := by decide +kernel
theorem dL_law_539 : decode code 539 = .ok (.iaload, 1) := by decide +kernel
theorem dL_law_540 : decode code 540 = .ok (.aload_n 3, 1) := by decide +kernel
theorem dL_law_541 : decode code 541 = .ok (.invokestatic 100, 3) := by decide +kernel
theorem dL_law_544 : decode code 544 = .ok (.istore 5, 2) := by decide +kernel
theorem dL_law_546 : decode code 546 = .ok (.aload_n 2, 1) := by decide +kernel
theorem dL_law_547 : decode code 547 = .ok (.aload_n 0, 1) := by decide +kernel
theorem dL_law_548 : decode code 548 = .ok (.iload 4, 2) := by decide +kernel
theorem dL_law_550 : decode code 550 = .ok (.iconst 1, 1) := by decide +kernel
theorem dL_law_551 : decode code 551 = .ok (.iadd, 1) := by decide +kernel
theorem dL_law_552 : decode code 552 = .ok (.iaload, 1) := by decide +kernel
theorem dL_law_553 : decode code 553 = .ok (.invokevirtual 102, 3) := by decide +kernel
theorem dL_law_556 : decode code 556 = .ok (.istore 6, 2) := by decide +kernel
theorem dL_law_558 : decode code 558 = .ok (.aload_n 2, 1) := by decide +kernel
theorem dL_law_559 : decode code 559 = .ok (.invokevirtual 71, 3) := by decide +kernel
theorem dL_law_562 : decode code 562 = .ok (.iload 5, 2) := by decide +kernel
theorem dL_law_564 : decode code 564 = .ok (.if_icmp .eq 5, 3) := by decide +kernel
theorem dL_law_567 : decode code 567 = .ok (.iconst 0, 1) := by decide +kernel
theorem dL_law_568 : decode code 568 = .ok (.ireturn, 1) := by decide +kernel
theorem dL_law_569 : decode code 569 = .ok (.iload 5, 2) := by decide +kernel
theorem dL_law_571 : decode code 571 = .ok (.ifCond .ne 15, 3) := by decide +kernel
theorem dL_law_574 : decode code 574 = .ok (.aload_n 3, 1) := by decide +kernel
theorem dL_law_575 : decode code 575 = .ok (.iconst 0, 1) := by decide +kernel
theorem dL_law_576 : decode code 576 = .ok (.laload, 1) := by decide +kernel
theorem dL_law_577 : decode code 577 = .ok (.iload 6, 2) := by decide +kernel
theorem dL_law_579 : decode code 579 = .ok (.i2l, 1) := by decide +kernel
theorem dL_law_580 : decode code 580 = .ok (.lcmp, 1) := by decide +kernel
theorem dL_law_581 : decode code 581 = .ok (.ifCond .eq 5, 3) := by decide +kernel
theorem dL_law_584 : decode code 584 = .ok (.iconst 0, 1) := by decide +kernel
theorem dL_law_585 : decode code 585 = .ok (.ireturn, 1) := by decide +kernel
theorem dL_law_586 : decode code 586 = .ok (.goto 319, 3) := by decide +kernel
theorem dL_law_589 : decode code 589 = .ok (.aload_n 1, 1) := by decide +kernel
theorem dL_law_590 : decode code 590 = .ok (.aload_n 0, 1) := by decide +kernel
theorem dL_law_591 : decode code 591 = .ok (.iload 4, 2) := by decide +kernel
theorem dL_law_593 : decode code 593 = .ok (.iconst 1, 1) := by decide +kernel
theorem dL_law_594 : decode code 594 = .ok (.iadd, 1) := by decide +kernel
theorem dL_law_595 : decode code 595 = .ok (.iaload, 1) := by decide +kernel
theorem dL_law_596 : decode code 596 = .ok (.aload_n 0, 1) := by decide +kernel
theorem dL_law_597 : decode code 597 = .ok (.iload 4, 2) := by decide +kernel
theorem dL_law_599 : decode code 599 = .ok (.iconst 2, 1) := by decide +kernel
theorem dL_law_600 : decode code 600 = .ok (.iadd, 1) := by decide +kernel
theorem dL_law_601 : decode code 601 = .ok (.iaload, 1) := by decide +kernel
theorem dL_law_602 : decode code 602 = .ok (.aload_n 0, 1) := by decide +kernel
theorem dL_law_603 : decode code 603 = .ok (.iload 4, 2) := by decide +kernel
theorem dL_law_605 : decode code 605 = .ok (.iconst 3, 1) := by decide +kernel
theorem dL_law_606 : decode code 606 = .ok (.iadd, 1) := by decide +kernel
theorem dL_law_607 : decode code 607 = .ok (.iaload, 1) := by decide +kernel
theorem dL_law_608 : decode code 608 = .ok (.aload_n 3, 1) := by decide +kernel
theorem dL_law_609 : decode code 609 = .ok (.invokestatic 103, 3) := by decide +kernel
theorem dL_law_612 : decode code 612 = .ok (.istore 5, 2) := by decide +kernel
theorem dL_law_614 : decode code 614 = .ok (.aload_n 2, 1) := by decide +kernel
theorem dL_law_615 : decode code 615 = .ok (.aload_n 0, 1) := by decide +kernel
theorem dL_law_616 : decode code 616 = .ok (.iload 4, 2) := by decide +kernel
theorem dL_law_618 : decode code 618 = .ok (.iconst 1, 1) := by decide +kernel
theorem dL_law_619 : decode code 619 = .ok (.iadd, 1) := by decide +kernel
theorem dL_law_620 : decode code 620 = .ok (.iaload, 1) := by decide +kernel
theorem dL_law_621 : decode code 621 = .ok (.aload_n 0, 1) := by decide +kernel
theorem dL_law_622 : decode code 622 = .ok (.iload 4, 2) := by decide +kernel
theorem dL_law_624 : decode code 624 = .ok (.iconst 2, 1) := by decide +kernel
theorem dL_law_625 : decode code 625 = .ok (.iadd, 1) := by decide +kernel
theorem dL_law_626 : decode code 626 = .ok (.iaload, 1) := by decide +kernel
theorem dL_law_627 : decode code 627 = .ok (.aload_n 0, 1) := by decide +kernel
theorem dL_law_628 : decode code 628 = .ok (.iload 4, 2) := by decide +kernel
theorem dL_law_630 : decode code 630 = .ok (.iconst 3, 1) := by decide +kernel
theorem dL_law_631 : decode code 631 = .ok (.iadd, 1) := by decide +kernel
theorem dL_law_632 : decode code 632 = .ok (.iaload, 1) := by decide +kernel
theorem dL_law_633 : decode code 633 = .ok (.invokevirtual 106, 3) := by decide +kernel
theorem dL_law_636 : decode code 636 = .ok (.istore 6, 2) := by decide +kernel
theorem dL_law_638 : decode code 638 = .ok (.aload_n 2, 1) := by decide +kernel
theorem dL_law_639 : decode code 639 = .ok (.invokevirtual 71, 3) := by decide +kernel
theorem dL_law_642 : decode code 642 = .ok (.iload 5, 2) := by decide +kernel
theorem dL_law_644 : decode code 644 = .ok (.if_icmp .eq 5, 3) := by decide +kernel
theorem dL_law_647 : decode code 647 = .ok (.iconst 0, 1) := by decide +kernel
theorem dL_law_648 : decode code 648 = .ok (.ireturn, 1) := by decide +kernel
theorem dL_law_649 : decode code 649 = .ok (.iload 5, 2) := by decide +kernel
theorem dL_law_651 : decode code 651 = .ok (.ifCond .ne 15, 3) := by decide +kernel
theorem dL_law_654 : decode code 654 = .ok (.aload_n 3, 1) := by decide +kernel
theorem dL_law_655 : decode code 655 = .ok (.iconst 0, 1) := by decide +kernel
theorem dL_law_656 : decode code 656 = .ok (.laload, 1) := by decide +kernel
theorem dL_law_657 : decode code 657 = .ok (.iload 6, 2) := by decide +kernel
theorem dL_law_659 : decode code 659 = .ok (.i2l, 1) := by decide +kernel
theorem dL_law_660 : decode code 660 = .ok (.lcmp, 1) := by decide +kernel
theorem dL_law_661 : decode code 661 = .ok (.ifCond .eq 5, 3) := by decide +kernel
theorem dL_law_664 : decode code 664 = .ok (.iconst 0, 1) := by decide +kernel
theorem dL_law_665 : decode code 665 = .ok (.ireturn, 1) := by decide +kernel
theorem dL_law_666 : decode code 666 = .ok (.goto 239, 3) := by decide +kernel
theorem dL_law_669 : decode code 669 = .ok (.aload_n 1, 1) := by decide +kernel
theorem dL_law_670 : decode code 670 = .ok (.aload_n 0, 1) := by decide +kernel
theorem dL_law_671 : decode code 671 = .ok (.iload 4, 2) := by decide +kernel
theorem dL_law_673 : decode code 673 = .ok (.iconst 1, 1) := by decide +kernel
theorem dL_law_674 : decode code 674 = .ok (.iadd, 1) := by decide +kernel
theorem dL_law_675 : decode code 675 = .ok (.iaload, 1) := by decide +kernel
theorem dL_law_676 : decode code 676 = .ok (.aload_n 0, 1) := by decide +kernel
theorem dL_law_677 : decode code 677 = .ok (.iload 4, 2) := by decide +kernel
theorem dL_law_679 : decode code 679 = .ok (.iconst 2, 1) := by decide +kernel
theorem dL_law_680 : decode code 680 = .ok (.iadd, 1) := by decide +kernel
theorem dL_law_681 : decode code 681 = .ok (.iaload, 1) := by decide +kernel
theorem dL_law_682 : decode code 682 = .ok (.aload_n 3, 1) := by decide +kernel
theorem dL_law_683 : decode code 683 = .ok (.invokestatic 107, 3) := by decide +kernel
theorem dL_law_686 : decode code 686 = .ok (.istore 5, 2) := by decide +kernel
theorem dL_law_688 : decode code 688 = .ok (.aload_n 2, 1) := by decide +kernel
theorem dL_law_689 : decode code 689 = .ok (.aload_n 0, 1) := by decide +kernel
theorem dL_law_690 : decode code 690 = .ok (.iload 4, 2) := by decide +kernel
theorem dL_law_692 : decode code 692 = .ok (.iconst 1, 1) := by decide +kernel
theorem dL_law_693 : decode code 693 = .ok (.iadd, 1) := by decide +kernel
theorem dL_law_694 : decode code 694 = .ok (.iaload, 1) := by decide +kernel
theorem dL_law_695 : decode code 695 = .ok (.aload_n 0, 1) := by decide +kernel
theorem dL_law_696 : decode code 696 = .ok (.iload 4, 2) := by decide +kernel
theorem dL_law_698 : decode code 698 = .ok (.iconst 2, 1) := by decide +kernel
theorem dL_law_699 : decode code 699 = .ok (.iadd, 1) := by decide +kernel
theorem dL_law_700 : decode code 700 = .ok (.iaload, 1) := by decide +kernel
theorem dL_law_701 : decode code 701 = .ok (.invokevirtual 109, 3) := by decide +kernel
theorem dL_law_704 : decode code 704 = .ok (.istore 6, 2) := by decide +kernel
theorem dL_law_706 : decode code 706 = .ok (.aload_n 2, 1) := by decide +kernel
theorem dL_law_707 : decode code 707 = .ok (.invokevirtual 71, 3) := by decide +kernel
theorem dL_law_710 : decode code 710 = .ok (.iload 5, 2) := by decide +kernel
theorem dL_law_712 : decode code 712 = .ok (.if_icmp .eq 5, 3) := by decide +kernel
theorem dL_law_715 : decode code 715 = .ok (.iconst 0, 1) := by decide +kernel
theorem dL_law_716 : decode code 716 = .ok (.ireturn, 1) := by decide +kernel
theorem dL_law_717 : decode code 717 = .ok (.iload 5, 2) := by decide +kernel
theorem dL_law_719 : decode code 719 = .ok (.ifCond .ne 15, 3) := by decide +kernel
theorem dL_law_722 : decode code 722 = .ok (.aload_n 3, 1) := by decide +kernel
theorem dL_law_723 : decode code 723 = .ok (.iconst 0, 1) := by decide +kernel
theorem dL_law_724 : decode code 724 = .ok (.laload, 1) := by decide +kernel
theorem dL_law_725 : decode code 725 = .ok (.iload 6, 2) := by decide +kernel
theorem dL_law_727 : decode code 727 = .ok (.i2l, 1) := by decide +kernel
theorem dL_law_728 : decode code 728 = .ok (.lcmp, 1) := by decide +kernel
theorem dL_law_729 : decode code 729 = .ok (.ifCond .eq 5, 3) := by decide +kernel
theorem dL_law_732 : decode code 732 = .ok (.iconst 0, 1) := by decide +kernel
theorem dL_law_733 : decode code 733 = .ok (.ireturn, 1) := by decide +kernel
theorem dL_law_734 : decode code 734 = .ok (.goto 171, 3) := by decide +kernel
theorem dL_law_737 : decode code 737 = .ok (.aload_n 1, 1) := by decide +kernel
theorem dL_law_738 : decode code 738 = .ok (.aload_n 0, 1) := by decide +kernel
theorem dL_law_739 : decode code 739 = .ok (.iload 4, 2) := by decide +kernel
theorem dL_law_741 : decode code 741 = .ok (.iconst 1, 1) := by decide +kernel
theorem dL_law_742 : decode code 742 = .ok (.iadd, 1) := by decide +kernel
theorem dL_law_743 : decode code 743 = .ok (.iaload, 1) := by decide +kernel
theorem dL_law_744 : decode code 744 = .ok (.aload_n 3, 1) := by decide +kernel
theorem dL_law_745 : decode code 745 = .ok (.invokestatic 110, 3) := by decide +kernel
theorem dL_law_748 : decode code 748 = .ok (.istore 5, 2) := by decide +kernel
theorem dL_law_750 : decode code 750 = .ok (.aload_n 2, 1) := by decide +kernel
theorem dL_law_751 : decode code 751 = .ok (.aload_n 0, 1) := by decide +kernel
theorem dL_law_752 : decode code 752 = .ok (.iload 4, 2) := by decide +kernel
theorem dL_law_754 : decode code 754 = .ok (.iconst 1, 1) := by decide +kernel
theorem dL_law_755 : decode code 755 = .ok (.iadd, 1) := by decide +kernel
theorem dL_law_756 : decode code 756 = .ok (.iaload, 1) := by decide +kernel
theorem dL_law_757 : decode code 757 = .ok (.invokevirtual 112, 3) := by decide +kernel
theorem dL_law_760 : decode code 760 = .ok (.istore 6, 2) := by decide +kernel
theorem dL_law_762 : decode code 762 = .ok (.aload_n 2, 1) := by decide +kernel
theorem dL_law_763 : decode code 763 = .ok (.invokevirtual 71, 3) := by decide +kernel
theorem dL_law_766 : decode code 766 = .ok (.iload 5, 2) := by decide +kernel
theorem dL_law_768 : decode code 768 = .ok (.if_icmp .eq 5, 3) := by decide +kernel
theorem dL_law_771 : decode code 771 = .ok (.iconst 0, 1) := by decide +kernel
theorem dL_law_772 : decode code 772 = .ok (.ireturn, 1) := by decide +kernel
theorem dL_law_773 : decode code 773 = .ok (.iload 5, 2) := by decide +kernel
theorem dL_law_775 : decode code 775 = .ok (.ifCond .ne 15, 3) := by decide +kernel
theorem dL_law_778 : decode code 778 = .ok (.aload_n 3, 1) := by decide +kernel
theorem dL_law_779 : decode code 779 = .ok (.iconst 0, 1) := by decide +kernel
theorem dL_law_780 : decode code 780 = .ok (.laload, 1) := by decide +kernel
theorem dL_law_781 : decode code 781 = .ok (.iload 6, 2) := by decide +kernel
theorem dL_law_783 : decode code 783 = .ok (.i2l, 1) := by decide +kernel
theorem dL_law_784 : decode code 784 = .ok (.lcmp, 1) := by decide +kernel
theorem dL_law_785 : decode code 785 = .ok (.ifCond .eq 5, 3) := by decide +kernel
theorem dL_law_788 : decode code 788 = .ok (.iconst 0, 1) := by decide +kernel
theorem dL_law_789 : decode code 789 = .ok (.ireturn, 1) := by decide +kernel
theorem dL_law_790 : decode code 790 = .ok (.goto 115, 3) := by decide +kernel
theorem dL_law_793 : decode code 793 = .ok (.aload_n 1, 1) := by decide +kernel
theorem dL_law_794 : decode code 794 = .ok (.aload_n 0, 1) := by decide +kernel
theorem dL_law_795 : decode code 795 = .ok (.iload 4, 2) := by decide +kernel
theorem dL_law_797 : decode code 797 = .ok (.iconst 1, 1) := by decide +kernel
theorem dL_law_798 : decode code 798 = .ok (.iadd, 1) := by decide +kernel
theorem dL_law_799 : decode code 799 = .ok (.iaload, 1) := by decide +kernel
theorem dL_law_800 : decode code 800 = .ok (.aload_n 3, 1) := by decide +kernel
theorem dL_law_801 : decode code 801 = .ok (.invokestatic 113, 3) := by decide +kernel
theorem dL_law_804 : decode code 804 = .ok (.istore 5, 2) := by decide +kernel
theorem dL_law_806 : decode code 806 = .ok (.aload_n 2, 1) := by decide +kernel
theorem dL_law_807 : decode code 807 = .ok (.aload_n 0, 1) := by decide +kernel
theorem dL_law_808 : decode code 808 = .ok (.iload 4, 2) := by decide +kernel
theorem dL_law_810 : decode code 810 = .ok (.iconst 1, 1) := by decide +kernel
theorem dL_law_811 : decode code 811 = .ok (.iadd, 1) := by decide +kernel
theorem dL_law_812 : decode code 812 = .ok (.iaload, 1) := by decide +kernel
theorem dL_law_813 : decode code 813 = .ok (.invokevirtual 115, 3) := by decide +kernel
theorem dL_law_816 : decode code 816 = .ok (.istore 6, 2) := by decide +kernel
theorem dL_law_818 : decode code 818 = .ok (.aload_n 2, 1) := by decide +kernel
theorem dL_law_819 : decode code 819 = .ok (.invokevirtual 71, 3) := by decide +kernel
theorem dL_law_822 : decode code 822 = .ok (.iload 5, 2) := by decide +kernel
theorem dL_law_824 : decode code 824 = .ok (.if_icmp .eq 5, 3) := by decide +kernel
theorem dL_law_827 : decode code 827 = .ok (.iconst 0, 1) := by decide +kernel
theorem dL_law_828 : decode code 828 = .ok (.ireturn, 1) := by decide +kernel
theorem dL_law_829 : decode code 829 = .ok (.iload 5, 2) := by decide +kernel
theorem dL_law_831 : decode code 831 = .ok (.ifCond .ne 15, 3) := by decide +kernel
theorem dL_law_834 : decode code 834 = .ok (.aload_n 3, 1) := by decide +kernel
theorem dL_law_835 : decode code 835 = .ok (.iconst 0, 1) := by decide +kernel
theorem dL_law_836 : decode code 836 = .ok (.laload, 1) := by decide +kernel
theorem dL_law_837 : decode code 837 = .ok (.iload 6, 2) := by decide +kernel
theorem dL_law_839 : decode code 839 = .ok (.i2l, 1) := by decide +kernel
theorem dL_law_840 : decode code 840 = .ok (.lcmp, 1) := by decide +kernel
theorem dL_law_841 : decode code 841 = .ok (.ifCond .eq 5, 3) := by decide +kernel
theorem dL_law_844 : decode code 844 = .ok (.iconst 0, 1) := by decide +kernel
theorem dL_law_845 : decode code 845 = .ok (.ireturn, 1) := by decide +kernel
theorem dL_law_846 : decode code 846 = .ok (.goto 59, 3) := by decide +kernel
theorem dL_law_849 : decode code 849 = .ok (.aload_n 1, 1) := by decide +kernel
theorem dL_law_850 : decode code 850 = .ok (.aload_n 0, 1) := by decide +kernel
theorem dL_law_851 : decode code 851 = .ok (.iload 4, 2) := by decide +kernel
theorem dL_law_853 : decode code 853 = .ok (.iconst 1, 1) := by decide +kernel
theorem dL_law_854 : decode code 854 = .ok (.iadd, 1) := by decide +kernel
theorem dL_law_855 : decode code 855 = .ok (.iaload, 1) := by decide +kernel
theorem dL_law_856 : decode code 856 = .ok (.aload_n 3, 1) := by decide +kernel
theorem dL_law_857 : decode code 857 = .ok (.invokestatic 116, 3) := by decide +kernel
theorem dL_law_860 : decode code 860 = .ok (.istore 5, 2) := by decide +kernel
theorem dL_law_862 : decode code 862 = .ok (.aload_n 2, 1) := by decide +kernel
theorem dL_law_863 : decode code 863 = .ok (.aload_n 0, 1) := by decide +kernel
theorem dL_law_864 : decode code 864 = .ok (.iload 4, 2) := by decide +kernel
theorem dL_law_866 : decode code 866 = .ok (.iconst 1, 1) := by decide +kernel
theorem dL_law_867 : decode code 867 = .ok (.iadd, 1) := by decide +kernel
theorem dL_law_868 : decode code 868 = .ok (.iaload, 1) := by decide +kernel
theorem dL_law_869 : decode code 869 = .ok (.invokevirtual 118, 3) := by decide +kernel
theorem dL_law_872 : decode code 872 = .ok (.istore 6, 2) := by decide +kernel
theorem dL_law_874 : decode code 874 = .ok (.aload_n 2, 1) := by decide +kernel
theorem dL_law_875 : decode code 875 = .ok (.invokevirtual 71, 3) := by decide +kernel
theorem dL_law_878 : decode code 878 = .ok (.iload 5, 2) := by decide +kernel
theorem dL_law_880 : decode code 880 = .ok (.if_icmp .eq 5, 3) := by decide +kernel
theorem dL_law_883 : decode code 883 = .ok (.iconst 0, 1) := by decide +kernel
theorem dL_law_884 : decode code 884 = .ok (.ireturn, 1) := by decide +kernel
theorem dL_law_885 : decode code 885 = .ok (.iload 5, 2) := by decide +kernel
theorem dL_law_887 : decode code 887 = .ok (.ifCond .ne 15, 3) := by decide +kernel
theorem dL_law_890 : decode code 890 = .ok (.aload_n 3, 1) := by decide +kernel
theorem dL_law_891 : decode code 891 = .ok (.iconst 0, 1) := by decide +kernel
theorem dL_law_892 : decode code 892 = .ok (.laload, 1) := by decide +kernel
theorem dL_law_893 : decode code 893 = .ok (.iload 6, 2) := by decide +kernel
theorem dL_law_895 : decode code 895 = .ok (.i2l, 1) := by decide +kernel
theorem dL_law_896 : decode code 896 = .ok (.lcmp, 1) := by decide +kernel
theorem dL_law_897 : decode code 897 = .ok (.ifCond .eq 5, 3) := by decide +kernel
theorem dL_law_900 : decode code 900 = .ok (.iconst 0, 1) := by decide +kernel
theorem dL_law_901 : decode code 901 = .ok (.ireturn, 1) := by decide +kernel
theorem dL_law_902 : decode code 902 = .ok (.goto 3, 3) := by decide +kernel
theorem dL_law_905 : decode code 905 = .ok (.iinc 4 4, 3) := by decide +kernel
theorem dL_law_908 : decode code 908 = .ok (.goto (-885), 3) := by decide +kernel
theorem dL_law_911 : decode code 911 = .ok (.iconst 1, 1) := by decide +kernel
theorem dL_law_912 : decode code 912 = .ok (.ireturn, 1) := by decide +kernel
theorem gL_entry : Cond.codeWith yL_entry method_3_code 4 (some .int) [(0, 9, 12, 13)] ∈ gW ∧ Cond.methodLink RL 65 yL_entry ∈ gW ∧ Cond.static yL_entry ∈ gW := ⟨gWm (w := Cond.codeWith yL_entry method_3_code 4 (some .int) [(0, 9, 12, 13)]) 722 (by decide +kernel) (by decide +kernel), gWm (w := Cond.methodLink RL 65 yL_entry) 720 (by decide +kernel) (by decide +kernel), gWm (w := Cond.static yL_entry) 721 (by decide +kernel) (by decide +kernel)⟩
theorem gL_key : Cond.codeWith yL_key method_4_code 4 (some .int) [(0, 6, 9, 19), (0, 6, 12, 21), (0, 6, 15, 13)] ∈ gW ∧ Cond.methodLink RL 75 yL_key ∈ gW ∧ Cond.static yL_key ∈ gW := ⟨gWm (w := Cond.codeWith yL_key method_4_code 4 (some .int) [(0, 6, 9, 19), (0, 6, 12, 21), (0, 6, 15, 13)]) 830 (by decide +kernel) (by decide +kernel), gWm (w := Cond.methodLink RL 75 yL_key) 828 (by decide +kernel) (by decide +kernel), gWm (w := Cond.static yL_key) 829 (by decide +kernel) (by decide +kernel)⟩
theorem gL_field : Cond.codeWith yL_field method_5_code 5 (some .int) [(0, 7, 10, 19), (0, 7, 14, 27), (0, 7, 18, 21), (0, 7, 22, 13)] ∈ gW ∧ Cond.methodLink RL 79 yL_field ∈ gW ∧ Cond.static yL_field ∈ gW := ⟨gWm (w := Cond.codeWith yL_field method_5_code 5 (some .int) [(0, 7, 10, 19), (0, 7, 14, 27), (0, 7, 18, 21), (0, 7, 22, 13)]) 887 (by decide +kernel) (by decide +kernel), gWm (w := Cond.methodLink RL 79 yL_field) 885 (by decide +kernel) (by decide +kernel), gWm (w := Cond.static yL_field) 886 (by decide +kernel) (by decide +kernel)⟩
theorem gL_cite : Cond.codeWith yL_cite method_6_code 4 (some .int) [(0, 9, 12, 19), (0, 9, 15, 13)] ∈ gW ∧ Cond.methodLink RL 83 yL_cite ∈ gW ∧ Cond.static yL_cite ∈ gW := ⟨gWm (w := Cond.codeWith yL_cite method_6_code 4 (some .int) [(0, 9, 12, 19), (0, 9, 15, 13)]) 912 (by decide +kernel) (by decide +kernel), gWm (w := Cond.methodLink RL 83 yL_cite) 910 (by decide +kernel) (by decide +kernel), gWm (w := Cond.static yL_cite) 911 (by decide +kernel) (by decide +kernel)⟩
theorem gL_cross : Cond.codeWith yL_cross method_7_code 5 (some .int) [(0, 10, 13, 19)] ∈ gW ∧ Cond.methodLink RL 86 yL_cross ∈ gW ∧ Cond.static yL_cross ∈ gW := ⟨gWm (w := Cond.codeWith yL_cross method_7_code 5 (some .int) [(0, 10, 13, 19)]) 920 (by decide +kernel) (by decide +kernel), gWm (w := Cond.methodLink RL 86 yL_cross) 918 (by decide +kernel) (by decide +kernel), gWm (w := Cond.static yL_cross) 919 (by decide +kernel) (by decide +kernel)⟩
theorem gL_style : Cond.codeWith yL_style method_8_code 5 (some .int) [(0, 10, 13, 21)] ∈ gW ∧ Cond.methodLink RL 90 yL_style ∈ gW ∧ Cond.static yL_style ∈ gW := ⟨gWm (w := Cond.codeWith yL_style method_8_code 5 (some .int) [(0, 10, 13, 21)]) 931 (by decide +kernel) (by decide +kernel), gWm (w := Cond.methodLink RL 90 yL_style) 929 (by decide +kernel) (by decide +kernel), gWm (w := Cond.static yL_style) 930 (by decide +kernel) (by decide +kernel)⟩
theorem gL_row : Cond.codeWith yL_row method_9_code 4 (some .int) [(0, 9, 12, 27)] ∈ gW ∧ Cond.methodLink RL 97 yL_row ∈ gW ∧ Cond.static yL_row ∈ gW := ⟨gWm (w := Cond.codeWith yL_row method_9_code 4 (some .int) [(0, 9, 12, 27)]) 939 (by decide +kernel) (by decide +kernel), gWm (w := Cond.methodLink RL 97 yL_row) 937 (by decide +kernel) (by decide +kernel), gWm (w := Cond.static yL_row) 938 (by decide +kernel) (by decide +kernel)⟩
theorem gL_letter : Cond.codeWith yL_letter method_10_code 4 (some .int) [(0, 9, 12, 27)] ∈ gW ∧ Cond.methodLink RL 100 yL_letter ∈ gW ∧ Cond.static yL_letter ∈ gW := ⟨gWm (w := Cond.codeWith yL_letter method_10_code 4 (some .int) [(0, 9, 12, 27)]) 951 (by decide +kernel) (by decide +kernel), gWm (w := Cond.methodLink RL 100 yL_letter) 949 (by decide +kernel) (by decide +kernel), gWm (w := Cond.static yL_letter) 950 (by decide +kernel) (by decide +kernel)⟩
theorem gL_initials : Cond.codeWith yL_initials method_11_code 6 (some .int) [(0, 12, 15, 19), (0, 12, 19, 27)] ∈ gW ∧ Cond.methodLink RL 103 yL_initials ∈ gW ∧ Cond.static yL_initials ∈ gW := ⟨gWm (w := Cond.codeWith yL_initials method_11_code 6 (some .int) [(0, 12, 15, 19), (0, 12, 19, 27)]) 958 (by decide +kernel) (by decide +kernel), gWm (w := Cond.methodLink RL 103 yL_initials) 956 (by decide +kernel) (by decide +kernel), gWm (w := Cond.static yL_initials) 957 (by decide +kernel) (by decide +kernel)⟩
theorem gL_missing : Cond.codeWith yL_missing method_12_code 5 (some .int) [(0, 10, 13, 27)] ∈ gW ∧ Cond.methodLink RL 107 yL_missing ∈ gW ∧ Cond.static yL_missing ∈ gW := ⟨gWm (w := Cond.codeWith yL_missing method_12_code 5 (some .int) [(0, 10, 13, 27)]) 976 (by decide +kernel) (by decide +kernel), gWm (w := Cond.methodLink RL 107 yL_missing) 974 (by decide +kernel) (by decide +kernel), gWm (w := Cond.static yL_missing) 975 (by decide +kernel) (by decide +kernel)⟩
theorem gL_print : Cond.codeWith yL_print method_13_code 4 (some .int) [(0, 9, 12, 27)] ∈ gW ∧ Cond.methodLink RL 110 yL_print ∈ gW ∧ Cond.static yL_print ∈ gW := ⟨gWm (w := Cond.codeWith yL_print method_13_code 4 (some .int) [(0, 9, 12, 27)]) 984 (by decide +kernel) (by decide +kernel), gWm (w := Cond.methodLink RL 110 yL_print) 982 (by decide +kernel) (by decide +kernel), gWm (w := Cond.static yL_print) 983 (by decide +kernel) (by decide +kernel)⟩
theorem gL_at : Cond.codeWith yL_at method_14_code 4 (some .int) [(0, 9, 12, 27)] ∈ gW ∧ Cond.methodLink RL 113 yL_at ∈ gW ∧ Cond.static yL_at ∈ gW := ⟨gWm (w := Cond.codeWith yL_at method_14_code 4 (some .int) [(0, 9, 12, 27)]) 1000 (by decide +kernel) (by decide +kernel), gWm (w := Cond.methodLink RL 113 yL_at) 998 (by decide +kernel) (by decide +kernel), gWm (w := Cond.static yL_at) 999 (by decide +kernel) (by decide +kernel)⟩
theorem gL_twice : Cond.codeWith yL_twice method_15_code 4 (some .int) [(0, 9, 12, 27)] ∈ gW ∧ Cond.methodLink RL 116 yL_twice ∈ gW ∧ Cond.static yL_twice ∈ gW := ⟨gWm (w := Cond.codeWith yL_twice method_15_code 4 (some .int) [(0, 9, 12, 27)]) 1007 (by decide +kernel) (by decide +kernel), gWm (w := Cond.methodLink RL 116 yL_twice) 1005 (by decide +kernel) (by decide +kernel), gWm (w := Cond.static yL_twice) 1006 (by decide +kernel) (by decide +kernel)⟩
theorem gC_8 : Cond.classLink RL 8 "CiteLists" ∈ gW := gWm (w := Cond.classLink RL 8 "CiteLists") 94 (by decide +kernel) (by decide +kernel)
theorem gK_66 : Cond.methodLink RL 61 (mY 66) ∈ gW := gWm (w := Cond.methodLink RL 61 (mY 66)) 96 (by decide +kernel) (by decide +kernel)
theorem gK_73 : Cond.methodLink RL 93 (mY 73) ∈ gW := gWm (w := Cond.methodLink RL 93 (mY 73)) 258 (by decide +kernel) (by decide +kernel)
theorem gC_13 : Cond.classLink RL 13 "java/lang/UnsupportedOperationException" ∈ gW := gWm (w := Cond.classLink RL 13 "java/lang/UnsupportedOperationException") 723 (by decide +kernel) (by decide +kernel)
theorem gK_67 : Cond.methodLink RL 7 (mY 67) ∈ gW := gWm (w := Cond.methodLink RL 7 (mY 67)) 724 (by decide +kernel) (by decide +kernel)
theorem gC_19 : Cond.classLink RL 19 "java/util/NoSuchElementException" ∈ gW := gWm (w := Cond.classLink RL 19 "java/util/NoSuchElementException") 831 (by decide +kernel) (by decide +kernel)
theorem gC_21 : Cond.classLink RL 21 "java/lang/IllegalArgumentException" ∈ gW := gWm (w := Cond.classLink RL 21 "java/lang/IllegalArgumentException") 832 (by decide +kernel) (by decide +kernel)
theorem gK_68 : Cond.methodLink RL 15 (mY 68) ∈ gW := gWm (w := Cond.methodLink RL 15 (mY 68)) 833 (by decide +kernel) (by decide +kernel)
theorem gC_27 : Cond.classLink RL 27 "java/lang/IndexOutOfBoundsException" ∈ gW := gWm (w := Cond.classLink RL 27 "java/lang/IndexOutOfBoundsException") 888 (by decide +kernel) (by decide +kernel)
theorem gK_69 : Cond.methodLink RL 23 (mY 69) ∈ gW := gWm (w := Cond.methodLink RL 23 (mY 69)) 889 (by decide +kernel) (by decide +kernel)
theorem gK_70 : Cond.methodLink RL 29 (mY 70) ∈ gW := gWm (w := Cond.methodLink RL 29 (mY 70)) 913 (by decide +kernel) (by decide +kernel)
theorem gK_71 : Cond.methodLink RL 32 (mY 71) ∈ gW := gWm (w := Cond.methodLink RL 32 (mY 71)) 921 (by decide +kernel) (by decide +kernel)
theorem gK_72 : Cond.methodLink RL 36 (mY 72) ∈ gW := gWm (w := Cond.methodLink RL 36 (mY 72)) 932 (by decide +kernel) (by decide +kernel)
theorem gK_74 : Cond.methodLink RL 39 (mY 74) ∈ gW := gWm (w := Cond.methodLink RL 39 (mY 74)) 940 (by decide +kernel) (by decide +kernel)
theorem gK_75 : Cond.methodLink RL 42 (mY 75) ∈ gW := gWm (w := Cond.methodLink RL 42 (mY 75)) 952 (by decide +kernel) (by decide +kernel)
theorem gK_76 : Cond.methodLink RL 45 (mY 76) ∈ gW := gWm (w := Cond.methodLink RL 45 (mY 76)) 959 (by decide +kernel) (by decide +kernel)
theorem gK_77 : Cond.methodLink RL 49 (mY 77) ∈ gW := gWm (w := Cond.methodLink RL 49 (mY 77)) 977 (by decide +kernel) (by decide +kernel)
theorem gK_78 : Cond.methodLink RL 52 (mY 78) ∈ gW := gWm (w := Cond.methodLink RL 52 (mY 78)) 985 (by decide +kernel) (by decide +kernel)
theorem gK_79 : Cond.methodLink RL 55 (mY 79) ∈ gW := gWm (w := Cond.methodLink RL 55 (mY 79)) 1001 (by decide +kernel) (by decide +kernel)
theorem gK_80 : Cond.methodLink RL 58 (mY 80) ∈ gW := gWm (w := Cond.methodLink RL 58 (mY 80)) 1008 (by decide +kernel) (by decide +kernel)
theorem gC_62 : Cond.classLink RL 62 "CiteListsModel" ∈ gW := gWm (w := Cond.classLink RL 62 "CiteListsModel") 1013 (by decide +kernel) (by decide +kernel)
theorem gK_91 : Cond.methodLink RL 64 (mY 91) ∈ gW := gWm (w := Cond.methodLink RL 64 (mY 91)) 1015 (by decide +kernel) (by decide +kernel)
theorem gK_92 : Cond.methodLink RL 71 (mY 92) ∈ gW := gWm (w := Cond.methodLink RL 71 (mY 92)) 1134 (by decide +kernel) (by decide +kernel)
theorem gK_94 : Cond.methodLink RL 70 (mY 94) ∈ gW := gWm (w := Cond.methodLink RL 70 (mY 94)) 1138 (by decide +kernel) (by decide +kernel)
theorem gK_98 : Cond.methodLink RL 78 (mY 98) ∈ gW := gWm (w := Cond.methodLink RL 78 (mY 98)) 1142 (by decide +kernel) (by decide +kernel)
theorem gK_99 : Cond.methodLink RL 82 (mY 99) ∈ gW := gWm (w := Cond.methodLink RL 82 (mY 99)) 1159 (by decide +kernel) (by decide +kernel)
theorem gK_100 : Cond.methodLink RL 85 (mY 100) ∈ gW := gWm (w := Cond.methodLink RL 85 (mY 100)) 1163 (by decide +kernel) (by decide +kernel)
theorem gK_101 : Cond.methodLink RL 89 (mY 101) ∈ gW := gWm (w := Cond.methodLink RL 89 (mY 101)) 1167 (by decide +kernel) (by decide +kernel)
theorem gK_102 : Cond.methodLink RL 92 (mY 102) ∈ gW := gWm (w := Cond.methodLink RL 92 (mY 102)) 1171 (by decide +kernel) (by decide +kernel)
theorem gK_141 : Cond.methodLink RL 96 (mY 141) ∈ gW := gWm (w := Cond.methodLink RL 96 (mY 141)) 1175 (by decide +kernel) (by decide +kernel)
theorem gK_143 : Cond.methodLink RL 99 (mY 143) ∈ gW := gWm (w := Cond.methodLink RL 99 (mY 143)) 1335 (by decide +kernel) (by decide +kernel)
theorem gK_144 : Cond.methodLink RL 102 (mY 144) ∈ gW := gWm (w := Cond.methodLink RL 102 (mY 144)) 1343 (by decide +kernel) (by decide +kernel)
theorem gK_145 : Cond.methodLink RL 106 (mY 145) ∈ gW := gWm (w := Cond.methodLink RL 106 (mY 145)) 1347 (by decide +kernel) (by decide +kernel)
theorem gK_146 : Cond.methodLink RL 109 (mY 146) ∈ gW := gWm (w := Cond.methodLink RL 109 (mY 146)) 1351 (by decide +kernel) (by decide +kernel)
theorem gK_147 : Cond.methodLink RL 112 (mY 147) ∈ gW := gWm (w := Cond.methodLink RL 112 (mY 147)) 1355 (by decide +kernel) (by decide +kernel)
theorem gK_148 : Cond.methodLink RL 115 (mY 148) ∈ gW := gWm (w := Cond.methodLink RL 115 (mY 148)) 1361 (by decide +kernel) (by decide +kernel)
theorem gK_149 : Cond.methodLink RL 118 (mY 149) ∈ gW := gWm (w := Cond.methodLink RL 118 (mY 149)) 1365 (by decide +kernel) (by decide +kernel)
theorem gI_L : Cond.initialized RL ∈ gW := gWm (w := Cond.initialized RL) 66 (by decide +kernel) (by decide +kernel)
theorem gA_long : Cond.arrayClass .long ∈ gW := gWm (w := Cond.arrayClass .long) 1369 (by decide +kernel) (by decide +kernel)
