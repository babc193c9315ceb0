/-- methods of nest mates -/
def nM : List (String × Nat × MethodName) := [(ownS 1, 11, mY 52), (ownS 4, 11, mY 52), (ownS 4, 38, mY 16), (ownS 4, 108, mY 89), (ownS 5, 11, mY 18), (ownS 5, 20, mY 52), (ownS 6, 46, mY 90), (ownS 7, 28, mY 5), (ownS 7, 35, mY 52), (ownS 7, 42, mY 18)]
def spN : Nat → MethodName
  | 1000 => objectInit
  | 1001 => arraycopyName
  | 1002 => Lib.Math.max.name
  | 1003 => Lib.Math.min.name
  | _ => ⟨"java/lang/Object", "getClass", "()Ljava/lang/Class;"⟩
def cRf (q : Nat × Nat × Nat) : Prop := (q.2.2 < 172 ∧ (Cond.methodLink (ownS q.1) q.2.1 (mY q.2.2) ∈ gW ∨ ((ownS q.1, q.2.1, mY q.2.2) ∈ nM ∧ (mI q.2.2 = true ∨ mS q.2.2 = true)))) ∨ (1000 ≤ q.2.2 ∧ q.2.2 ≤ 1004 ∧ Cond.methodLink (ownS q.1) q.2.1 (spN q.2.2) ∈ gW)
theorem gq_0_1 : cRf (0, 1, 157) := Or.inl ⟨by decide, Or.inl gc_0_1⟩
theorem gq_0_66 : cRf (0, 66, 167) := Or.inl ⟨by decide, Or.inl gc_0_66⟩
theorem gq_0_69 : cRf (0, 69, 159) := Or.inl ⟨by decide, Or.inl gc_0_69⟩
theorem gq_0_73 : cRf (0, 73, 170) := Or.inl ⟨by decide, Or.inl gc_0_73⟩
theorem gq_0_79 : cRf (0, 79, 1002) := Or.inr ⟨by decide, by decide, gc_0_79⟩
theorem gq_0_118 : cRf (0, 118, 169) := Or.inl ⟨by decide, Or.inl gc_0_118⟩
theorem gq_0_123 : cRf (0, 123, 162) := Or.inl ⟨by decide, Or.inl gc_0_123⟩
theorem gq_0_129 : cRf (0, 129, 160) := Or.inl ⟨by decide, Or.inl gc_0_129⟩
theorem gq_0_131 : cRf (0, 131, 165) := Or.inl ⟨by decide, Or.inl gc_0_131⟩
theorem gq_1_3 : cRf (1, 3, 1000) := Or.inr ⟨by decide, by decide, gc_1_3⟩
theorem gq_1_11 : cRf (1, 11, 52) := Or.inl ⟨by decide, Or.inr ⟨by decide +kernel, by decide⟩⟩
theorem gq_1_33 : cRf (1, 33, 3) := Or.inl ⟨by decide, Or.inl gc_1_33⟩
theorem gq_1_37 : cRf (1, 37, 55) := Or.inl ⟨by decide, Or.inl gc_1_37⟩
theorem gq_1_41 : cRf (1, 41, 1) := Or.inl ⟨by decide, Or.inl gc_1_41⟩
theorem gq_2_3 : cRf (2, 3, 1000) := Or.inr ⟨by decide, by decide, gc_2_3⟩
theorem gq_2_11 : cRf (2, 11, 158) := Or.inl ⟨by decide, Or.inl gc_2_11⟩
theorem gq_2_36 : cRf (2, 36, 163) := Or.inl ⟨by decide, Or.inl gc_2_36⟩
theorem gq_2_46 : cRf (2, 46, 161) := Or.inl ⟨by decide, Or.inl gc_2_46⟩
theorem gq_2_50 : cRf (2, 50, 38) := Or.inl ⟨by decide, Or.inl gc_2_50⟩
theorem gq_2_53 : cRf (2, 53, 166) := Or.inl ⟨by decide, Or.inl gc_2_53⟩
theorem gq_2_57 : cRf (2, 57, 39) := Or.inl ⟨by decide, Or.inl gc_2_57⟩
theorem gq_2_60 : cRf (2, 60, 40) := Or.inl ⟨by decide, Or.inl gc_2_60⟩
theorem gq_2_68 : cRf (2, 68, 64) := Or.inl ⟨by decide, Or.inl gc_2_68⟩
theorem gq_2_74 : cRf (2, 74, 164) := Or.inl ⟨by decide, Or.inl gc_2_74⟩
theorem gq_2_78 : cRf (2, 78, 12) := Or.inl ⟨by decide, Or.inl gc_2_78⟩
theorem gq_2_82 : cRf (2, 82, 43) := Or.inl ⟨by decide, Or.inl gc_2_82⟩
theorem gq_2_86 : cRf (2, 86, 42) := Or.inl ⟨by decide, Or.inl gc_2_86⟩
theorem gq_2_95 : cRf (2, 95, 55) := Or.inl ⟨by decide, Or.inl gc_2_95⟩
theorem gq_2_99 : cRf (2, 99, 14) := Or.inl ⟨by decide, Or.inl gc_2_99⟩
theorem gq_2_102 : cRf (2, 102, 65) := Or.inl ⟨by decide, Or.inl gc_2_102⟩
theorem gq_2_114 : cRf (2, 114, 2) := Or.inl ⟨by decide, Or.inl gc_2_114⟩
theorem gq_3_1 : cRf (3, 1, 1000) := Or.inr ⟨by decide, by decide, gc_3_1⟩
theorem gq_4_3 : cRf (4, 3, 1000) := Or.inr ⟨by decide, by decide, gc_4_3⟩
theorem gq_4_11 : cRf (4, 11, 52) := Or.inl ⟨by decide, Or.inr ⟨by decide +kernel, by decide⟩⟩
theorem gq_4_31 : cRf (4, 31, 158) := Or.inl ⟨by decide, Or.inl gc_4_31⟩
theorem gq_4_38 : cRf (4, 38, 16) := Or.inl ⟨by decide, Or.inr ⟨by decide +kernel, by decide⟩⟩
theorem gq_4_46 : cRf (4, 46, 54) := Or.inl ⟨by decide, Or.inl gc_4_46⟩
theorem gq_4_50 : cRf (4, 50, 56) := Or.inl ⟨by decide, Or.inl gc_4_50⟩
theorem gq_4_54 : cRf (4, 54, 21) := Or.inl ⟨by decide, Or.inl gc_4_54⟩
theorem gq_4_58 : cRf (4, 58, 22) := Or.inl ⟨by decide, Or.inl gc_4_58⟩
theorem gq_4_62 : cRf (4, 62, 23) := Or.inl ⟨by decide, Or.inl gc_4_62⟩
theorem gq_4_65 : cRf (4, 65, 24) := Or.inl ⟨by decide, Or.inl gc_4_65⟩
theorem gq_4_69 : cRf (4, 69, 25) := Or.inl ⟨by decide, Or.inl gc_4_69⟩
theorem gq_4_73 : cRf (4, 73, 26) := Or.inl ⟨by decide, Or.inl gc_4_73⟩
theorem gq_4_77 : cRf (4, 77, 161) := Or.inl ⟨by decide, Or.inl gc_4_77⟩
theorem gq_4_78 : cRf (4, 78, 166) := Or.inl ⟨by decide, Or.inl gc_4_78⟩
theorem gq_4_82 : cRf (4, 82, 163) := Or.inl ⟨by decide, Or.inl gc_4_82⟩
theorem gq_4_86 : cRf (4, 86, 27) := Or.inl ⟨by decide, Or.inl gc_4_86⟩
theorem gq_4_105 : cRf (4, 105, 28) := Or.inl ⟨by decide, Or.inl gc_4_105⟩
theorem gq_4_108 : cRf (4, 108, 89) := Or.inl ⟨by decide, Or.inr ⟨by decide +kernel, by decide⟩⟩
theorem gq_4_111 : cRf (4, 111, 29) := Or.inl ⟨by decide, Or.inl gc_4_111⟩
theorem gq_4_115 : cRf (4, 115, 17) := Or.inl ⟨by decide, Or.inl gc_4_115⟩
theorem gq_4_119 : cRf (4, 119, 34) := Or.inl ⟨by decide, Or.inl gc_4_119⟩
theorem gq_4_123 : cRf (4, 123, 57) := Or.inl ⟨by decide, Or.inl gc_4_123⟩
theorem gq_4_127 : cRf (4, 127, 1002) := Or.inr ⟨by decide, by decide, gc_4_127⟩
theorem gq_4_137 : cRf (4, 137, 59) := Or.inl ⟨by decide, Or.inl gc_4_137⟩
theorem gq_4_141 : cRf (4, 141, 31) := Or.inl ⟨by decide, Or.inl gc_4_141⟩
theorem gq_4_145 : cRf (4, 145, 30) := Or.inl ⟨by decide, Or.inl gc_4_145⟩
theorem gq_4_147 : cRf (4, 147, 33) := Or.inl ⟨by decide, Or.inl gc_4_147⟩
theorem gq_5_3 : cRf (5, 3, 1000) := Or.inr ⟨by decide, by decide, gc_5_3⟩
theorem gq_5_11 : cRf (5, 11, 18) := Or.inl ⟨by decide, Or.inr ⟨by decide +kernel, by decide⟩⟩
theorem gq_5_20 : cRf (5, 20, 52) := Or.inl ⟨by decide, Or.inr ⟨by decide +kernel, by decide⟩⟩
theorem gq_5_45 : cRf (5, 45, 3) := Or.inl ⟨by decide, Or.inl gc_5_45⟩
theorem gq_5_51 : cRf (5, 51, 20) := Or.inl ⟨by decide, Or.inl gc_5_51⟩
theorem gq_5_55 : cRf (5, 55, 53) := Or.inl ⟨by decide, Or.inl gc_5_55⟩
theorem gq_5_58 : cRf (5, 58, 19) := Or.inl ⟨by decide, Or.inl gc_5_58⟩
theorem gq_5_62 : cRf (5, 62, 32) := Or.inl ⟨by decide, Or.inl gc_5_62⟩
theorem gq_5_66 : cRf (5, 66, 63) := Or.inl ⟨by decide, Or.inl gc_5_66⟩
theorem gq_5_69 : cRf (5, 69, 33) := Or.inl ⟨by decide, Or.inl gc_5_69⟩
theorem gq_5_72 : cRf (5, 72, 41) := Or.inl ⟨by decide, Or.inl gc_5_72⟩
theorem gq_5_75 : cRf (5, 75, 35) := Or.inl ⟨by decide, Or.inl gc_5_75⟩
theorem gq_5_78 : cRf (5, 78, 60) := Or.inl ⟨by decide, Or.inl gc_5_78⟩
theorem gq_5_81 : cRf (5, 81, 57) := Or.inl ⟨by decide, Or.inl gc_5_81⟩
theorem gq_5_85 : cRf (5, 85, 65) := Or.inl ⟨by decide, Or.inl gc_5_85⟩
theorem gq_5_89 : cRf (5, 89, 44) := Or.inl ⟨by decide, Or.inl gc_5_89⟩
theorem gq_5_92 : cRf (5, 92, 45) := Or.inl ⟨by decide, Or.inl gc_5_92⟩
theorem gq_5_99 : cRf (5, 99, 61) := Or.inl ⟨by decide, Or.inl gc_5_99⟩
theorem gq_5_103 : cRf (5, 103, 58) := Or.inl ⟨by decide, Or.inl gc_5_103⟩
theorem gq_5_106 : cRf (5, 106, 37) := Or.inl ⟨by decide, Or.inl gc_5_106⟩
theorem gq_5_109 : cRf (5, 109, 54) := Or.inl ⟨by decide, Or.inl gc_5_109⟩
theorem gq_5_110 : cRf (5, 110, 30) := Or.inl ⟨by decide, Or.inl gc_5_110⟩
theorem gq_5_114 : cRf (5, 114, 31) := Or.inl ⟨by decide, Or.inl gc_5_114⟩
theorem gq_5_119 : cRf (5, 119, 59) := Or.inl ⟨by decide, Or.inl gc_5_119⟩
theorem gq_5_125 : cRf (5, 125, 2) := Or.inl ⟨by decide, Or.inl gc_5_125⟩
theorem gq_5_128 : cRf (5, 128, 47) := Or.inl ⟨by decide, Or.inl gc_5_128⟩
theorem gq_5_132 : cRf (5, 132, 48) := Or.inl ⟨by decide, Or.inl gc_5_132⟩
theorem gq_5_135 : cRf (5, 135, 36) := Or.inl ⟨by decide, Or.inl gc_5_135⟩
theorem gq_5_140 : cRf (5, 140, 49) := Or.inl ⟨by decide, Or.inl gc_5_140⟩
theorem gq_5_144 : cRf (5, 144, 50) := Or.inl ⟨by decide, Or.inl gc_5_144⟩
theorem gq_5_147 : cRf (5, 147, 62) := Or.inl ⟨by decide, Or.inl gc_5_147⟩
theorem gq_5_159 : cRf (5, 159, 51) := Or.inl ⟨by decide, Or.inl gc_5_159⟩
theorem gq_6_1 : cRf (6, 1, 1000) := Or.inr ⟨by decide, by decide, gc_6_1⟩
theorem gq_6_17 : cRf (6, 17, 1001) := Or.inr ⟨by decide, by decide, gc_6_17⟩
theorem gq_6_23 : cRf (6, 23, 150) := Or.inl ⟨by decide, Or.inl gc_6_23⟩
theorem gq_6_28 : cRf (6, 28, 151) := Or.inl ⟨by decide, Or.inl gc_6_28⟩
theorem gq_6_32 : cRf (6, 32, 57) := Or.inl ⟨by decide, Or.inl gc_6_32⟩
theorem gq_6_36 : cRf (6, 36, 61) := Or.inl ⟨by decide, Or.inl gc_6_36⟩
theorem gq_6_40 : cRf (6, 40, 1002) := Or.inr ⟨by decide, by decide, gc_6_40⟩
theorem gq_6_46 : cRf (6, 46, 90) := Or.inl ⟨by decide, Or.inr ⟨by decide +kernel, by decide⟩⟩
theorem gq_6_52 : cRf (6, 52, 1003) := Or.inr ⟨by decide, by decide, gc_6_52⟩
theorem gq_6_55 : cRf (6, 55, 64) := Or.inl ⟨by decide, Or.inl gc_6_55⟩
theorem gq_7_3 : cRf (7, 3, 1000) := Or.inr ⟨by decide, by decide, gc_7_3⟩
theorem gq_7_11 : cRf (7, 11, 158) := Or.inl ⟨by decide, Or.inl gc_7_11⟩
theorem gq_7_28 : cRf (7, 28, 5) := Or.inl ⟨by decide, Or.inr ⟨by decide +kernel, by decide⟩⟩
theorem gq_7_35 : cRf (7, 35, 52) := Or.inl ⟨by decide, Or.inr ⟨by decide +kernel, by decide⟩⟩
theorem gq_7_42 : cRf (7, 42, 18) := Or.inl ⟨by decide, Or.inr ⟨by decide +kernel, by decide⟩⟩
theorem gq_7_50 : cRf (7, 50, 161) := Or.inl ⟨by decide, Or.inl gc_7_50⟩
theorem gq_7_63 : cRf (7, 63, 0) := Or.inl ⟨by decide, Or.inl gc_7_63⟩
theorem gq_7_66 : cRf (7, 66, 166) := Or.inl ⟨by decide, Or.inl gc_7_66⟩
theorem gq_7_70 : cRf (7, 70, 81) := Or.inl ⟨by decide, Or.inl gc_7_70⟩
theorem gq_7_77 : cRf (7, 77, 86) := Or.inl ⟨by decide, Or.inl gc_7_77⟩
theorem gq_7_86 : cRf (7, 86, 1) := Or.inl ⟨by decide, Or.inl gc_7_86⟩
theorem gq_7_92 : cRf (7, 92, 4) := Or.inl ⟨by decide, Or.inl gc_7_92⟩
theorem gq_7_105 : cRf (7, 105, 8) := Or.inl ⟨by decide, Or.inl gc_7_105⟩
theorem gq_7_108 : cRf (7, 108, 163) := Or.inl ⟨by decide, Or.inl gc_7_108⟩
theorem gq_7_112 : cRf (7, 112, 83) := Or.inl ⟨by decide, Or.inl gc_7_112⟩
theorem gq_7_116 : cRf (7, 116, 9) := Or.inl ⟨by decide, Or.inl gc_7_116⟩
theorem gq_7_120 : cRf (7, 120, 10) := Or.inl ⟨by decide, Or.inl gc_7_120⟩
theorem gq_7_124 : cRf (7, 124, 11) := Or.inl ⟨by decide, Or.inl gc_7_124⟩
theorem gq_7_127 : cRf (7, 127, 13) := Or.inl ⟨by decide, Or.inl gc_7_127⟩
theorem gq_7_130 : cRf (7, 130, 6) := Or.inl ⟨by decide, Or.inl gc_7_130⟩
theorem gq_7_131 : cRf (7, 131, 7) := Or.inl ⟨by decide, Or.inl gc_7_131⟩
theorem gq_7_134 : cRf (7, 134, 46) := Or.inl ⟨by decide, Or.inl gc_7_134⟩
theorem gq_7_139 : cRf (7, 139, 15) := Or.inl ⟨by decide, Or.inl gc_7_139⟩
theorem gq_7_142 : cRf (7, 142, 82) := Or.inl ⟨by decide, Or.inl gc_7_142⟩
theorem gq_7_154 : cRf (7, 154, 3) := Or.inl ⟨by decide, Or.inl gc_7_154⟩
theorem gq_7_157 : cRf (7, 157, 20) := Or.inl ⟨by decide, Or.inl gc_7_157⟩
theorem gq_7_161 : cRf (7, 161, 19) := Or.inl ⟨by decide, Or.inl gc_7_161⟩
theorem gq_7_164 : cRf (7, 164, 53) := Or.inl ⟨by decide, Or.inl gc_7_164⟩
theorem gq_7_167 : cRf (7, 167, 33) := Or.inl ⟨by decide, Or.inl gc_7_167⟩
theorem gq_7_171 : cRf (7, 171, 54) := Or.inl ⟨by decide, Or.inl gc_7_171⟩
theorem gq_7_172 : cRf (7, 172, 85) := Or.inl ⟨by decide, Or.inl gc_7_172⟩
theorem gq_7_188 : cRf (7, 188, 84) := Or.inl ⟨by decide, Or.inl gc_7_188⟩
theorem gq_7_194 : cRf (7, 194, 60) := Or.inl ⟨by decide, Or.inl gc_7_194⟩
theorem gq_7_206 : cRf (7, 206, 55) := Or.inl ⟨by decide, Or.inl gc_7_206⟩
theorem gq_7_210 : cRf (7, 210, 65) := Or.inl ⟨by decide, Or.inl gc_7_210⟩
theorem gq_7_222 : cRf (7, 222, 59) := Or.inl ⟨by decide, Or.inl gc_7_222⟩
theorem gq_7_225 : cRf (7, 225, 62) := Or.inl ⟨by decide, Or.inl gc_7_225⟩
theorem gq_7_228 : cRf (7, 228, 57) := Or.inl ⟨by decide, Or.inl gc_7_228⟩
theorem gq_7_233 : cRf (7, 233, 56) := Or.inl ⟨by decide, Or.inl gc_7_233⟩
theorem gq_7_237 : cRf (7, 237, 87) := Or.inl ⟨by decide, Or.inl gc_7_237⟩
theorem gq_7_241 : cRf (7, 241, 88) := Or.inl ⟨by decide, Or.inl gc_7_241⟩
theorem gq_7_251 : cRf (7, 251, 150) := Or.inl ⟨by decide, Or.inl gc_7_251⟩
theorem gq_7_256 : cRf (7, 256, 151) := Or.inl ⟨by decide, Or.inl gc_7_256⟩
theorem gq_8_1 : cRf (8, 1, 1000) := Or.inr ⟨by decide, by decide, gc_8_1⟩
theorem gq_8_92 : cRf (8, 92, 95) := Or.inl ⟨by decide, Or.inl gc_8_92⟩
theorem gq_8_96 : cRf (8, 96, 96) := Or.inl ⟨by decide, Or.inl gc_8_96⟩
theorem gq_8_100 : cRf (8, 100, 93) := Or.inl ⟨by decide, Or.inl gc_8_100⟩
theorem gq_8_103 : cRf (8, 103, 97) := Or.inl ⟨by decide, Or.inl gc_8_103⟩
theorem gq_8_119 : cRf (8, 119, 106) := Or.inl ⟨by decide, Or.inl gc_8_119⟩
theorem gq_8_122 : cRf (8, 122, 107) := Or.inl ⟨by decide, Or.inl gc_8_122⟩
theorem gq_8_125 : cRf (8, 125, 103) := Or.inl ⟨by decide, Or.inl gc_8_125⟩
theorem gq_8_129 : cRf (8, 129, 109) := Or.inl ⟨by decide, Or.inl gc_8_129⟩
theorem gq_8_133 : cRf (8, 133, 108) := Or.inl ⟨by decide, Or.inl gc_8_133⟩
theorem gq_8_141 : cRf (8, 141, 111) := Or.inl ⟨by decide, Or.inl gc_8_141⟩
theorem gq_8_145 : cRf (8, 145, 115) := Or.inl ⟨by decide, Or.inl gc_8_145⟩
theorem gq_8_149 : cRf (8, 149, 116) := Or.inl ⟨by decide, Or.inl gc_8_149⟩
theorem gq_8_156 : cRf (8, 156, 105) := Or.inl ⟨by decide, Or.inl gc_8_156⟩
theorem gq_8_159 : cRf (8, 159, 119) := Or.inl ⟨by decide, Or.inl gc_8_159⟩
theorem gq_8_162 : cRf (8, 162, 120) := Or.inl ⟨by decide, Or.inl gc_8_162⟩
theorem gq_8_166 : cRf (8, 166, 110) := Or.inl ⟨by decide, Or.inl gc_8_166⟩
theorem gq_8_170 : cRf (8, 170, 121) := Or.inl ⟨by decide, Or.inl gc_8_170⟩
theorem gq_8_173 : cRf (8, 173, 113) := Or.inl ⟨by decide, Or.inl gc_8_173⟩
theorem gq_8_176 : cRf (8, 176, 122) := Or.inl ⟨by decide, Or.inl gc_8_176⟩
theorem gq_8_179 : cRf (8, 179, 123) := Or.inl ⟨by decide, Or.inl gc_8_179⟩
theorem gq_8_186 : cRf (8, 186, 104) := Or.inl ⟨by decide, Or.inl gc_8_186⟩
theorem gq_8_189 : cRf (8, 189, 124) := Or.inl ⟨by decide, Or.inl gc_8_189⟩
theorem gq_8_192 : cRf (8, 192, 118) := Or.inl ⟨by decide, Or.inl gc_8_192⟩
theorem gq_8_195 : cRf (8, 195, 114) := Or.inl ⟨by decide, Or.inl gc_8_195⟩
theorem gq_8_198 : cRf (8, 198, 117) := Or.inl ⟨by decide, Or.inl gc_8_198⟩
theorem gq_8_203 : cRf (8, 203, 112) := Or.inl ⟨by decide, Or.inl gc_8_203⟩
theorem gq_8_209 : cRf (8, 209, 126) := Or.inl ⟨by decide, Or.inl gc_8_209⟩
theorem gq_8_212 : cRf (8, 212, 127) := Or.inl ⟨by decide, Or.inl gc_8_212⟩
theorem gq_8_215 : cRf (8, 215, 128) := Or.inl ⟨by decide, Or.inl gc_8_215⟩
theorem gq_8_219 : cRf (8, 219, 130) := Or.inl ⟨by decide, Or.inl gc_8_219⟩
theorem gq_8_226 : cRf (8, 226, 132) := Or.inl ⟨by decide, Or.inl gc_8_226⟩
theorem gq_8_229 : cRf (8, 229, 133) := Or.inl ⟨by decide, Or.inl gc_8_229⟩
theorem gq_8_234 : cRf (8, 234, 135) := Or.inl ⟨by decide, Or.inl gc_8_234⟩
theorem gq_8_241 : cRf (8, 241, 137) := Or.inl ⟨by decide, Or.inl gc_8_241⟩
theorem gq_8_244 : cRf (8, 244, 134) := Or.inl ⟨by decide, Or.inl gc_8_244⟩
theorem gq_8_247 : cRf (8, 247, 136) := Or.inl ⟨by decide, Or.inl gc_8_247⟩
theorem gq_8_253 : cRf (8, 253, 139) := Or.inl ⟨by decide, Or.inl gc_8_253⟩
theorem gq_8_256 : cRf (8, 256, 125) := Or.inl ⟨by decide, Or.inl gc_8_256⟩
theorem gq_8_259 : cRf (8, 259, 129) := Or.inl ⟨by decide, Or.inl gc_8_259⟩
theorem gq_8_262 : cRf (8, 262, 131) := Or.inl ⟨by decide, Or.inl gc_8_262⟩
theorem gq_8_265 : cRf (8, 265, 138) := Or.inl ⟨by decide, Or.inl gc_8_265⟩
theorem gq_8_268 : cRf (8, 268, 140) := Or.inl ⟨by decide, Or.inl gc_8_268⟩
theorem gq_8_275 : cRf (8, 275, 142) := Or.inl ⟨by decide, Or.inl gc_8_275⟩
theorem gq_9_335 : cRf (9, 335, 152) := Or.inl ⟨by decide, Or.inl gc_9_335⟩
theorem gq_9_492 : cRf (9, 492, 153) := Or.inl ⟨by decide, Or.inl gc_9_492⟩
theorem gq_9_495 : cRf (9, 495, 155) := Or.inl ⟨by decide, Or.inl gc_9_495⟩
theorem gq_9_1059 : cRf (9, 1059, 171) := Or.inl ⟨by decide, Or.inl gc_9_1059⟩
theorem gq_10_9 : cRf (10, 9, 154) := Or.inl ⟨by decide, Or.inl gc_10_9⟩
theorem gq_12_1 : cRf (12, 1, 1000) := Or.inr ⟨by decide, by decide, gc_12_1⟩
theorem gq_13_1 : cRf (13, 1, 156) := Or.inl ⟨by decide, Or.inl gc_13_1⟩
theorem gq_14_86 : cRf (14, 86, 1004) := Or.inr ⟨by decide, by decide, gc_14_86⟩
theorem gq_14_150 : cRf (14, 150, 1001) := Or.inr ⟨by decide, by decide, gc_14_150⟩
theorem gq_14_300 : cRf (14, 300, 168) := Or.inl ⟨by decide, Or.inl gc_14_300⟩
theorem gq_14_304 : cRf (14, 304, 1003) := Or.inr ⟨by decide, by decide, gc_14_304⟩
theorem gq_15_105 : cRf (15, 105, 171) := Or.inl ⟨by decide, Or.inl gc_15_105⟩
theorem gq_16_194 : cRf (16, 194, 1002) := Or.inr ⟨by decide, by decide, gc_16_194⟩
def cRl_0 : List (Nat × Nat × Nat) := [(0, 1, 157), (0, 66, 167), (0, 69, 159), (0, 73, 170), (0, 79, 1002), (0, 118, 169), (0, 123, 162), (0, 129, 160), (0, 131, 165), (1, 3, 1000), (1, 11, 52), (1, 33, 3), (1, 37, 55), (1, 41, 1), (2, 3, 1000), (2, 11, 158), (2, 36, 163), (2, 46, 161), (2, 50, 38), (2, 53, 166)]
theorem grl_0 : ∀ q ∈ cRl_0, cRf q := List.forall_mem_cons.mpr ⟨gq_0_1, List.forall_mem_cons.mpr ⟨gq_0_66, List.forall_mem_cons.mpr ⟨gq_0_69, List.forall_mem_cons.mpr ⟨gq_0_73, List.forall_mem_cons.mpr ⟨gq_0_79, List.forall_mem_cons.mpr ⟨gq_0_118, List.forall_mem_cons.mpr ⟨gq_0_123, List.forall_mem_cons.mpr ⟨gq_0_129, List.forall_mem_cons.mpr ⟨gq_0_131, List.forall_mem_cons.mpr ⟨gq_1_3, List.forall_mem_cons.mpr ⟨gq_1_11, List.forall_mem_cons.mpr ⟨gq_1_33, List.forall_mem_cons.mpr ⟨gq_1_37, List.forall_mem_cons.mpr ⟨gq_1_41, List.forall_mem_cons.mpr ⟨gq_2_3, List.forall_mem_cons.mpr ⟨gq_2_11, List.forall_mem_cons.mpr ⟨gq_2_36, List.forall_mem_cons.mpr ⟨gq_2_46, List.forall_mem_cons.mpr ⟨gq_2_50, List.forall_mem_cons.mpr ⟨gq_2_53, fun _ h => absurd h List.not_mem_nil⟩⟩⟩⟩⟩⟩⟩⟩⟩⟩⟩⟩⟩⟩⟩⟩⟩⟩⟩⟩
def cRl_1 : List (Nat × Nat × Nat) := [(2, 57, 39), (2, 60, 40), (2, 68, 64), (2, 74, 164), (2, 78, 12), (2, 82, 43), (2, 86, 42), (2, 95, 55), (2, 99, 14), (2, 102, 65), (2, 114, 2), (3, 1, 1000), (4, 3, 1000), (4, 11, 52), (4, 31, 158), (4, 38, 16), (4, 46, 54), (4, 50, 56), (4, 54, 21), (4, 58, 22)]
theorem grl_1 : ∀ q ∈ cRl_1, cRf q := List.forall_mem_cons.mpr ⟨gq_2_57, List.forall_mem_cons.mpr ⟨gq_2_60, List.forall_mem_cons.mpr ⟨gq_2_68, List.forall_mem_cons.mpr ⟨gq_2_74, List.forall_mem_cons.mpr ⟨gq_2_78, List.forall_mem_cons.mpr ⟨gq_2_82, List.forall_mem_cons.mpr ⟨gq_2_86, List.forall_mem_cons.mpr ⟨gq_2_95, List.forall_mem_cons.mpr ⟨gq_2_99, List.forall_mem_cons.mpr ⟨gq_2_102, List.forall_mem_cons.mpr ⟨gq_2_114, List.forall_mem_cons.mpr ⟨gq_3_1, List.forall_mem_cons.mpr ⟨gq_4_3, List.forall_mem_cons.mpr ⟨gq_4_11, List.forall_mem_cons.mpr ⟨gq_4_31, List.forall_mem_cons.mpr ⟨gq_4_38, List.forall_mem_cons.mpr ⟨gq_4_46, List.forall_mem_cons.mpr ⟨gq_4_50, List.forall_mem_cons.mpr ⟨gq_4_54, List.forall_mem_cons.mpr ⟨gq_4_58, fun _ h => absurd h List.not_mem_nil⟩⟩⟩⟩⟩⟩⟩⟩⟩⟩⟩⟩⟩⟩⟩⟩⟩⟩⟩⟩
def cRl_2 : List (Nat × Nat × Nat) := [(4, 62, 23), (4, 65, 24), (4, 69, 25), (4, 73, 26), (4, 77, 161), (4, 78, 166), (4, 82, 163), (4, 86, 27), (4, 105, 28), (4, 108, 89), (4, 111, 29), (4, 115, 17), (4, 119, 34), (4, 123, 57), (4, 127, 1002), (4, 137, 59), (4, 141, 31), (4, 145, 30), (4, 147, 33), (5, 3, 1000)]
theorem grl_2 : ∀ q ∈ cRl_2, cRf q := List.forall_mem_cons.mpr ⟨gq_4_62, List.forall_mem_cons.mpr ⟨gq_4_65, List.forall_mem_cons.mpr ⟨gq_4_69, List.forall_mem_cons.mpr ⟨gq_4_73, List.forall_mem_cons.mpr ⟨gq_4_77, List.forall_mem_cons.mpr ⟨gq_4_78, List.forall_mem_cons.mpr ⟨gq_4_82, List.forall_mem_cons.mpr ⟨gq_4_86, List.forall_mem_cons.mpr ⟨gq_4_105, List.forall_mem_cons.mpr ⟨gq_4_108, List.forall_mem_cons.mpr ⟨gq_4_111, List.forall_mem_cons.mpr ⟨gq_4_115, List.forall_mem_cons.mpr ⟨gq_4_119, List.forall_mem_cons.mpr ⟨gq_4_123, List.forall_mem_cons.mpr ⟨gq_4_127, List.forall_mem_cons.mpr ⟨gq_4_137, List.forall_mem_cons.mpr ⟨gq_4_141, List.forall_mem_cons.mpr ⟨gq_4_145, List.forall_mem_cons.mpr ⟨gq_4_147, List.forall_mem_cons.mpr ⟨gq_5_3, fun _ h => absurd h List.not_mem_nil⟩⟩⟩⟩⟩⟩⟩⟩⟩⟩⟩⟩⟩⟩⟩⟩⟩⟩⟩⟩
def cRl_3 : List (Nat × Nat × Nat) := [(5, 11, 18), (5, 20, 52), (5, 45, 3), (5, 51, 20), (5, 55, 53), (5, 58, 19), (5, 62, 32), (5, 66, 63), (5, 69, 33), (5, 72, 41), (5, 75, 35), (5, 78, 60), (5, 81, 57), (5, 85, 65), (5, 89, 44), (5, 92, 45), (5, 99, 61), (5, 103, 58), (5, 106, 37), (5, 109, 54)]
theorem grl_3 : ∀ q ∈ cRl_3, cRf q := List.forall_mem_cons.mpr ⟨gq_5_11, List.forall_mem_cons.mpr ⟨gq_5_20, List.forall_mem_cons.mpr ⟨gq_5_45, List.forall_mem_cons.mpr ⟨gq_5_51, List.forall_mem_cons.mpr ⟨gq_5_55, List.forall_mem_cons.mpr ⟨gq_5_58, List.forall_mem_cons.mpr ⟨gq_5_62, List.forall_mem_cons.mpr ⟨gq_5_66, List.forall_mem_cons.mpr ⟨gq_5_69, List.forall_mem_cons.mpr ⟨gq_5_72, List.forall_mem_cons.mpr ⟨gq_5_75, List.forall_mem_cons.mpr ⟨gq_5_78, List.forall_mem_cons.mpr ⟨gq_5_81, List.forall_mem_cons.mpr ⟨gq_5_85, List.forall_mem_cons.mpr ⟨gq_5_89, List.forall_mem_cons.mpr ⟨gq_5_92, List.forall_mem_cons.mpr ⟨gq_5_99, List.forall_mem_cons.mpr ⟨gq_5_103, List.forall_mem_cons.mpr ⟨gq_5_106, List.forall_mem_cons.mpr ⟨gq_5_109, fun _ h => absurd h List.not_mem_nil⟩⟩⟩⟩⟩⟩⟩⟩⟩⟩⟩⟩⟩⟩⟩⟩⟩⟩⟩⟩
def cRl_4 : List (Nat × Nat × Nat) := [(5, 110, 30), (5, 114, 31), (5, 119, 59), (5, 125, 2), (5, 128, 47), (5, 132, 48), (5, 135, 36), (5, 140, 49), (5, 144, 50), (5, 147, 62), (5, 159, 51), (6, 1, 1000), (6, 17, 1001), (6, 23, 150), (6, 28, 151), (6, 32, 57), (6, 36, 61), (6, 40, 1002), (6, 46, 90), (6, 52, 1003)]
theorem grl_4 : ∀ q ∈ cRl_4, cRf q := List.forall_mem_cons.mpr ⟨gq_5_110, List.forall_mem_cons.mpr ⟨gq_5_114, List.forall_mem_cons.mpr ⟨gq_5_119, List.forall_mem_cons.mpr ⟨gq_5_125, List.forall_mem_cons.mpr ⟨gq_5_128, List.forall_mem_cons.mpr ⟨gq_5_132, List.forall_mem_cons.mpr ⟨gq_5_135, List.forall_mem_cons.mpr ⟨gq_5_140, List.forall_mem_cons.mpr ⟨gq_5_144, List.forall_mem_cons.mpr ⟨gq_5_147, List.forall_mem_cons.mpr ⟨gq_5_159, List.forall_mem_cons.mpr ⟨gq_6_1, List.forall_mem_cons.mpr ⟨gq_6_17, List.forall_mem_cons.mpr ⟨gq_6_23, List.forall_mem_cons.mpr ⟨gq_6_28, List.forall_mem_cons.mpr ⟨gq_6_32, List.forall_mem_cons.mpr ⟨gq_6_36, List.forall_mem_cons.mpr ⟨gq_6_40, List.forall_mem_cons.mpr ⟨gq_6_46, List.forall_mem_cons.mpr ⟨gq_6_52, fun _ h => absurd h List.not_mem_nil⟩⟩⟩⟩⟩⟩⟩⟩⟩⟩⟩⟩⟩⟩⟩⟩⟩⟩⟩⟩
def cRl_5 : List (Nat × Nat × Nat) := [(6, 55, 64), (7, 3, 1000), (7, 11, 158), (7, 28, 5), (7, 35, 52), (7, 42, 18), (7, 50, 161), (7, 63, 0), (7, 66, 166), (7, 70, 81), (7, 77, 86), (7, 86, 1), (7, 92, 4), (7, 105, 8), (7, 108, 163), (7, 112, 83), (7, 116, 9), (7, 120, 10), (7, 124, 11), (7, 127, 13)]
theorem grl_5 : ∀ q ∈ cRl_5, cRf q := List.forall_mem_cons.mpr ⟨gq_6_55, List.forall_mem_cons.mpr ⟨gq_7_3, List.forall_mem_cons.mpr ⟨gq_7_11, List.forall_mem_cons.mpr ⟨gq_7_28, List.forall_mem_cons.mpr ⟨gq_7_35, List.forall_mem_cons.mpr ⟨gq_7_42, List.forall_mem_cons.mpr ⟨gq_7_50, List.forall_mem_cons.mpr ⟨gq_7_63, List.forall_mem_cons.mpr ⟨gq_7_66, List.forall_mem_cons.mpr ⟨gq_7_70, List.forall_mem_cons.mpr ⟨gq_7_77, List.forall_mem_cons.mpr ⟨gq_7_86, List.forall_mem_cons.mpr ⟨gq_7_92, List.forall_mem_cons.mpr ⟨gq_7_105, List.forall_mem_cons.mpr ⟨gq_7_108, List.forall_mem_cons.mpr ⟨gq_7_112, List.forall_mem_cons.mpr ⟨gq_7_116, List.forall_mem_cons.mpr ⟨gq_7_120, List.forall_mem_cons.mpr ⟨gq_7_124, List.forall_mem_cons.mpr ⟨gq_7_127, fun _ h => absurd h List.not_mem_nil⟩⟩⟩⟩⟩⟩⟩⟩⟩⟩⟩⟩⟩⟩⟩⟩⟩⟩⟩⟩
def cRl_6 : List (Nat × Nat × Nat) := [(7, 130, 6), (7, 131, 7), (7, 134, 46), (7, 139, 15), (7, 142, 82), (7, 154, 3), (7, 157, 20), (7, 161, 19), (7, 164, 53), (7, 167, 33), (7, 171, 54), (7, 172, 85), (7, 188, 84), (7, 194, 60), (7, 206, 55), (7, 210, 65), (7, 222, 59), (7, 225, 62), (7, 228, 57), (7, 233, 56)]
theorem grl_6 : ∀ q ∈ cRl_6, cRf q := List.forall_mem_cons.mpr ⟨gq_7_130, List.forall_mem_cons.mpr ⟨gq_7_131, List.forall_mem_cons.mpr ⟨gq_7_134, List.forall_mem_cons.mpr ⟨gq_7_139, List.forall_mem_cons.mpr ⟨gq_7_142, List.forall_mem_cons.mpr ⟨gq_7_154, List.forall_mem_cons.mpr ⟨gq_7_157, List.forall_mem_cons.mpr ⟨gq_7_161, List.forall_mem_cons.mpr ⟨gq_7_164, List.forall_mem_cons.mpr ⟨gq_7_167, List.forall_mem_cons.mpr ⟨gq_7_171, List.forall_mem_cons.mpr ⟨gq_7_172, List.forall_mem_cons.mpr ⟨gq_7_188, List.forall_mem_cons.mpr ⟨gq_7_194, List.forall_mem_cons.mpr ⟨gq_7_206, List.forall_mem_cons.mpr ⟨gq_7_210, List.forall_mem_cons.mpr ⟨gq_7_222, List.forall_mem_cons.mpr ⟨gq_7_225, List.forall_mem_cons.mpr ⟨gq_7_228, List.forall_mem_cons.mpr ⟨gq_7_233, fun _ h => absurd h List.not_mem_nil⟩⟩⟩⟩⟩⟩⟩⟩⟩⟩⟩⟩⟩⟩⟩⟩⟩⟩⟩⟩
def cRl_7 : List (Nat × Nat × Nat) := [(7, 237, 87), (7, 241, 88), (7, 251, 150), (7, 256, 151), (8, 1, 1000), (8, 92, 95), (8, 96, 96), (8, 100, 93), (8, 103, 97), (8, 119, 106), (8, 122, 107), (8, 125, 103), (8, 129, 109), (8, 133, 108), (8, 141, 111), (8, 145, 115), (8, 149, 116), (8, 156, 105), (8, 159, 119), (8, 162, 120)]
theorem grl_7 : ∀ q ∈ cRl_7, cRf q := List.forall_mem_cons.mpr ⟨gq_7_237, List.forall_mem_cons.mpr ⟨gq_7_241, List.forall_mem_cons.mpr ⟨gq_7_251, List.forall_mem_cons.mpr ⟨gq_7_256, List.forall_mem_cons.mpr ⟨gq_8_1, List.forall_mem_cons.mpr ⟨gq_8_92, List.forall_mem_cons.mpr ⟨gq_8_96, List.forall_mem_cons.mpr ⟨gq_8_100, List.forall_mem_cons.mpr ⟨gq_8_103, List.forall_mem_cons.mpr ⟨gq_8_119, List.forall_mem_cons.mpr ⟨gq_8_122, List.forall_mem_cons.mpr ⟨gq_8_125, List.forall_mem_cons.mpr ⟨gq_8_129, List.forall_mem_cons.mpr ⟨gq_8_133, List.forall_mem_cons.mpr ⟨gq_8_141, List.forall_mem_cons.mpr ⟨gq_8_145, List.forall_mem_cons.mpr ⟨gq_8_149, List.forall_mem_cons.mpr ⟨gq_8_156, List.forall_mem_cons.mpr ⟨gq_8_159, List.forall_mem_cons.mpr ⟨gq_8_162, fun _ h => absurd h List.not_mem_nil⟩⟩⟩⟩⟩⟩⟩⟩⟩⟩⟩⟩⟩⟩⟩⟩⟩⟩⟩⟩
def cRl_8 : List (Nat × Nat × Nat) := [(8, 166, 110), (8, 170, 121), (8, 173, 113), (8, 176, 122), (8, 179, 123), (8, 186, 104), (8, 189, 124), (8, 192, 118), (8, 195, 114), (8, 198, 117), (8, 203, 112), (8, 209, 126), (8, 212, 127), (8, 215, 128), (8, 219, 130), (8, 226, 132), (8, 229, 133), (8, 234, 135), (8, 241, 137), (8, 244, 134)]
theorem grl_8 : ∀ q ∈ cRl_8, cRf q := List.forall_mem_cons.mpr ⟨gq_8_166, List.forall_mem_cons.mpr ⟨gq_8_170, List.forall_mem_cons.mpr ⟨gq_8_173, List.forall_mem_cons.mpr ⟨gq_8_176, List.forall_mem_cons.mpr ⟨gq_8_179, List.forall_mem_cons.mpr ⟨gq_8_186, List.forall_mem_cons.mpr ⟨gq_8_189, List.forall_mem_cons.mpr ⟨gq_8_192, List.forall_mem_cons.mpr ⟨gq_8_195, List.forall_mem_cons.mpr ⟨gq_8_198, List.forall_mem_cons.mpr ⟨gq_8_203, List.forall_mem_cons.mpr ⟨gq_8_209, List.forall_mem_cons.mpr ⟨gq_8_212, List.forall_mem_cons.mpr ⟨gq_8_215, List.forall_mem_cons.mpr ⟨gq_8_219, List.forall_mem_cons.mpr ⟨gq_8_226, List.forall_mem_cons.mpr ⟨gq_8_229, List.forall_mem_cons.mpr ⟨gq_8_234, List.forall_mem_cons.mpr ⟨gq_8_241, List.forall_mem_cons.mpr ⟨gq_8_244, fun _ h => absurd h List.not_mem_nil⟩⟩⟩⟩⟩⟩⟩⟩⟩⟩⟩⟩⟩⟩⟩⟩⟩⟩⟩⟩
def cRl_9 : List (Nat × Nat × Nat) := [(8, 247, 136), (8, 253, 139), (8, 256, 125), (8, 259, 129), (8, 262, 131), (8, 265, 138), (8, 268, 140), (8, 275, 142), (9, 335, 152), (9, 492, 153), (9, 495, 155), (9, 1059, 171), (10, 9, 154), (12, 1, 1000), (13, 1, 156), (14, 86, 1004), (14, 150, 1001), (14, 300, 168), (14, 304, 1003), (15, 105, 171)]
theorem grl_9 : ∀ q ∈ cRl_9, cRf q := List.forall_mem_cons.mpr ⟨gq_8_247, List.forall_mem_cons.mpr ⟨gq_8_253, List.forall_mem_cons.mpr ⟨gq_8_256, List.forall_mem_cons.mpr ⟨gq_8_259, List.forall_mem_cons.mpr ⟨gq_8_262, List.forall_mem_cons.mpr ⟨gq_8_265, List.forall_mem_cons.mpr ⟨gq_8_268, List.forall_mem_cons.mpr ⟨gq_8_275, List.forall_mem_cons.mpr ⟨gq_9_335, List.forall_mem_cons.mpr ⟨gq_9_492, List.forall_mem_cons.mpr ⟨gq_9_495, List.forall_mem_cons.mpr ⟨gq_9_1059, List.forall_mem_cons.mpr ⟨gq_10_9, List.forall_mem_cons.mpr ⟨gq_12_1, List.forall_mem_cons.mpr ⟨gq_13_1, List.forall_mem_cons.mpr ⟨gq_14_86, List.forall_mem_cons.mpr ⟨gq_14_150, List.forall_mem_cons.mpr ⟨gq_14_300, List.forall_mem_cons.mpr ⟨gq_14_304, List.forall_mem_cons.mpr ⟨gq_15_105, fun _ h => absurd h List.not_mem_nil⟩⟩⟩⟩⟩⟩⟩⟩⟩⟩⟩⟩⟩⟩⟩⟩⟩⟩⟩⟩
def cRl_10 : List (Nat × Nat × Nat) := [(16, 194, 1002)]
theorem grl_10 : ∀ q ∈ cRl_10, cRf q := List.forall_mem_cons.mpr ⟨gq_16_194, fun _ h => absurd h List.not_mem_nil⟩
set_option maxRecDepth 20000 in
theorem cRl_eq : cRl = cRl_0 ++ cRl_1 ++ cRl_2 ++ cRl_3 ++ cRl_4 ++ cRl_5 ++ cRl_6 ++ cRl_7 ++ cRl_8 ++ cRl_9 ++ cRl_10 := by decide +kernel
theorem cR_ok : ∀ o i k, cR o i = some k → cRf (o, i, k) := by
  intro o i k h
  unfold cR at h
  obtain ⟨q, hq, rfl⟩ := Option.map_eq_some_iff.mp h
  have h1 := List.find?_some hq
  have h2 := List.mem_of_find?_eq_some hq
  simp only [Bool.and_eq_true, beq_iff_eq] at h1
  obtain ⟨rfl, rfl⟩ := h1
  rw [cRl_eq] at h2
  simp only [List.mem_append] at h2
  rcases h2 with (((((((((h2 | h2) | h2) | h2) | h2) | h2) | h2) | h2) | h2) | h2) | h2
  · exact grl_0 _ h2
  · exact grl_1 _ h2
  · exact grl_2 _ h2
  · exact grl_3 _ h2
  · exact grl_4 _ h2
  · exact grl_5 _ h2
  · exact grl_6 _ h2
  · exact grl_7 _ h2
  · exact grl_8 _ h2
  · exact grl_9 _ h2
  · exact grl_10 _ h2
theorem gs_oi : Cond.instanceMethod objectInit ∈ gW := gWm (w := Cond.instanceMethod objectInit) 100 (by decide +kernel) (by decide +kernel)
theorem gs_oc : Cond.code objectInit ⟨#[0xb1]⟩ 1 none ∈ gW := gWm (w := Cond.code objectInit ⟨#[0xb1]⟩ 1 none) 101 (by decide +kernel) (by decide +kernel)
theorem gs_an : Cond.native arraycopyName ∈ gW := gWm (w := Cond.native arraycopyName) 407 (by decide +kernel) (by decide +kernel)
theorem gs_as : Cond.static arraycopyName ∈ gW := gWm (w := Cond.static arraycopyName) 406 (by decide +kernel) (by decide +kernel)
theorem gs_ai : Cond.initialized "java/lang/System" ∈ gW := gWm (w := Cond.initialized "java/lang/System") 84 (by decide +kernel) (by decide +kernel)
theorem gs_max : Cond.static Lib.Math.max.name ∈ gW ∧ Cond.code Lib.Math.max.name Lib.Math.max.code 2 (some .int) ∈ gW := ⟨gWm (w := Cond.static Lib.Math.max.name) 372 (by decide +kernel) (by decide +kernel), gWm (w := Cond.code Lib.Math.max.name Lib.Math.max.code 2 (some .int)) 373 (by decide +kernel) (by decide +kernel)⟩
theorem gs_min : Cond.static Lib.Math.min.name ∈ gW ∧ Cond.code Lib.Math.min.name Lib.Math.min.code 2 (some .int) ∈ gW := ⟨gWm (w := Cond.static Lib.Math.min.name) 302 (by decide +kernel) (by decide +kernel), gWm (w := Cond.code Lib.Math.min.name Lib.Math.min.code 2 (some .int)) 303 (by decide +kernel) (by decide +kernel)⟩
theorem gs_mi : Cond.initialized "java/lang/Math" ∈ gW := gWm (w := Cond.initialized "java/lang/Math") 82 (by decide +kernel) (by decide +kernel)
theorem gs_gi : Cond.instanceMethod ⟨"java/lang/Object", "getClass", "()Ljava/lang/Class;"⟩ ∈ gW := gWm (w := Cond.instanceMethod ⟨"java/lang/Object", "getClass", "()Ljava/lang/Class;"⟩) 382 (by decide +kernel) (by decide +kernel)
theorem gs_gn : Cond.native ⟨"java/lang/Object", "getClass", "()Ljava/lang/Class;"⟩ ∈ gW := gWm (w := Cond.native ⟨"java/lang/Object", "getClass", "()Ljava/lang/Class;"⟩) 397 (by decide +kernel) (by decide +kernel)
theorem gs_gs : Cond.selects "[Ljava/lang/Object;" ⟨"java/lang/Object", "getClass", "()Ljava/lang/Class;"⟩ ⟨"java/lang/Object", "getClass", "()Ljava/lang/Class;"⟩ ∈ gW := gWm (w := Cond.selects "[Ljava/lang/Object;" ⟨"java/lang/Object", "getClass", "()Ljava/lang/Class;"⟩ ⟨"java/lang/Object", "getClass", "()Ljava/lang/Class;"⟩) 1387 (by decide +kernel) (by decide +kernel)
theorem gs_int : Cond.arrayClass .int ∈ gW := gWm (w := Cond.arrayClass .int) 159 (by decide +kernel) (by decide +kernel)
theorem gs_char : Cond.arrayClass .char ∈ gW := gWm (w := Cond.arrayClass .char) 173 (by decide +kernel) (by decide +kernel)
theorem gs_200 : Cond.constant (ownS 16) 200 2147483639 ∈ gW := gWm (w := Cond.constant (ownS 16) 200 2147483639) 374 (by decide +kernel) (by decide +kernel)
theorem gl_8_139 : Cond.constantLong (ownS 8) 139 256 ∈ gW := gWm (w := Cond.constantLong (ownS 8) 139 256) 1286 (by decide +kernel) (by decide +kernel)
theorem gl_8_201 : Cond.constantLong (ownS 8) 201 139123908896 ∈ gW := gWm (w := Cond.constantLong (ownS 8) 201 139123908896) 1281 (by decide +kernel) (by decide +kernel)
theorem gl_8_207 : Cond.constantLong (ownS 8) 207 13067013340816672 ∈ gW := gWm (w := Cond.constantLong (ownS 8) 207 13067013340816672) 1287 (by decide +kernel) (by decide +kernel)
theorem gl_8_232 : Cond.constantLong (ownS 8) 232 8236 ∈ gW := gWm (w := Cond.constantLong (ownS 8) 232 8236) 1316 (by decide +kernel) (by decide +kernel)
theorem gl_8_237 : Cond.constantLong (ownS 8) 237 540700233 ∈ gW := gWm (w := Cond.constantLong (ownS 8) 237 540700233) 1325 (by decide +kernel) (by decide +kernel)
theorem gl_8_239 : Cond.constantLong (ownS 8) 239 35383826980908 ∈ gW := gWm (w := Cond.constantLong (ownS 8) 239 35383826980908) 1326 (by decide +kernel) (by decide +kernel)
theorem gl_8_278 : Cond.constantLong (ownS 8) 278 111542001886546 ∈ gW := gWm (w := Cond.constantLong (ownS 8) 278 111542001886546) 1359 (by decide +kernel) (by decide +kernel)
theorem gl_8_280 : Cond.constantLong (ownS 8) 280 44119840088942 ∈ gW := gWm (w := Cond.constantLong (ownS 8) 280 44119840088942) 1360 (by decide +kernel) (by decide +kernel)
theorem lL_ok : ∀ o i v, lL o i = some v → Cond.constantLong (ownS o) i v ∈ gW := by
  intro o i v h
  unfold lL at h
  split at h
  · cases h; exact gl_8_139
  · cases h; exact gl_8_201
  · cases h; exact gl_8_207
  · cases h; exact gl_8_232
  · cases h; exact gl_8_237
  · cases h; exact gl_8_239
  · cases h; exact gl_8_278
  · cases h; exact gl_8_280
  · cases h
theorem gs_cl110 : Cond.classLink (ownS 14) 110 "[Ljava/lang/Object;" ∈ gW := gWm (w := Cond.classLink (ownS 14) 110 "[Ljava/lang/Object;") 401 (by decide +kernel) (by decide +kernel)
theorem gs_st1 : Cond.fieldLink RJx4a65c 39 "java/util/ArrayList" "DEFAULTCAPACITY_EMPTY_ELEMENTDATA" "[Ljava/lang/Object;" ∈ gW := gWm (w := Cond.fieldLink RJx4a65c 39 "java/util/ArrayList" "DEFAULTCAPACITY_EMPTY_ELEMENTDATA" "[Ljava/lang/Object;") 114 (by decide +kernel) (by decide +kernel)
theorem gs_st2 : Cond.fieldLink RJ0 38 "java/lang/String" "COMPACT_STRINGS" "Z" ∈ gW := gWm (w := Cond.fieldLink RJ0 38 "java/lang/String" "COMPACT_STRINGS" "Z") 515 (by decide +kernel) (by decide +kernel)
theorem gs_st3 : Cond.fieldLink RJ0 1053 "jdk/internal/util/Preconditions" "SIOOBE_FORMATTER" "Ljava/util/function/BiFunction;" ∈ gW := gWm (w := Cond.fieldLink RJ0 1053 "jdk/internal/util/Preconditions" "SIOOBE_FORMATTER" "Ljava/util/function/BiFunction;") 531 (by decide +kernel) (by decide +kernel)
theorem gs_sv : Cond.fieldLink RJ0 9 "java/lang/String" "value" "[B" ∈ gW := gWm (w := Cond.fieldLink RJ0 9 "java/lang/String" "value" "[B") 1395 (by decide +kernel) (by decide +kernel)
theorem gs_sc : Cond.fieldLink RJ0 15 "java/lang/String" "coder" "B" ∈ gW := gWm (w := Cond.fieldLink RJ0 15 "java/lang/String" "coder" "B") 1396 (by decide +kernel) (by decide +kernel)
theorem gs_sf : Cond.sameField "java/util/ArrayList" "java/util/AbstractList" "modCount" "I" ∈ gW := gWm (w := Cond.sameField "java/util/ArrayList" "java/util/AbstractList" "modCount" "I") 120 (by decide +kernel) (by decide +kernel)
