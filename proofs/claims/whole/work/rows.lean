section
-- ===== PART A: goes FIRST, ahead of the names: the tables' words, and 'selects' of the private methods out of them =====
/-- a private method of a class that the tables say can be made, by its rows of tables_1 -/
def lw_okq (q : MethodName × Nat) : Prop := (q.1.cls ≠ "java/lang/invoke/MethodHandle" ∧ q.1.cls ≠ "java/lang/invoke/VarHandle") ∧ Cond.instantiable q.1.cls q.2 ∈ tables_1 ∧ Cond.privateMethod q.1 ∈ tables_1 ∧ Cond.instanceMethod q.1 ∈ tables_1
theorem lw_p0 : lw_okq (⟨"CiteLists", "realOne", "(LCiteLists$Entry;)LCiteLists$Entry;"⟩, 8) := ⟨⟨by decide +kernel, by decide +kernel⟩, List.mem_of_getElem? (i := 29) (by decide +kernel), List.mem_of_getElem? (i := 220) (by decide +kernel), List.mem_of_getElem? (i := 221) (by decide +kernel)⟩
theorem lw_p1 : lw_okq (⟨"java/util/ArrayList", "add", "(Ljava/lang/Object;[Ljava/lang/Object;I)V"⟩, 3) := ⟨⟨by decide +kernel, by decide +kernel⟩, List.mem_of_getElem? (i := 37) (by decide +kernel), List.mem_of_getElem? (i := 291) (by decide +kernel), List.mem_of_getElem? (i := 292) (by decide +kernel)⟩
theorem lw_p2 : lw_okq (⟨"java/util/ArrayList", "grow", "()[Ljava/lang/Object;"⟩, 3) := ⟨⟨by decide +kernel, by decide +kernel⟩, List.mem_of_getElem? (i := 37) (by decide +kernel), List.mem_of_getElem? (i := 295) (by decide +kernel), List.mem_of_getElem? (i := 296) (by decide +kernel)⟩
theorem lw_p3 : lw_okq (⟨"java/util/ArrayList", "grow", "(I)[Ljava/lang/Object;"⟩, 3) := ⟨⟨by decide +kernel, by decide +kernel⟩, List.mem_of_getElem? (i := 37) (by decide +kernel), List.mem_of_getElem? (i := 299) (by decide +kernel), List.mem_of_getElem? (i := 300) (by decide +kernel)⟩
theorem lw_p4 : lw_okq (⟨"CiteLists$Persons", "isAnd", "(II)Z"⟩, 7) := ⟨⟨by decide +kernel, by decide +kernel⟩, List.mem_of_getElem? (i := 109) (by decide +kernel), List.mem_of_getElem? (i := 370) (by decide +kernel), List.mem_of_getElem? (i := 371) (by decide +kernel)⟩
theorem lw_p5 : lw_okq (⟨"CiteLists$Persons", "readPerson", "(II)V"⟩, 7) := ⟨⟨by decide +kernel, by decide +kernel⟩, List.mem_of_getElem? (i := 109) (by decide +kernel), List.mem_of_getElem? (i := 374) (by decide +kernel), List.mem_of_getElem? (i := 375) (by decide +kernel)⟩
theorem lw_p6 : lw_okq (⟨"CiteLists$Persons", "readWords", "(II)V"⟩, 7) := ⟨⟨by decide +kernel, by decide +kernel⟩, List.mem_of_getElem? (i := 109) (by decide +kernel), List.mem_of_getElem? (i := 378) (by decide +kernel), List.mem_of_getElem? (i := 379) (by decide +kernel)⟩
theorem lw_p7 : lw_okq (⟨"CiteLists$Persons", "nextPerson", "()LCiteLists$Person;"⟩, 7) := ⟨⟨by decide +kernel, by decide +kernel⟩, List.mem_of_getElem? (i := 109) (by decide +kernel), List.mem_of_getElem? (i := 382) (by decide +kernel), List.mem_of_getElem? (i := 383) (by decide +kernel)⟩
theorem lw_p8 : lw_okq (⟨"CiteLists$Persons", "partAtComma", "(LCiteLists$Person;II)V"⟩, 7) := ⟨⟨by decide +kernel, by decide +kernel⟩, List.mem_of_getElem? (i := 109) (by decide +kernel), List.mem_of_getElem? (i := 389) (by decide +kernel), List.mem_of_getElem? (i := 390) (by decide +kernel)⟩
theorem lw_p9 : lw_okq (⟨"CiteLists$Persons", "beginsSmall", "(I)Z"⟩, 7) := ⟨⟨by decide +kernel, by decide +kernel⟩, List.mem_of_getElem? (i := 109) (by decide +kernel), List.mem_of_getElem? (i := 393) (by decide +kernel), List.mem_of_getElem? (i := 394) (by decide +kernel)⟩
theorem lw_p10 : lw_okq (⟨"CiteLists$Persons", "wordStart", "(I)I"⟩, 7) := ⟨⟨by decide +kernel, by decide +kernel⟩, List.mem_of_getElem? (i := 109) (by decide +kernel), List.mem_of_getElem? (i := 397) (by decide +kernel), List.mem_of_getElem? (i := 398) (by decide +kernel)⟩
theorem lw_p11 : lw_okq (⟨"CiteLists$Persons", "partAtParticles", "(LCiteLists$Person;I)V"⟩, 7) := ⟨⟨by decide +kernel, by decide +kernel⟩, List.mem_of_getElem? (i := 109) (by decide +kernel), List.mem_of_getElem? (i := 404) (by decide +kernel), List.mem_of_getElem? (i := 405) (by decide +kernel)⟩
theorem lw_p12 : lw_okq (⟨"CiteLists$Persons", "personAt", "(I)LCiteLists$Person;"⟩, 7) := ⟨⟨by decide +kernel, by decide +kernel⟩, List.mem_of_getElem? (i := 109) (by decide +kernel), List.mem_of_getElem? (i := 420) (by decide +kernel), List.mem_of_getElem? (i := 421) (by decide +kernel)⟩
theorem lw_p13 : lw_okq (⟨"CiteLists$Persons", "addWords", "(IILCiteLists$Text;)V"⟩, 7) := ⟨⟨by decide +kernel, by decide +kernel⟩, List.mem_of_getElem? (i := 109) (by decide +kernel), List.mem_of_getElem? (i := 424) (by decide +kernel), List.mem_of_getElem? (i := 425) (by decide +kernel)⟩
theorem lw_p14 : lw_okq (⟨"CiteLists$Row", "addYearOrder", "()V"⟩, 8) := ⟨⟨by decide +kernel, by decide +kernel⟩, List.mem_of_getElem? (i := 245) (by decide +kernel), List.mem_of_getElem? (i := 500) (by decide +kernel), List.mem_of_getElem? (i := 501) (by decide +kernel)⟩
theorem lw_p15 : lw_okq (⟨"CiteLists$Listing", "isMistaken", "(LCiteLists$Row;)Z"⟩, 6) := ⟨⟨by decide +kernel, by decide +kernel⟩, List.mem_of_getElem? (i := 63) (by decide +kernel), List.mem_of_getElem? (i := 528) (by decide +kernel), List.mem_of_getElem? (i := 529) (by decide +kernel)⟩
def lw_privs_1 : List (MethodName × Nat) := [(⟨"CiteLists", "realOne", "(LCiteLists$Entry;)LCiteLists$Entry;"⟩, 8), (⟨"java/util/ArrayList", "add", "(Ljava/lang/Object;[Ljava/lang/Object;I)V"⟩, 3), (⟨"java/util/ArrayList", "grow", "()[Ljava/lang/Object;"⟩, 3), (⟨"java/util/ArrayList", "grow", "(I)[Ljava/lang/Object;"⟩, 3), (⟨"CiteLists$Persons", "isAnd", "(II)Z"⟩, 7), (⟨"CiteLists$Persons", "readPerson", "(II)V"⟩, 7), (⟨"CiteLists$Persons", "readWords", "(II)V"⟩, 7), (⟨"CiteLists$Persons", "nextPerson", "()LCiteLists$Person;"⟩, 7), (⟨"CiteLists$Persons", "partAtComma", "(LCiteLists$Person;II)V"⟩, 7), (⟨"CiteLists$Persons", "beginsSmall", "(I)Z"⟩, 7), (⟨"CiteLists$Persons", "wordStart", "(I)I"⟩, 7), (⟨"CiteLists$Persons", "partAtParticles", "(LCiteLists$Person;I)V"⟩, 7), (⟨"CiteLists$Persons", "personAt", "(I)LCiteLists$Person;"⟩, 7), (⟨"CiteLists$Persons", "addWords", "(IILCiteLists$Text;)V"⟩, 7), (⟨"CiteLists$Row", "addYearOrder", "()V"⟩, 8), (⟨"CiteLists$Listing", "isMistaken", "(LCiteLists$Row;)Z"⟩, 6)]
theorem lw_r1 : ∀ q ∈ lw_privs_1, lw_okq q := List.forall_mem_cons.mpr ⟨lw_p0, List.forall_mem_cons.mpr ⟨lw_p1, List.forall_mem_cons.mpr ⟨lw_p2, List.forall_mem_cons.mpr ⟨lw_p3, List.forall_mem_cons.mpr ⟨lw_p4, List.forall_mem_cons.mpr ⟨lw_p5, List.forall_mem_cons.mpr ⟨lw_p6, List.forall_mem_cons.mpr ⟨lw_p7, List.forall_mem_cons.mpr ⟨lw_p8, List.forall_mem_cons.mpr ⟨lw_p9, List.forall_mem_cons.mpr ⟨lw_p10, List.forall_mem_cons.mpr ⟨lw_p11, List.forall_mem_cons.mpr ⟨lw_p12, List.forall_mem_cons.mpr ⟨lw_p13, List.forall_mem_cons.mpr ⟨lw_p14, List.forall_mem_cons.mpr ⟨lw_p15, fun _ h => absurd h List.not_mem_nil⟩⟩⟩⟩⟩⟩⟩⟩⟩⟩⟩⟩⟩⟩⟩⟩
theorem lw_p16 : lw_okq (⟨"CiteLists$Row", "addShortBase", "()V"⟩, 8) := ⟨⟨by decide +kernel, by decide +kernel⟩, List.mem_of_getElem? (i := 245) (by decide +kernel), List.mem_of_getElem? (i := 541) (by decide +kernel), List.mem_of_getElem? (i := 542) (by decide +kernel)⟩
theorem lw_p17 : lw_okq (⟨"CiteLists$Row", "addLongBase", "(Z)V"⟩, 8) := ⟨⟨by decide +kernel, by decide +kernel⟩, List.mem_of_getElem? (i := 245) (by decide +kernel), List.mem_of_getElem? (i := 555) (by decide +kernel), List.mem_of_getElem? (i := 556) (by decide +kernel)⟩
theorem lw_p18 : lw_okq (⟨"CiteLists$Listing", "markAlike", "(I)V"⟩, 6) := ⟨⟨by decide +kernel, by decide +kernel⟩, List.mem_of_getElem? (i := 63) (by decide +kernel), List.mem_of_getElem? (i := 589) (by decide +kernel), List.mem_of_getElem? (i := 590) (by decide +kernel)⟩
theorem lw_p19 : lw_okq (⟨"CiteLists$Row", "addLabel", "(II)V"⟩, 8) := ⟨⟨by decide +kernel, by decide +kernel⟩, List.mem_of_getElem? (i := 245) (by decide +kernel), List.mem_of_getElem? (i := 606) (by decide +kernel), List.mem_of_getElem? (i := 607) (by decide +kernel)⟩
theorem lw_p20 : lw_okq (⟨"CiteLists$Row", "beginPiece", "(I)V"⟩, 8) := ⟨⟨by decide +kernel, by decide +kernel⟩, List.mem_of_getElem? (i := 245) (by decide +kernel), List.mem_of_getElem? (i := 614) (by decide +kernel), List.mem_of_getElem? (i := 615) (by decide +kernel)⟩
theorem lw_p21 : lw_okq (⟨"CiteLists$Row", "addValuePiece", "(ILjava/lang/String;I)V"⟩, 8) := ⟨⟨by decide +kernel, by decide +kernel⟩, List.mem_of_getElem? (i := 245) (by decide +kernel), List.mem_of_getElem? (i := 632) (by decide +kernel), List.mem_of_getElem? (i := 633) (by decide +kernel)⟩
theorem lw_p22 : lw_okq (⟨"CiteLists$Row", "addSource", "(I)V"⟩, 8) := ⟨⟨by decide +kernel, by decide +kernel⟩, List.mem_of_getElem? (i := 245) (by decide +kernel), List.mem_of_getElem? (i := 636) (by decide +kernel), List.mem_of_getElem? (i := 637) (by decide +kernel)⟩
theorem lw_p23 : lw_okq (⟨"CiteLists$Row", "addPages", "(ILjava/lang/String;)V"⟩, 8) := ⟨⟨by decide +kernel, by decide +kernel⟩, List.mem_of_getElem? (i := 245) (by decide +kernel), List.mem_of_getElem? (i := 641) (by decide +kernel), List.mem_of_getElem? (i := 642) (by decide +kernel)⟩
theorem lw_p24 : lw_okq (⟨"java/lang/Throwable", "fillInStackTrace", "(I)Ljava/lang/Throwable;"⟩, 6) := ⟨⟨by decide +kernel, by decide +kernel⟩, List.mem_of_getElem? (i := 702) (by decide +kernel), List.mem_of_getElem? (i := 700) (by decide +kernel), List.mem_of_getElem? (i := 701) (by decide +kernel)⟩
theorem lw_p25 : lw_okq (⟨"CiteLists", "entryNumbered", "(I)LCiteLists$Entry;"⟩, 8) := ⟨⟨by decide +kernel, by decide +kernel⟩, List.mem_of_getElem? (i := 29) (by decide +kernel), List.mem_of_getElem? (i := 772) (by decide +kernel), List.mem_of_getElem? (i := 773) (by decide +kernel)⟩
theorem lw_p26 : lw_okq (⟨"CiteLists", "rowAt", "(I)LCiteLists$Row;"⟩, 8) := ⟨⟨by decide +kernel, by decide +kernel⟩, List.mem_of_getElem? (i := 29) (by decide +kernel), List.mem_of_getElem? (i := 879) (by decide +kernel), List.mem_of_getElem? (i := 880) (by decide +kernel)⟩
theorem lw_p27 : lw_okq (⟨"CiteLists", "printHead", "()V"⟩, 8) := ⟨⟨by decide +kernel, by decide +kernel⟩, List.mem_of_getElem? (i := 29) (by decide +kernel), List.mem_of_getElem? (i := 924) (by decide +kernel), List.mem_of_getElem? (i := 925) (by decide +kernel)⟩
theorem lw_p28 : lw_okq (⟨"CiteListsModel", "isEntry", "(I)Z"⟩, 38) := ⟨⟨by decide +kernel, by decide +kernel⟩, List.mem_of_getElem? (i := 948) (by decide +kernel), List.mem_of_getElem? (i := 1087) (by decide +kernel), List.mem_of_getElem? (i := 1088) (by decide +kernel)⟩
theorem lw_p29 : lw_okq (⟨"CiteListsModel", "list", "()V"⟩, 38) := ⟨⟨by decide +kernel, by decide +kernel⟩, List.mem_of_getElem? (i := 948) (by decide +kernel), List.mem_of_getElem? (i := 1114) (by decide +kernel), List.mem_of_getElem? (i := 1115) (by decide +kernel)⟩
theorem lw_p30 : lw_okq (⟨"CiteListsModel", "real", "(I)I"⟩, 38) := ⟨⟨by decide +kernel, by decide +kernel⟩, List.mem_of_getElem? (i := 948) (by decide +kernel), List.mem_of_getElem? (i := 1118) (by decide +kernel), List.mem_of_getElem? (i := 1119) (by decide +kernel)⟩
theorem lw_p31 : lw_okq (⟨"CiteListsModel", "orderOf", "(II)I"⟩, 38) := ⟨⟨by decide +kernel, by decide +kernel⟩, List.mem_of_getElem? (i := 948) (by decide +kernel), List.mem_of_getElem? (i := 1122) (by decide +kernel), List.mem_of_getElem? (i := 1123) (by decide +kernel)⟩
def lw_privs_2 : List (MethodName × Nat) := [(⟨"CiteLists$Row", "addShortBase", "()V"⟩, 8), (⟨"CiteLists$Row", "addLongBase", "(Z)V"⟩, 8), (⟨"CiteLists$Listing", "markAlike", "(I)V"⟩, 6), (⟨"CiteLists$Row", "addLabel", "(II)V"⟩, 8), (⟨"CiteLists$Row", "beginPiece", "(I)V"⟩, 8), (⟨"CiteLists$Row", "addValuePiece", "(ILjava/lang/String;I)V"⟩, 8), (⟨"CiteLists$Row", "addSource", "(I)V"⟩, 8), (⟨"CiteLists$Row", "addPages", "(ILjava/lang/String;)V"⟩, 8), (⟨"java/lang/Throwable", "fillInStackTrace", "(I)Ljava/lang/Throwable;"⟩, 6), (⟨"CiteLists", "entryNumbered", "(I)LCiteLists$Entry;"⟩, 8), (⟨"CiteLists", "rowAt", "(I)LCiteLists$Row;"⟩, 8), (⟨"CiteLists", "printHead", "()V"⟩, 8), (⟨"CiteListsModel", "isEntry", "(I)Z"⟩, 38), (⟨"CiteListsModel", "list", "()V"⟩, 38), (⟨"CiteListsModel", "real", "(I)I"⟩, 38), (⟨"CiteListsModel", "orderOf", "(II)I"⟩, 38)]
theorem lw_r2 : ∀ q ∈ lw_privs_2, lw_okq q := List.forall_mem_cons.mpr ⟨lw_p16, List.forall_mem_cons.mpr ⟨lw_p17, List.forall_mem_cons.mpr ⟨lw_p18, List.forall_mem_cons.mpr ⟨lw_p19, List.forall_mem_cons.mpr ⟨lw_p20, List.forall_mem_cons.mpr ⟨lw_p21, List.forall_mem_cons.mpr ⟨lw_p22, List.forall_mem_cons.mpr ⟨lw_p23, List.forall_mem_cons.mpr ⟨lw_p24, List.forall_mem_cons.mpr ⟨lw_p25, List.forall_mem_cons.mpr ⟨lw_p26, List.forall_mem_cons.mpr ⟨lw_p27, List.forall_mem_cons.mpr ⟨lw_p28, List.forall_mem_cons.mpr ⟨lw_p29, List.forall_mem_cons.mpr ⟨lw_p30, List.forall_mem_cons.mpr ⟨lw_p31, fun _ h => absurd h List.not_mem_nil⟩⟩⟩⟩⟩⟩⟩⟩⟩⟩⟩⟩⟩⟩⟩⟩
theorem lw_p32 : lw_okq (⟨"CiteListsModel", "orderOfPersons", "(II)I"⟩, 38) := ⟨⟨by decide +kernel, by decide +kernel⟩, List.mem_of_getElem? (i := 948) (by decide +kernel), List.mem_of_getElem? (i := 1126) (by decide +kernel), List.mem_of_getElem? (i := 1127) (by decide +kernel)⟩
theorem lw_p33 : lw_okq (⟨"CiteListsModel", "read", "(II)V"⟩, 38) := ⟨⟨by decide +kernel, by decide +kernel⟩, List.mem_of_getElem? (i := 948) (by decide +kernel), List.mem_of_getElem? (i := 1130) (by decide +kernel), List.mem_of_getElem? (i := 1131) (by decide +kernel)⟩
theorem lw_p34 : lw_okq (⟨"CiteListsModel", "value", "(II)I"⟩, 38) := ⟨⟨by decide +kernel, by decide +kernel⟩, List.mem_of_getElem? (i := 948) (by decide +kernel), List.mem_of_getElem? (i := 1134) (by decide +kernel), List.mem_of_getElem? (i := 1135) (by decide +kernel)⟩
theorem lw_p35 : lw_okq (⟨"CiteListsModel", "endPerson", "(III)V"⟩, 38) := ⟨⟨by decide +kernel, by decide +kernel⟩, List.mem_of_getElem? (i := 948) (by decide +kernel), List.mem_of_getElem? (i := 1138) (by decide +kernel), List.mem_of_getElem? (i := 1139) (by decide +kernel)⟩
theorem lw_p36 : lw_okq (⟨"CiteListsModel", "startsSmall", "(I)Z"⟩, 38) := ⟨⟨by decide +kernel, by decide +kernel⟩, List.mem_of_getElem? (i := 948) (by decide +kernel), List.mem_of_getElem? (i := 1142) (by decide +kernel), List.mem_of_getElem? (i := 1143) (by decide +kernel)⟩
theorem lw_p37 : lw_okq (⟨"CiteListsModel", "addWord", "(III)V"⟩, 38) := ⟨⟨by decide +kernel, by decide +kernel⟩, List.mem_of_getElem? (i := 948) (by decide +kernel), List.mem_of_getElem? (i := 1149) (by decide +kernel), List.mem_of_getElem? (i := 1150) (by decide +kernel)⟩
theorem lw_p38 : lw_okq (⟨"CiteListsModel", "orderOfPart", "(II)I"⟩, 38) := ⟨⟨by decide +kernel, by decide +kernel⟩, List.mem_of_getElem? (i := 948) (by decide +kernel), List.mem_of_getElem? (i := 1153) (by decide +kernel), List.mem_of_getElem? (i := 1154) (by decide +kernel)⟩
theorem lw_p39 : lw_okq (⟨"CiteListsModel", "putWords", "(IIII)V"⟩, 38) := ⟨⟨by decide +kernel, by decide +kernel⟩, List.mem_of_getElem? (i := 948) (by decide +kernel), List.mem_of_getElem? (i := 1157) (by decide +kernel), List.mem_of_getElem? (i := 1158) (by decide +kernel)⟩
theorem lw_p40 : lw_okq (⟨"CiteListsModel", "put", "(I)V"⟩, 38) := ⟨⟨by decide +kernel, by decide +kernel⟩, List.mem_of_getElem? (i := 948) (by decide +kernel), List.mem_of_getElem? (i := 1161) (by decide +kernel), List.mem_of_getElem? (i := 1162) (by decide +kernel)⟩
theorem lw_p41 : lw_okq (⟨"CiteListsModel", "turn", "()V"⟩, 38) := ⟨⟨by decide +kernel, by decide +kernel⟩, List.mem_of_getElem? (i := 948) (by decide +kernel), List.mem_of_getElem? (i := 1165) (by decide +kernel), List.mem_of_getElem? (i := 1166) (by decide +kernel)⟩
theorem lw_p42 : lw_okq (⟨"CiteListsModel", "order", "(Z)I"⟩, 38) := ⟨⟨by decide +kernel, by decide +kernel⟩, List.mem_of_getElem? (i := 948) (by decide +kernel), List.mem_of_getElem? (i := 1169) (by decide +kernel), List.mem_of_getElem? (i := 1170) (by decide +kernel)⟩
theorem lw_p43 : lw_okq (⟨"CiteListsModel", "orderOfField", "(III)I"⟩, 38) := ⟨⟨by decide +kernel, by decide +kernel⟩, List.mem_of_getElem? (i := 948) (by decide +kernel), List.mem_of_getElem? (i := 1176) (by decide +kernel), List.mem_of_getElem? (i := 1177) (by decide +kernel)⟩
theorem lw_p44 : lw_okq (⟨"CiteListsModel", "putField", "(I)V"⟩, 38) := ⟨⟨by decide +kernel, by decide +kernel⟩, List.mem_of_getElem? (i := 948) (by decide +kernel), List.mem_of_getElem? (i := 1180) (by decide +kernel), List.mem_of_getElem? (i := 1181) (by decide +kernel)⟩
theorem lw_p45 : lw_okq (⟨"CiteListsModel", "makeBase", "(I)V"⟩, 38) := ⟨⟨by decide +kernel, by decide +kernel⟩, List.mem_of_getElem? (i := 948) (by decide +kernel), List.mem_of_getElem? (i := 1184) (by decide +kernel), List.mem_of_getElem? (i := 1185) (by decide +kernel)⟩
theorem lw_p46 : lw_okq (⟨"CiteListsModel", "isAlike", "(I)Z"⟩, 38) := ⟨⟨by decide +kernel, by decide +kernel⟩, List.mem_of_getElem? (i := 948) (by decide +kernel), List.mem_of_getElem? (i := 1188) (by decide +kernel), List.mem_of_getElem? (i := 1189) (by decide +kernel)⟩
theorem lw_p47 : lw_okq (⟨"CiteListsModel", "putInitials", "(II)V"⟩, 38) := ⟨⟨by decide +kernel, by decide +kernel⟩, List.mem_of_getElem? (i := 948) (by decide +kernel), List.mem_of_getElem? (i := 1192) (by decide +kernel), List.mem_of_getElem? (i := 1193) (by decide +kernel)⟩
def lw_privs_3 : List (MethodName × Nat) := [(⟨"CiteListsModel", "orderOfPersons", "(II)I"⟩, 38), (⟨"CiteListsModel", "read", "(II)V"⟩, 38), (⟨"CiteListsModel", "value", "(II)I"⟩, 38), (⟨"CiteListsModel", "endPerson", "(III)V"⟩, 38), (⟨"CiteListsModel", "startsSmall", "(I)Z"⟩, 38), (⟨"CiteListsModel", "addWord", "(III)V"⟩, 38), (⟨"CiteListsModel", "orderOfPart", "(II)I"⟩, 38), (⟨"CiteListsModel", "putWords", "(IIII)V"⟩, 38), (⟨"CiteListsModel", "put", "(I)V"⟩, 38), (⟨"CiteListsModel", "turn", "()V"⟩, 38), (⟨"CiteListsModel", "order", "(Z)I"⟩, 38), (⟨"CiteListsModel", "orderOfField", "(III)I"⟩, 38), (⟨"CiteListsModel", "putField", "(I)V"⟩, 38), (⟨"CiteListsModel", "makeBase", "(I)V"⟩, 38), (⟨"CiteListsModel", "isAlike", "(I)Z"⟩, 38), (⟨"CiteListsModel", "putInitials", "(II)V"⟩, 38)]
theorem lw_r3 : ∀ q ∈ lw_privs_3, lw_okq q := List.forall_mem_cons.mpr ⟨lw_p32, List.forall_mem_cons.mpr ⟨lw_p33, List.forall_mem_cons.mpr ⟨lw_p34, List.forall_mem_cons.mpr ⟨lw_p35, List.forall_mem_cons.mpr ⟨lw_p36, List.forall_mem_cons.mpr ⟨lw_p37, List.forall_mem_cons.mpr ⟨lw_p38, List.forall_mem_cons.mpr ⟨lw_p39, List.forall_mem_cons.mpr ⟨lw_p40, List.forall_mem_cons.mpr ⟨lw_p41, List.forall_mem_cons.mpr ⟨lw_p42, List.forall_mem_cons.mpr ⟨lw_p43, List.forall_mem_cons.mpr ⟨lw_p44, List.forall_mem_cons.mpr ⟨lw_p45, List.forall_mem_cons.mpr ⟨lw_p46, List.forall_mem_cons.mpr ⟨lw_p47, fun _ h => absurd h List.not_mem_nil⟩⟩⟩⟩⟩⟩⟩⟩⟩⟩⟩⟩⟩⟩⟩⟩
theorem lw_p48 : lw_okq (⟨"CiteListsModel", "makeShort", "(I)V"⟩, 38) := ⟨⟨by decide +kernel, by decide +kernel⟩, List.mem_of_getElem? (i := 948) (by decide +kernel), List.mem_of_getElem? (i := 1196) (by decide +kernel), List.mem_of_getElem? (i := 1197) (by decide +kernel)⟩
theorem lw_p49 : lw_okq (⟨"CiteListsModel", "putKey", "(II)V"⟩, 38) := ⟨⟨by decide +kernel, by decide +kernel⟩, List.mem_of_getElem? (i := 948) (by decide +kernel), List.mem_of_getElem? (i := 1200) (by decide +kernel), List.mem_of_getElem? (i := 1201) (by decide +kernel)⟩
theorem lw_p50 : lw_okq (⟨"CiteListsModel", "makeLong", "(IZ)V"⟩, 38) := ⟨⟨by decide +kernel, by decide +kernel⟩, List.mem_of_getElem? (i := 948) (by decide +kernel), List.mem_of_getElem? (i := 1204) (by decide +kernel), List.mem_of_getElem? (i := 1205) (by decide +kernel)⟩
theorem lw_p51 : lw_okq (⟨"CiteListsModel", "has", "(III)Z"⟩, 38) := ⟨⟨by decide +kernel, by decide +kernel⟩, List.mem_of_getElem? (i := 948) (by decide +kernel), List.mem_of_getElem? (i := 1208) (by decide +kernel), List.mem_of_getElem? (i := 1209) (by decide +kernel)⟩
theorem lw_p52 : lw_okq (⟨"CiteListsModel", "putName", "(II)V"⟩, 38) := ⟨⟨by decide +kernel, by decide +kernel⟩, List.mem_of_getElem? (i := 948) (by decide +kernel), List.mem_of_getElem? (i := 1212) (by decide +kernel), List.mem_of_getElem? (i := 1213) (by decide +kernel)⟩
theorem lw_p53 : lw_okq (⟨"CiteListsModel", "say", "(J)V"⟩, 38) := ⟨⟨by decide +kernel, by decide +kernel⟩, List.mem_of_getElem? (i := 948) (by decide +kernel), List.mem_of_getElem? (i := 1217) (by decide +kernel), List.mem_of_getElem? (i := 1218) (by decide +kernel)⟩
theorem lw_p54 : lw_okq (⟨"CiteListsModel", "setLetters", "()V"⟩, 38) := ⟨⟨by decide +kernel, by decide +kernel⟩, List.mem_of_getElem? (i := 948) (by decide +kernel), List.mem_of_getElem? (i := 1223) (by decide +kernel), List.mem_of_getElem? (i := 1224) (by decide +kernel)⟩
theorem lw_p55 : lw_okq (⟨"CiteListsModel", "isSameBase", "(II)Z"⟩, 38) := ⟨⟨by decide +kernel, by decide +kernel⟩, List.mem_of_getElem? (i := 948) (by decide +kernel), List.mem_of_getElem? (i := 1227) (by decide +kernel), List.mem_of_getElem? (i := 1228) (by decide +kernel)⟩
theorem lw_p56 : lw_okq (⟨"CiteListsModel", "makeText", "(I)V"⟩, 38) := ⟨⟨by decide +kernel, by decide +kernel⟩, List.mem_of_getElem? (i := 948) (by decide +kernel), List.mem_of_getElem? (i := 1231) (by decide +kernel), List.mem_of_getElem? (i := 1232) (by decide +kernel)⟩
theorem lw_p57 : lw_okq (⟨"CiteListsModel", "putNumber", "(I)V"⟩, 38) := ⟨⟨by decide +kernel, by decide +kernel⟩, List.mem_of_getElem? (i := 948) (by decide +kernel), List.mem_of_getElem? (i := 1235) (by decide +kernel), List.mem_of_getElem? (i := 1236) (by decide +kernel)⟩
theorem lw_p58 : lw_okq (⟨"CiteListsModel", "piecePersons", "(I)V"⟩, 38) := ⟨⟨by decide +kernel, by decide +kernel⟩, List.mem_of_getElem? (i := 948) (by decide +kernel), List.mem_of_getElem? (i := 1239) (by decide +kernel), List.mem_of_getElem? (i := 1240) (by decide +kernel)⟩
theorem lw_p59 : lw_okq (⟨"CiteListsModel", "nextPiece", "()V"⟩, 38) := ⟨⟨by decide +kernel, by decide +kernel⟩, List.mem_of_getElem? (i := 948) (by decide +kernel), List.mem_of_getElem? (i := 1243) (by decide +kernel), List.mem_of_getElem? (i := 1244) (by decide +kernel)⟩
theorem lw_p60 : lw_okq (⟨"CiteListsModel", "putFull", "(I)V"⟩, 38) := ⟨⟨by decide +kernel, by decide +kernel⟩, List.mem_of_getElem? (i := 948) (by decide +kernel), List.mem_of_getElem? (i := 1247) (by decide +kernel), List.mem_of_getElem? (i := 1248) (by decide +kernel)⟩
theorem lw_p61 : lw_okq (⟨"CiteListsModel", "pieceField", "(I)V"⟩, 38) := ⟨⟨by decide +kernel, by decide +kernel⟩, List.mem_of_getElem? (i := 948) (by decide +kernel), List.mem_of_getElem? (i := 1252) (by decide +kernel), List.mem_of_getElem? (i := 1253) (by decide +kernel)⟩
theorem lw_p62 : lw_okq (⟨"CiteListsModel", "pieceThird", "(I)V"⟩, 38) := ⟨⟨by decide +kernel, by decide +kernel⟩, List.mem_of_getElem? (i := 948) (by decide +kernel), List.mem_of_getElem? (i := 1256) (by decide +kernel), List.mem_of_getElem? (i := 1257) (by decide +kernel)⟩
theorem lw_p63 : lw_okq (⟨"CiteListsModel", "lookWhatLacks", "(I)V"⟩, 38) := ⟨⟨by decide +kernel, by decide +kernel⟩, List.mem_of_getElem? (i := 948) (by decide +kernel), List.mem_of_getElem? (i := 1262) (by decide +kernel), List.mem_of_getElem? (i := 1263) (by decide +kernel)⟩
def lw_privs_4 : List (MethodName × Nat) := [(⟨"CiteListsModel", "makeShort", "(I)V"⟩, 38), (⟨"CiteListsModel", "putKey", "(II)V"⟩, 38), (⟨"CiteListsModel", "makeLong", "(IZ)V"⟩, 38), (⟨"CiteListsModel", "has", "(III)Z"⟩, 38), (⟨"CiteListsModel", "putName", "(II)V"⟩, 38), (⟨"CiteListsModel", "say", "(J)V"⟩, 38), (⟨"CiteListsModel", "setLetters", "()V"⟩, 38), (⟨"CiteListsModel", "isSameBase", "(II)Z"⟩, 38), (⟨"CiteListsModel", "makeText", "(I)V"⟩, 38), (⟨"CiteListsModel", "putNumber", "(I)V"⟩, 38), (⟨"CiteListsModel", "piecePersons", "(I)V"⟩, 38), (⟨"CiteListsModel", "nextPiece", "()V"⟩, 38), (⟨"CiteListsModel", "putFull", "(I)V"⟩, 38), (⟨"CiteListsModel", "pieceField", "(I)V"⟩, 38), (⟨"CiteListsModel", "pieceThird", "(I)V"⟩, 38), (⟨"CiteListsModel", "lookWhatLacks", "(I)V"⟩, 38)]
theorem lw_r4 : ∀ q ∈ lw_privs_4, lw_okq q := List.forall_mem_cons.mpr ⟨lw_p48, List.forall_mem_cons.mpr ⟨lw_p49, List.forall_mem_cons.mpr ⟨lw_p50, List.forall_mem_cons.mpr ⟨lw_p51, List.forall_mem_cons.mpr ⟨lw_p52, List.forall_mem_cons.mpr ⟨lw_p53, List.forall_mem_cons.mpr ⟨lw_p54, List.forall_mem_cons.mpr ⟨lw_p55, List.forall_mem_cons.mpr ⟨lw_p56, List.forall_mem_cons.mpr ⟨lw_p57, List.forall_mem_cons.mpr ⟨lw_p58, List.forall_mem_cons.mpr ⟨lw_p59, List.forall_mem_cons.mpr ⟨lw_p60, List.forall_mem_cons.mpr ⟨lw_p61, List.forall_mem_cons.mpr ⟨lw_p62, List.forall_mem_cons.mpr ⟨lw_p63, fun _ h => absurd h List.not_mem_nil⟩⟩⟩⟩⟩⟩⟩⟩⟩⟩⟩⟩⟩⟩⟩⟩
theorem lw_p64 : lw_okq (⟨"CiteListsModel", "want", "(II)V"⟩, 38) := ⟨⟨by decide +kernel, by decide +kernel⟩, List.mem_of_getElem? (i := 948) (by decide +kernel), List.mem_of_getElem? (i := 1266) (by decide +kernel), List.mem_of_getElem? (i := 1267) (by decide +kernel)⟩
theorem lw_p65 : lw_okq (⟨"CiteListsModel", "isRow", "(I)Z"⟩, 38) := ⟨⟨by decide +kernel, by decide +kernel⟩, List.mem_of_getElem? (i := 948) (by decide +kernel), List.mem_of_getElem? (i := 1274) (by decide +kernel), List.mem_of_getElem? (i := 1275) (by decide +kernel)⟩
def lw_privs_5 : List (MethodName × Nat) := [(⟨"CiteListsModel", "want", "(II)V"⟩, 38), (⟨"CiteListsModel", "isRow", "(I)Z"⟩, 38)]
theorem lw_r5 : ∀ q ∈ lw_privs_5, lw_okq q := List.forall_mem_cons.mpr ⟨lw_p64, List.forall_mem_cons.mpr ⟨lw_p65, fun _ h => absurd h List.not_mem_nil⟩⟩
def lw_privs : List (MethodName × Nat) := lw_privs_1 ++ (lw_privs_2 ++ (lw_privs_3 ++ (lw_privs_4 ++ (lw_privs_5))))
def lw_tbl : List Cond := k2_sels lw_privs ++ tables_1
theorem lw_privs_ok : ∀ q ∈ lw_privs, lw_okq q := by
  show ∀ q ∈ lw_privs_1 ++ (lw_privs_2 ++ (lw_privs_3 ++ (lw_privs_4 ++ (lw_privs_5)))), lw_okq q
  exact List.forall_mem_append.mpr ⟨lw_r1, List.forall_mem_append.mpr ⟨lw_r2, List.forall_mem_append.mpr ⟨lw_r3, List.forall_mem_append.mpr ⟨lw_r4, lw_r5⟩⟩⟩⟩
end
section
/-! ===== BEGIN words of one list among another's, by their places ===== -/
theorem goodIn_r {big : List Cond} (ws : List Cond) (ps : List Nat) (hp : ws = ps.filterMap (fun i => big[i]?)) (h : ws.all goodWord = true) : GoodIn big ws := by
  intro w hw
  have h1 := List.all_eq_true.mp h w hw
  rw [hp] at hw
  obtain ⟨i, -, hi⟩ := List.mem_filterMap.mp hw
  have hm : w ∈ big := by first | exact List.mem_of_getElem? hi | exact List.getElem?_mem hi
  exact ⟨hm, good_of_word h1⟩
theorem goodIn_app {big a b : List Cond} (ha : GoodIn big a) (hb : GoodIn big b) : GoodIn big (a ++ b) := fun w h => (List.mem_append.mp h).elim (ha w) (hb w)
theorem goodIn_ca {big a b : List Cond} {c : Cond} (ha : GoodIn big (c :: a)) (hb : GoodIn big b) : GoodIn big (c :: (a ++ b)) := fun w h => (List.mem_cons.mp h).elim (fun e => ha w (List.mem_cons.mpr (Or.inl e))) (fun h => (List.mem_append.mp h).elim (fun h => ha w (List.mem_cons.mpr (Or.inr h))) (hb w))
theorem goodIn_sub {big ws : List Cond} (hm : ∀ w ∈ ws, w ∈ big) (h : ws.all goodWord = true) : GoodIn big ws := fun w hw => ⟨hm w hw, good_of_word (List.all_eq_true.mp h w hw)⟩
/-! ===== END ===== -/

/-! ===== BEGIN exceptions that leave a method, and their catching by the caller (launches without stack traces) ===== -/
section VXA
/-! The laws vx_back, vx_callV, vx_callS, vx_callSW, vx_throw0, vx_throwS follow proofs of the library, with one case more: JvmDerived/Free/Laws.lean (Back.of_free), Shelf42/LK1.lean (callV, callS), Shelf/KitTraced.lean (throwNew0V, throwNewS). -/
/-- where a method has thrown q: the class by its name, the cell, what was written, the world -/
def vx_T (XC : String → State → State → Prop) (st : State) (q : Addr) (t : State) (mc ms : Nat) (free : Addr → Prop) : Prop :=
  ∃ (E : String) (ce : Cell) (L : List Loc), XC E st t ∧ t.heap[q]? = some ce ∧ ce.vm = .none ∧ st.vm.findClass E = some ce.cls ∧ st.WarmedH t.vm ∧ st.sameButNew ({ t with vm := st.vm } : State) L mc ms ∧ ∀ z ∈ L, free z.base
def vx_Q (Qc : Array Value → State → Outcome → State → Prop) (XC : String → State → State → Prop) (mc ms : Nat) (free : Addr → Prop) : Array Value → State → Outcome → State → Prop := fun a st o t =>
  (Qc a st o t ∧ ∃ L, FrameEnd st o t L mc ms ∧ ∀ q ∈ L, free q.base) ∨ ∃ q, o = .threw q ∧ vx_T XC st q t mc ms free
/-- a callee that returns or throws -/
def vx_Met (l : Launch) (y : MethodName) (ws : List Cond) (rm : Room) (Pc : Array Value → State → Prop) (Qc : Array Value → State → Outcome → State → Prop) (XC : String → State → State → Prop) (mc ms : Nat) (free : Addr → Prop) : Prop :=
  MetFree l y (headSpec ws rm) Pc (fun _ _ _ _ _ => True) (vx_Q Qc XC mc ms free)
def vx_Post (XC : String → State → State → Prop) (mc ms : Nat) (free : Addr → Prop) : Pt → Array Value → Addr → Pt → Prop := fun A a q B =>
  ∃ (g : JFrame) (mk : MethodId) (t : State) (L : List Loc) (E : String) (ce : Cell), B.U.heap = t.heap ∧ B.U.vm = t.vm ∧ XC E (A.U.calling g mk a) t ∧ t.heap[q]? = some ce ∧ ce.vm = .none ∧ A.U.vm.findClass E = some ce.cls ∧ B.locs = A.locs ++ L ∧ (∀ z ∈ L, free z.base) ∧ B.cells = A.cells + mc ∧ B.slots = A.slots + ms
def vx_Back (l : Launch) (R : Room) (p : Program) (e : Env) (below : List Frame) (s : State) (sargs : Array Value) (y : MethodName) (len W9 : Nat)
    (Pre : Pt → Array Value → Prop) (Post : Pt → Array Value → Option Value → Pt → Prop) (PostX : Pt → Array Value → Addr → Pt → Prop) : Prop :=
  ∀ (m : MethodId) (meth : Method) (c : Code) (A : Pt) (g : JFrame) (ig : Instr) (mk : MethodId) (a : Array Value),
    Stand p l e R s m sargs below meth c A.U A.locs A.cells A.slots → g.method = m → g.locals.size = c.maxLocals → decode c.code g.pc = .ok (ig, len) →
    2 * g.monitorRoom + (g.stack.map fun v => v.category).sum ≤ W9 → A.U.methodNamed? y = some mk → Pre A a →
    (∃ (v : Option Value) (B : Pt), Stand p l e R s m sargs below meth c B.U B.locs B.cells B.slots ∧ Post A a v B ∧
      Steps p.tables e below (doInvoke e (A.U.setTop g) [] mk a).1 (B.U.setTop { g with pc := g.pc + len, stack := v.toList ++ g.stack })) ∨
    (∃ (q : Addr) (B : Pt), Stand p l e R s m sargs below meth c B.U B.locs B.cells B.slots ∧ PostX A a q B ∧
      Steps p.tables e below (doInvoke e (A.U.setTop g) [] mk a).1 ((B.U.setTop g).pushFrame (.throwing q)))
section Payer
variable {l : Launch} {R : Room} {p : Program} {e : Env} {below : List Frame} {s : State} {sargs : Array Value} {y : MethodName} {len W9 : Nat}
theorem vx_back {ws : List Cond} {rm : Room} {Pc : Array Value → State → Prop} {Qc : Array Value → State → Outcome → State → Prop} {XC : String → State → State → Prop} {mc ms : Nat} {free : Addr → Prop} {bytes : ByteArray} {maxL : Nat} {ret : Option FieldType}
    (hM : vx_Met l y ws rm Pc Qc XC mc ms free) (hblind : FrameBlind Pc) (hrc : rm.cells = mc) (hrs : rm.slots = ms)
    (hframes : rm.frames + 1 ≤ R.frames) (hlocals : W9 + (maxL + 11) + rm.locals ≤ R.locals)
    (hws : ∀ w ∈ ws, ∀ a' U, s.WarmedH U.vm → w.before a' U = true) (hcode : Cond.code y bytes maxL ret ∈ ws) (hinit : ∀ a' U, s.WarmedH U.vm → (Cond.initialized y.cls).before a' U = true) :
    vx_Back l R p e below s sargs y len W9 (PreOf R mc ms Pc) (PostOf Qc mc ms free) (vx_Post XC mc ms free) := by
  intro m meth c A g ig mk a X hg hsize hdg hW hn hp
  have h1 : (headSpec ws rm).pre.before a A.U = true := atoms_intro fun w hw => hws w hw _ _ X.warmed
  have h2 : (Cond.code y bytes maxL ret).before a A.U = true := hws _ hcode _ _ X.warmed
  have h3 : (Cond.initialized y.cls).before a A.U = true := hinit _ _ X.warmed
  have h4 : A.cells + (headSpec ws rm).room.cells ≤ R.cells := by rw [show (headSpec ws rm).room.cells = mc from hrc]; exact hp.1
  have h5 : A.slots + (headSpec ws rm).room.slots ≤ R.slots := by rw [show (headSpec ws rm).room.slots = ms from hrs]; exact hp.2.1
  have hPc : Pc a (A.U.calling g mk a) := hblind _ _ _ _ hp.2.2
  obtain ⟨U, Ls, c0, s0⟩ := A
  dsimp only [Pt.U, Pt.locs, Pt.cells, Pt.slots] at h1 h2 h3 h4 h5 X hn hPc ⊢
  obtain ⟨methY, cY, hmY, hcY, -, hlY, -, -, -, -⟩ := Cond.code_spec hn h2
  obtain ⟨kY, hkY, -⟩ := className_of_methodNamed hn
  have hinitY : kY.init = .initialized := Cond.initialized_spec (findClass_of_methodNamed hn) hkY h3
  have h : At U g.method c below := by rw [hg]; exact X.here
  have hlocals9 : W9 + (maxL + 11) + (headSpec ws rm).room.locals ≤ R.locals := hlocals
  have happ : (headSpec ws rm).appliesLoose y e.platform (U.calling g mk a) = true :=
    Spec.appliesLoose_calling (g := g) h hdg hn hkY hinitY
      (X.room_calling (g := g) (R' := (headSpec ws rm).room) hsize hmY hcY hframes (by rw [hlY]; omega) h4 h5) h1
  obtain ⟨mid, hmid⟩ := h.above
  have hfr : (U.setTop g).frames = (.java g :: mid) ++ below := by rw [State.frames_setTop' g h.top, hmid]; rfl
  obtain ⟨o, s₂, hsteps, -, hend, hq⟩ := Steps.callFree hM p X.admits X.cas X.clock (acts := []) hfr happ hPc trivial
  have hq' : vx_Q Qc XC mc ms free a (U.calling g mk a) o s₂ := hq
  rw [State.frames_setTop' g h.top] at hend
  obtain ⟨g₀, hg0⟩ := Option.isSome_iff_exists.mp h.top
  obtain ⟨r, hr⟩ := State.topJava?_eq_some.mp hg0
  have hr' : (({ U with heap := s₂.heap, slotsUsed := s₂.slotsUsed } : State).setVm s₂.vm).frames = .java g₀ :: r := hr
  rcases hq' with ⟨hqc, L, hfe, hL⟩ | ⟨q, rfl, E, ce, L, hx, hce, hcv, hcl, hW₂, hsm, hL⟩
  · obtain ⟨⟨v, rfl⟩, hW₂, e2, q2, q3, q4, q5, q6⟩ := id hfe
    have e3 : s₂ = ({ (U.calling g mk a).setFrames s₂.frames with heap := s₂.heap, slotsUsed := s₂.slotsUsed } : State).setVm s₂.vm := by
      have : s₂ = ({ s₂ with vm := (U.calling g mk a).vm } : State).setVm s₂.vm := rfl
      rw [e2] at this
      exact this
    obtain ⟨c₂, i₂, len₂, hc₂, hd₂, hf₂⟩ := hend
    have hW' : U.WarmedH s₂.vm := hW₂
    have hcc : c₂ = c := by
      have h1 : s₂.code? g.method = U.code? g.method := by
        rw [State.code?_eq, State.code?_eq, hW'.alike.method?]
      exact Option.some.inj (hc₂.symm.trans (h1.trans h.code))
    subst hcc
    have hlen : len₂ = len := by rw [hdg] at hd₂; cases hd₂; rfl
    subst hlen
    have hs₂ : s₂ = (({ U with heap := s₂.heap, slotsUsed := s₂.slotsUsed } : State).setVm s₂.vm).setTop { g with pc := g.pc + len₂, stack := v.toList ++ g.stack } := by
      refine e3.trans ?_
      rw [hf₂, State.calling_eq h.top, State.setFrames_setFrames, State.setTop_of_frames _ hr', hr]
      rfl
    have hsame : U.sameButNew ({ U with heap := s₂.heap, slotsUsed := s₂.slotsUsed } : State) L mc ms := by
      refine ⟨?_, q2, q3, q4, q5, q6⟩
      obtain ⟨t, ht, -⟩ := State.frames_cons hr
      show ({ U with heap := s₂.heap, slotsUsed := s₂.slotsUsed } : State) = { U.setFrames U.frames with heap := s₂.heap, slotsUsed := s₂.slotsUsed }
      rw [State.setFrames_self ht]
    subst hg
    refine Or.inl ⟨v, ⟨(({ U with heap := s₂.heap, slotsUsed := s₂.slotsUsed } : State).setVm s₂.vm), Ls ++ L, c0 + mc, s0 + ms⟩,
      ⟨X.admits, X.cas, X.clock, X.frames, X.room, X.hears, X.method, X.code, (X.here.setHeapUsed s₂.heap s₂.slotsUsed).setVm hW'.alike, X.tail, State.WarmedH.trans X.warmed hW', X.limits, X.bytes, X.same.trans (hsame.setVm s.vm)⟩,
      ⟨g, mk, s₂, L, rfl, rfl, hqc, rfl, hL, rfl, rfl⟩, ?_⟩
    show Steps p.tables e below _ ((({ U with heap := s₂.heap, slotsUsed := s₂.slotsUsed } : State).setVm s₂.vm).setTop { g with pc := g.pc + len₂, stack := v.toList ++ g.stack })
    rw [← hs₂]
    exact hsteps
  · obtain ⟨e2, q2, q3, q4, q5, q6⟩ := id hsm
    have e3 : s₂ = ({ (U.calling g mk a).setFrames s₂.frames with heap := s₂.heap, slotsUsed := s₂.slotsUsed } : State).setVm s₂.vm := by
      have : s₂ = ({ s₂ with vm := (U.calling g mk a).vm } : State).setVm s₂.vm := rfl
      rw [e2] at this
      exact this
    have hf₂ : s₂.frames = .throwing q :: .java g :: U.frames.tail := hend
    have hW' : U.WarmedH s₂.vm := hW₂
    have hs₂ : s₂ = ((({ U with heap := s₂.heap, slotsUsed := s₂.slotsUsed } : State).setVm s₂.vm).setTop g).pushFrame (.throwing q) := by
      refine e3.trans ?_
      rw [hf₂, State.calling_eq h.top, State.setFrames_setFrames, State.pushFrame, State.frames_setTop _ hr', State.setTop_of_frames _ hr', State.setFrames_setFrames, hr]
      rfl
    have hsame : U.sameButNew ({ U with heap := s₂.heap, slotsUsed := s₂.slotsUsed } : State) L mc ms := by
      refine ⟨?_, q2, q3, q4, q5, q6⟩
      obtain ⟨t, ht, -⟩ := State.frames_cons hr
      show ({ U with heap := s₂.heap, slotsUsed := s₂.slotsUsed } : State) = { U.setFrames U.frames with heap := s₂.heap, slotsUsed := s₂.slotsUsed }
      rw [State.setFrames_self ht]
    subst hg
    refine Or.inr ⟨q, ⟨(({ U with heap := s₂.heap, slotsUsed := s₂.slotsUsed } : State).setVm s₂.vm), Ls ++ L, c0 + mc, s0 + ms⟩,
      ⟨X.admits, X.cas, X.clock, X.frames, X.room, X.hears, X.method, X.code, (X.here.setHeapUsed s₂.heap s₂.slotsUsed).setVm hW'.alike, X.tail, State.WarmedH.trans X.warmed hW', X.limits, X.bytes, X.same.trans (hsame.setVm s.vm)⟩,
      ⟨g, mk, s₂, L, E, ce, rfl, rfl, hx, hce, hcv, hcl, rfl, hL, rfl, rfl⟩, ?_⟩
    show Steps p.tables e below _ (((({ U with heap := s₂.heap, slotsUsed := s₂.slotsUsed } : State).setVm s₂.vm).setTop g).pushFrame (.throwing q))
    rw [← hs₂]
    exact hsteps
end Payer
section Calls
variable {p : Program} {l : Launch} {e : Env} {R : Room} {s : State} {m : MethodId} {args : Array Value} {below : List Frame} {meth : Method} {c : Code} {T : State} {locs : List Loc} {cells slots : Nat}
theorem vx_callV (X : Stand p l e R s m args below meth c T locs cells slots) (hexec : p.tables.exec = Jvm.exec) {own C : String} {index : Nat} {y : MethodName} {bytes : ByteArray} {maxL : Nat} {ret : Option FieldType}
    (hown : s.vm.findClass own = some m.cls) (hlink : (Cond.methodLink own index y).before args s = true) (hinst : (Cond.instanceMethod y).before args s = true) (hsel : (Cond.selects C y y).before args s = true)
    (hcode : (Cond.code y bytes maxL ret).before args s = true) (hy : y.cls ≠ "java/lang/invoke/MethodHandle" ∧ y.cls ≠ "java/lang/invoke/VarHandle")
    {W9 : Nat} {Pre : Pt → Array Value → Prop} {Post : Pt → Array Value → Option Value → Pt → Prop} {PostX : Pt → Array Value → Addr → Pt → Prop} (hK : vx_Back l R p e below s args y 3 W9 Pre Post PostX)
    {b : Addr} {cellB : Cell} (hcell : T.heap[b]? = some cellB) (hobj : cellB.vm.isStatics = false) (hcls : s.vm.findClass C = some cellB.cls)
    {g : JFrame} (hg : g.method = m) (hsize : g.locals.size = c.maxLocals) {argsL rest : List Value} (hlen : ∀ sig, parseMethodDescriptor y.desc = some sig → argsL.length = sig.parameters.length)
    (hstack : g.stack = argsL.reverse ++ .ref b :: rest) (hW : 2 * g.monitorRoom + (rest.map fun v => v.category).sum ≤ W9) (hdg : decode c.code g.pc = .ok (.invokevirtual index, 3))
    (hpre : ∀ vm₁, s.WarmedH vm₁ → Pre ⟨T.setVm vm₁, locs, cells, slots⟩ (Value.ref b :: argsL).toArray) :
    (∃ (v : Option Value) (vm₁ : Vm) (B : Pt), s.WarmedH vm₁ ∧ Stand p l e R s m args below meth c B.U B.locs B.cells B.slots ∧ Post ⟨T.setVm vm₁, locs, cells, slots⟩ (Value.ref b :: argsL).toArray v B ∧
      ∀ target, Steps p.tables e below (B.U.setTop { g with pc := g.pc + 3, stack := v.toList ++ rest }) target → Steps p.tables e below (T.setTop g) target) ∨
    (∃ (q : Addr) (vm₁ : Vm) (B : Pt), s.WarmedH vm₁ ∧ Stand p l e R s m args below meth c B.U B.locs B.cells B.slots ∧ PostX ⟨T.setVm vm₁, locs, cells, slots⟩ (Value.ref b :: argsL).toArray q B ∧
      Steps p.tables e below (T.setTop g) ((B.U.setTop { g with stack := rest }).pushFrame (.throwing q))) := by
  obtain ⟨mk, methM, hnamed, hmethM, hstM, habM⟩ := Cond.instanceMethod_spec hinst
  obtain ⟨methM', cM, hmethM', -, -, -, -, -, -, hsigM⟩ := Cond.code_spec hnamed hcode
  cases hmethM.symm.trans hmethM'
  obtain ⟨c2, r2, m2, q1, q2, q3, q4, kP, hkP, hkPi⟩ := Cond.selects_spec hsel
  cases hcls.symm.trans q1
  cases (State.methodFound?_of_named hnamed hy).symm.trans q2
  cases hnamed.symm.trans q3
  have hselP : selectMethod e.platform s.vm cellB.cls mk = .method mk := by rw [Launch.admits_selectMethod X.admits]; exact q4
  obtain ⟨vm₁, X₁, hstep₁⟩ := X.invokevirtual hexec hown hlink hnamed hmethM hstM hkP hkPi hy (a := b) (cell := cellB) hcell
    (fun z h => by rw [h] at hobj; cases hobj) hselP hmethM habM hkP hkPi (g := g) hg (argsL := argsL) (rest := rest) (hlen _ hsigM) hstack hdg
  rcases hK m meth c ⟨T.setVm vm₁, locs, cells, slots⟩ { g with stack := rest } (.invokevirtual index) mk (Value.ref b :: argsL).toArray X₁ hg hsize hdg hW (X₁.named hnamed) (hpre vm₁ X₁.warmed) with ⟨v, B, X', hpost, hsteps⟩ | ⟨q, B, X', hpost, hsteps⟩
  · exact Or.inl ⟨v, vm₁, B, X₁.warmed, X', hpost, fun target h => hstep₁ _ fun acts => by rw [doInvoke_state]; exact hsteps.trans h⟩
  · exact Or.inr ⟨q, vm₁, B, X₁.warmed, X', hpost, hstep₁ _ fun acts => by rw [doInvoke_state]; exact hsteps⟩
theorem vx_callS (X : Stand p l e R s m args below meth c T locs cells slots) (hexec : p.tables.exec = Jvm.exec) {own : String} {index : Nat} {y : MethodName} {bytes : ByteArray} {maxL : Nat} {ret : Option FieldType}
    (hown : s.vm.findClass own = some m.cls) (hlink : (Cond.methodLink own index y).before args s = true) (hstat : (Cond.static y).before args s = true) (hinit : (Cond.initialized y.cls).before args s = true)
    (hcode : (Cond.code y bytes maxL ret).before args s = true) (hy : y.cls ≠ "java/lang/invoke/MethodHandle" ∧ y.cls ≠ "java/lang/invoke/VarHandle")
    {W9 : Nat} {Pre : Pt → Array Value → Prop} {Post : Pt → Array Value → Option Value → Pt → Prop} {PostX : Pt → Array Value → Addr → Pt → Prop} (hK : vx_Back l R p e below s args y 3 W9 Pre Post PostX)
    {g : JFrame} (hg : g.method = m) (hsize : g.locals.size = c.maxLocals) {argsL rest : List Value} (hlen : ∀ sig, parseMethodDescriptor y.desc = some sig → argsL.length = sig.parameters.length)
    (hstack : g.stack = argsL.reverse ++ rest) (hW : 2 * g.monitorRoom + (rest.map fun v => v.category).sum ≤ W9) (hdg : decode c.code g.pc = .ok (.invokestatic index, 3))
    (hpre : ∀ vm₁, s.WarmedH vm₁ → Pre ⟨T.setVm vm₁, locs, cells, slots⟩ argsL.toArray) :
    (∃ (v : Option Value) (vm₁ : Vm) (B : Pt), s.WarmedH vm₁ ∧ Stand p l e R s m args below meth c B.U B.locs B.cells B.slots ∧ Post ⟨T.setVm vm₁, locs, cells, slots⟩ argsL.toArray v B ∧
      ∀ target, Steps p.tables e below (B.U.setTop { g with pc := g.pc + 3, stack := v.toList ++ rest }) target → Steps p.tables e below (T.setTop g) target) ∨
    (∃ (q : Addr) (vm₁ : Vm) (B : Pt), s.WarmedH vm₁ ∧ Stand p l e R s m args below meth c B.U B.locs B.cells B.slots ∧ PostX ⟨T.setVm vm₁, locs, cells, slots⟩ argsL.toArray q B ∧
      Steps p.tables e below (T.setTop g) ((B.U.setTop { g with stack := rest }).pushFrame (.throwing q))) := by
  obtain ⟨mk, hnamed⟩ := Cond.code_named hcode
  obtain ⟨methM, cM, hmethM, -, -, -, -, -, -, hsigM⟩ := Cond.code_spec hnamed hcode
  have hstatic : methM.isStatic = true := Cond.static_spec hnamed hmethM hstat
  obtain ⟨kP, hkP, -⟩ := className_of_methodNamed hnamed
  have hinitP : kP.init = .initialized := Cond.initialized_spec (findClass_of_methodNamed hnamed) hkP hinit
  obtain ⟨vm₁, X₁, hstep₁⟩ := X.invokestatic hexec hown hlink hnamed hmethM hstatic hkP hinitP hy (g := g) hg (argsL := argsL) (rest := rest) (hlen _ hsigM) hstack hdg
  rcases hK m meth c ⟨T.setVm vm₁, locs, cells, slots⟩ { g with stack := rest } (.invokestatic index) mk argsL.toArray X₁ hg hsize hdg hW (X₁.named hnamed) (hpre vm₁ X₁.warmed) with ⟨v, B, X', hpost, hsteps⟩ | ⟨q, B, X', hpost, hsteps⟩
  · exact Or.inl ⟨v, vm₁, B, X₁.warmed, X', hpost, fun target h => hstep₁ _ fun acts => by rw [doInvoke_state]; exact hsteps.trans h⟩
  · exact Or.inr ⟨q, vm₁, B, X₁.warmed, X', hpost, hstep₁ _ fun acts => by rw [doInvoke_state]; exact hsteps⟩
end Calls
theorem vx_cls {s : State} {T : State} {vm₁ : Vm} {E : String} {k : ClassId} (hW : s.WarmedH vm₁) (h : (T.setVm vm₁).vm.findClass E = some k) : s.vm.findClass E = some k := by
  have h1 : vm₁.findClass E = some k := h
  rw [hW.alike.findClass] at h1
  exact h1
/-- the method's frame g, with q thrown over it -/
def vx_W (p : Program) (l : Launch) (e : Env) (R : Room) (s : State) (m : MethodId) (args : Array Value) (below : List Frame) (meth : Method) (c : Code) (H : Heap) (locs : List Loc) (cells slots : Nat) (Q : State → Prop) (g : JFrame) (q : Addr) : Prop :=
  ∀ T : State, T.heap = H → Stand p l e R s m args below meth c T locs cells slots → ∃ t, Steps p.tables e below ((T.setTop g).pushFrame (.throwing q)) t ∧ Q t
def vx_Run (p : Program) (l : Launch) (e : Env) (R : Room) (s : State) (m : MethodId) (args : Array Value) (below : List Frame) (meth : Method) (c : Code) (H : Heap) (locs : List Loc) (cells slots mc ms : Nat) (g : JFrame) (rest : List Value) (Qa : State → Outcome → State → Prop) (XC : String → State → State → Prop) (free : Addr → Prop) : Prop :=
  ∀ T : State, T.heap = H → Stand p l e R s m args below meth c T locs cells slots →
    (∃ (v : Option Value) (st₀ t T' : State) (L : List Loc), st₀.heap = H ∧ Stand p l e R s m args below meth c T' (locs ++ L) (cells + mc) (slots + ms) ∧ (∀ q ∈ L, free q.base) ∧ T'.heap = t.heap ∧ T'.vm = t.vm ∧ Qa st₀ (.returned v) t ∧
      Goes p e below T g T' { g with pc := g.pc + 3, stack := v.toList ++ rest }) ∨
    (∃ (q : Addr) (st₀ t T' : State) (L : List Loc) (E : String) (ce : Cell), st₀.heap = H ∧ Stand p l e R s m args below meth c T' (locs ++ L) (cells + mc) (slots + ms) ∧ (∀ z ∈ L, free z.base) ∧ T'.heap = t.heap ∧ T'.vm = t.vm ∧ XC E st₀ t ∧ t.heap[q]? = some ce ∧ ce.vm = .none ∧ s.vm.findClass E = some ce.cls ∧
      Steps p.tables e below (T.setTop g) ((T'.setTop { g with stack := rest }).pushFrame (.throwing q)))
def vx_X {S : Type} (px : S → Prop) (B : String → S → State → Prop) (A : Nat → Prop) : String → State → State → Prop := fun E st t => ∃ u : S, px u ∧ B E u t ∧ va_F A st t
section Runs
variable {p : Program} {l : Launch} {e : Env} {R : Room} {s : State} {m : MethodId} {args : Array Value} {below : List Frame} {meth : Method} {c : Code} {H : Heap} {locs : List Loc} {cells slots : Nat}
variable {y : MethodName} {bytes cc : ByteArray} {maxL nL mc ms n index : Nat} {ret : Option FieldType} {ws : List Cond} {rm : Room} {Pc : Array Value → State → Prop} {Qc : Array Value → State → Outcome → State → Prop} {XC : String → State → State → Prop} {free : Addr → Prop} {Ts : List Cond} {own C : String} {b : Addr} {As rest : List Value} {g : JFrame}
theorem vx_callBack (cb : CallB R s args own index y bytes maxL ret ws rm mc ms n) (hM : vx_Met l y ws rm Pc Qc XC mc ms free) (hbl : FrameBlind Pc) : vx_Back l R p e below s args y 3 8 (PreOf R mc ms Pc) (PostOf Qc mc ms free) (vx_Post XC mc ms free) := by
  obtain ⟨hrc, hrs, hfr, hlo, hws, hcw, -, hini, -⟩ := cb
  exact vx_back (bytes := bytes) (maxL := maxL) (ret := ret) hM hbl hrc hrs hfr hlo hws hcw (fun a' U hW => word_at hW (Or.inl (by first | rfl | simp [Cond.onTables, Cond.keeps, Cond.steady])) hini)
theorem vx_runV (S : CallFix p m c cc nL s args Ts own) (hM : vx_Met l y ws rm Pc Qc XC mc ms free) (cw : CallW R s args own C index y bytes maxL ret ws rm mc ms n) (hp : PreV s H C b Pc As)
    (hg : g.method = m) (hn : As.length = n) (hsize : g.locals.size = nL) (hstack : g.stack = As.reverse ++ .ref b :: rest) (hW : 2 * g.monitorRoom + (rest.map fun v => v.category).sum ≤ 8) (hdg : decode cc g.pc = .ok (.invokevirtual index, 3)) (hf : cells + mc ≤ R.cells ∧ slots + ms ≤ R.slots) :
    vx_Run p l e R s m args below meth c H locs cells slots mc ms g rest (Qc (Value.ref b :: As).toArray) XC free := by
  have hK : vx_Back l R p e below s args y 3 8 (PreOf R mc ms Pc) (PostOf Qc mc ms free) (vx_Post XC mc ms free) := vx_callBack cw.1 hM hp.1
  obtain ⟨⟨-, -, -, -, -, -, hcode, -, hy, hlen, hl⟩, hin, hse⟩ := cw
  obtain ⟨hx, hb, hml, ho, -⟩ := S
  obtain ⟨-, ⟨cellB, hcB, hoB, hclB⟩, hPc⟩ := hp
  intro T hT X
  rcases vx_callV X hx (C := C) (bytes := bytes) (maxL := maxL) (ret := ret) ho hl hin hse hcode hy hK (by rw [hT]; exact hcB) hoB hclB hg (hsize.trans hml.symm) (argsL := As) (rest := rest) (fun sig h => hn.trans (hlen sig h)) hstack hW (by rw [hb]; exact hdg)
    (fun vm₁ hW₁ => ⟨hf.1, hf.2, hPc (T.setVm vm₁) hT hW₁⟩) with ⟨v, vm₁, ⟨U', l2, c2, s2⟩, hW₁, X', ⟨g', mk, t, L, e1, e2, hq, h1, hL, h2, h3⟩, st⟩ | ⟨q, vm₁, ⟨U', l2, c2, s2⟩, hW₁, X', ⟨g', mk, t, L, E, ce, e1, e2, hq, hce, hcv, hcl, h1, hL, h2, h3⟩, st⟩
  · dsimp only [Pt.U, Pt.locs, Pt.cells, Pt.slots] at X' e1 e2 h1 h2 h3 st
    subst h1; subst h2; subst h3
    exact Or.inl ⟨v, (T.setVm vm₁).calling g' mk (Value.ref b :: As).toArray, t, U', L, hT, X', hL, e1, e2, hq, st⟩
  · dsimp only [Pt.U, Pt.locs, Pt.cells, Pt.slots] at X' e1 e2 h1 h2 h3 st hcl
    subst h1; subst h2; subst h3
    exact Or.inr ⟨q, (T.setVm vm₁).calling g' mk (Value.ref b :: As).toArray, t, U', L, E, ce, hT, X', hL, e1, e2, hq, hce, hcv, vx_cls hW₁ hcl, st⟩
theorem vx_runS (S : CallFix p m c cc nL s args Ts own) (hM : vx_Met l y ws rm Pc Qc XC mc ms free) (cw : CallB R s args own index y bytes maxL ret ws rm mc ms n ∧ (Cond.static y).before args s = true) (hp : PreS s H Pc As)
    (hg : g.method = m) (hn : As.length = n) (hsize : g.locals.size = nL) (hstack : g.stack = As.reverse ++ rest) (hW : 2 * g.monitorRoom + (rest.map fun v => v.category).sum ≤ 8) (hdg : decode cc g.pc = .ok (.invokestatic index, 3)) (hf : cells + mc ≤ R.cells ∧ slots + ms ≤ R.slots) :
    vx_Run p l e R s m args below meth c H locs cells slots mc ms g rest (Qc As.toArray) XC free := by
  have hK : vx_Back l R p e below s args y 3 8 (PreOf R mc ms Pc) (PostOf Qc mc ms free) (vx_Post XC mc ms free) := vx_callBack cw.1 hM hp.1
  obtain ⟨⟨-, -, -, -, -, -, hcode, hini, hy, hlen, hl⟩, hstt⟩ := cw
  obtain ⟨hx, hb, hml, ho, -⟩ := S
  intro T hT X
  rcases vx_callS X hx (bytes := bytes) (maxL := maxL) (ret := ret) ho hl hstt hini hcode hy hK hg (hsize.trans hml.symm) (argsL := As) (rest := rest) (fun sig h => hn.trans (hlen sig h)) hstack hW (by rw [hb]; exact hdg)
    (fun vm₁ hW₁ => ⟨hf.1, hf.2, hp.2 (T.setVm vm₁) hT hW₁⟩) with ⟨v, vm₁, ⟨U', l2, c2, s2⟩, hW₁, X', ⟨g', mk, t, L, e1, e2, hq, h1, hL, h2, h3⟩, st⟩ | ⟨q, vm₁, ⟨U', l2, c2, s2⟩, hW₁, X', ⟨g', mk, t, L, E, ce, e1, e2, hq, hce, hcv, hcl, h1, hL, h2, h3⟩, st⟩
  · dsimp only [Pt.U, Pt.locs, Pt.cells, Pt.slots] at X' e1 e2 h1 h2 h3 st
    subst h1; subst h2; subst h3
    exact Or.inl ⟨v, (T.setVm vm₁).calling g' mk As.toArray, t, U', L, hT, X', hL, e1, e2, hq, st⟩
  · dsimp only [Pt.U, Pt.locs, Pt.cells, Pt.slots] at X' e1 e2 h1 h2 h3 st hcl
    subst h1; subst h2; subst h3
    exact Or.inr ⟨q, (T.setVm vm₁).calling g' mk As.toArray, t, U', L, E, ce, hT, X', hL, e1, e2, hq, hce, hcv, vx_cls hW₁ hcl, st⟩
end Runs
section Rows
variable {p : Program} {l : Launch} {e : Env} {R : Room} {s : State} {m : MethodId} {args : Array Value} {below : List Frame} {meth : Method} {c : Code} {H : Heap} {locs : List Loc} {cells slots : Nat} {Q : State → Prop}
variable {mc ms : Nat} {free : Addr → Prop} {A0 A1 : Nat → Prop} {H0 : Heap} {a : Array Value} {pc : Nat} {ls : Array Slot} {st0 rest : List Value}
theorem vx_keep {st₀ t T' : State} {L : List Loc} (h0 : st₀.heap = H) (e1 : T'.heap = t.heap) (hS : va_S A0 H0 H locs) (hA : ∀ q, q < H.size → A1 q → A0 q) (hf : ∀ q, free q → A0 q) (hL : ∀ q ∈ L, free q.base) (hF : va_F A1 st₀ t) :
    H.size ≤ T'.heap.size ∧ (∀ q : Nat, q < H.size → ¬ A1 q → T'.heap[q]? = H[q]?) ∧ va_S A0 H0 T'.heap (locs ++ L) := by
  obtain ⟨hz, hk⟩ := hF
  rw [h0] at hz hk
  exact ⟨by rw [e1]; exact hz, fun q h1 h2 => by rw [e1]; exact hk q h1 h2,
    ⟨Nat.le_trans hS.1 (by rw [e1]; exact hz), fun q h1 h2 => by rw [e1, hk q (Nat.lt_of_lt_of_le h1 hS.1) (fun z => h2 (hA q (Nat.lt_of_lt_of_le h1 hS.1) z))]; exact hS.2.1 q h1 h2, fun q hq => by
      rcases List.mem_append.mp hq with h | h
      · exact hS.2.2 q h
      · exact hf _ (hL q h)⟩⟩
theorem vx_calli {S SX : Type} {post : Int32 → S → Prop} {px : SX → Prop} {B : S → State → Prop} {BX : String → SX → State → Prop} {AX : Nat → Prop} (hr : vx_Run p l e R s m args below meth c H locs cells slots mc ms (F0 m pc ls st0) rest (va_Qi post B A1 a) (vx_X px BX AX) free) (hS : va_S A0 H0 H locs) (hA : ∀ q, q < H.size → A1 q → A0 q) (hf : ∀ q, free q → A0 q) (hAX : ∀ q, q < H.size → AX q → A0 q)
    (kx : ∀ (E : String) (ce : Cell) (q9 : Addr) (u : SX) (t : State) (H1 : Heap) (locs1 : List Loc), t.heap = H1 → s.vm.Alike t.vm → px u → BX E u t → H.size ≤ H1.size → (∀ q : Nat, q < H.size → ¬ AX q → H1[q]? = H[q]?) → va_S A0 H0 H1 locs1 → H1[q9]? = some ce → ce.vm = .none → s.vm.findClass E = some ce.cls → vx_W p l e R s m args below meth c H1 locs1 (cells + mc) (slots + ms) Q (F0 m pc ls rest) q9)
    (kk : ∀ (r : Int32) (u : S) (t : State) (H1 : Heap) (locs1 : List Loc), t.heap = H1 → s.vm.Alike t.vm → post r u → B u t → H.size ≤ H1.size → (∀ q : Nat, q < H.size → ¬ A1 q → H1[q]? = H[q]?) → va_S A0 H0 H1 locs1 → W p l e R s m args below meth c H1 locs1 (cells + mc) (slots + ms) Q (F0 m (pc + 3) ls (.int r :: rest))) : W p l e R s m args below meth c H locs cells slots Q (F0 m pc ls st0) := by
  intro T hT X
  rcases hr T hT X with ⟨v, st₀, t, T', L, h0, X', hL, e1, e2, ⟨⟨r, u, hv, hp, hb⟩, hF⟩, st⟩ | ⟨q, st₀, t, T', L, E, ce, h0, X', hL, e1, e2, ⟨u, hp, hb, hF⟩, hce, hcv, hcl, st⟩
  · cases hv
    obtain ⟨k1, k2, k3⟩ := vx_keep h0 e1 hS hA hf hL hF
    obtain ⟨t2, a1, b1⟩ := kk r u t T'.heap (locs ++ L) e1.symm (by rw [← e2]; exact X'.warmed.alike) hp hb k1 k2 k3 T' rfl X'
    exact ⟨t2, st t2 a1, b1⟩
  · obtain ⟨k1, k2, k3⟩ := vx_keep h0 e1 hS hAX hf hL hF
    obtain ⟨t2, a1, b1⟩ := kx E ce q u t T'.heap (locs ++ L) e1.symm (by rw [← e2]; exact X'.warmed.alike) hp hb k1 k2 k3 (by rw [e1]; exact hce) hcv hcl T' rfl X'
    exact ⟨t2, st.trans a1, b1⟩
theorem vx_calll {S SX : Type} {post : Int64 → S → Prop} {px : SX → Prop} {B : S → State → Prop} {BX : String → SX → State → Prop} {AX : Nat → Prop} (hr : vx_Run p l e R s m args below meth c H locs cells slots mc ms (F0 m pc ls st0) rest (va_Ql post B A1 a) (vx_X px BX AX) free) (hS : va_S A0 H0 H locs) (hA : ∀ q, q < H.size → A1 q → A0 q) (hf : ∀ q, free q → A0 q) (hAX : ∀ q, q < H.size → AX q → A0 q)
    (kx : ∀ (E : String) (ce : Cell) (q9 : Addr) (u : SX) (t : State) (H1 : Heap) (locs1 : List Loc), t.heap = H1 → s.vm.Alike t.vm → px u → BX E u t → H.size ≤ H1.size → (∀ q : Nat, q < H.size → ¬ AX q → H1[q]? = H[q]?) → va_S A0 H0 H1 locs1 → H1[q9]? = some ce → ce.vm = .none → s.vm.findClass E = some ce.cls → vx_W p l e R s m args below meth c H1 locs1 (cells + mc) (slots + ms) Q (F0 m pc ls rest) q9)
    (kk : ∀ (r : Int64) (u : S) (t : State) (H1 : Heap) (locs1 : List Loc), t.heap = H1 → s.vm.Alike t.vm → post r u → B u t → H.size ≤ H1.size → (∀ q : Nat, q < H.size → ¬ A1 q → H1[q]? = H[q]?) → va_S A0 H0 H1 locs1 → W p l e R s m args below meth c H1 locs1 (cells + mc) (slots + ms) Q (F0 m (pc + 3) ls (.long r :: rest))) : W p l e R s m args below meth c H locs cells slots Q (F0 m pc ls st0) := by
  intro T hT X
  rcases hr T hT X with ⟨v, st₀, t, T', L, h0, X', hL, e1, e2, ⟨⟨r, u, hv, hp, hb⟩, hF⟩, st⟩ | ⟨q, st₀, t, T', L, E, ce, h0, X', hL, e1, e2, ⟨u, hp, hb, hF⟩, hce, hcv, hcl, st⟩
  · cases hv
    obtain ⟨k1, k2, k3⟩ := vx_keep h0 e1 hS hA hf hL hF
    obtain ⟨t2, a1, b1⟩ := kk r u t T'.heap (locs ++ L) e1.symm (by rw [← e2]; exact X'.warmed.alike) hp hb k1 k2 k3 T' rfl X'
    exact ⟨t2, st t2 a1, b1⟩
  · obtain ⟨k1, k2, k3⟩ := vx_keep h0 e1 hS hAX hf hL hF
    obtain ⟨t2, a1, b1⟩ := kx E ce q u t T'.heap (locs ++ L) e1.symm (by rw [← e2]; exact X'.warmed.alike) hp hb k1 k2 k3 (by rw [e1]; exact hce) hcv hcl T' rfl X'
    exact ⟨t2, st.trans a1, b1⟩
theorem vx_callf {S SX : Type} {post : UInt32 → S → Prop} {px : SX → Prop} {B : S → State → Prop} {BX : String → SX → State → Prop} {AX : Nat → Prop} (hr : vx_Run p l e R s m args below meth c H locs cells slots mc ms (F0 m pc ls st0) rest (va_Qf post B A1 a) (vx_X px BX AX) free) (hS : va_S A0 H0 H locs) (hA : ∀ q, q < H.size → A1 q → A0 q) (hf : ∀ q, free q → A0 q) (hAX : ∀ q, q < H.size → AX q → A0 q)
    (kx : ∀ (E : String) (ce : Cell) (q9 : Addr) (u : SX) (t : State) (H1 : Heap) (locs1 : List Loc), t.heap = H1 → s.vm.Alike t.vm → px u → BX E u t → H.size ≤ H1.size → (∀ q : Nat, q < H.size → ¬ AX q → H1[q]? = H[q]?) → va_S A0 H0 H1 locs1 → H1[q9]? = some ce → ce.vm = .none → s.vm.findClass E = some ce.cls → vx_W p l e R s m args below meth c H1 locs1 (cells + mc) (slots + ms) Q (F0 m pc ls rest) q9)
    (kk : ∀ (r : UInt32) (u : S) (t : State) (H1 : Heap) (locs1 : List Loc), t.heap = H1 → s.vm.Alike t.vm → post r u → B u t → H.size ≤ H1.size → (∀ q : Nat, q < H.size → ¬ A1 q → H1[q]? = H[q]?) → va_S A0 H0 H1 locs1 → W p l e R s m args below meth c H1 locs1 (cells + mc) (slots + ms) Q (F0 m (pc + 3) ls (.float r :: rest))) : W p l e R s m args below meth c H locs cells slots Q (F0 m pc ls st0) := by
  intro T hT X
  rcases hr T hT X with ⟨v, st₀, t, T', L, h0, X', hL, e1, e2, ⟨⟨r, u, hv, hp, hb⟩, hF⟩, st⟩ | ⟨q, st₀, t, T', L, E, ce, h0, X', hL, e1, e2, ⟨u, hp, hb, hF⟩, hce, hcv, hcl, st⟩
  · cases hv
    obtain ⟨k1, k2, k3⟩ := vx_keep h0 e1 hS hA hf hL hF
    obtain ⟨t2, a1, b1⟩ := kk r u t T'.heap (locs ++ L) e1.symm (by rw [← e2]; exact X'.warmed.alike) hp hb k1 k2 k3 T' rfl X'
    exact ⟨t2, st t2 a1, b1⟩
  · obtain ⟨k1, k2, k3⟩ := vx_keep h0 e1 hS hAX hf hL hF
    obtain ⟨t2, a1, b1⟩ := kx E ce q u t T'.heap (locs ++ L) e1.symm (by rw [← e2]; exact X'.warmed.alike) hp hb k1 k2 k3 (by rw [e1]; exact hce) hcv hcl T' rfl X'
    exact ⟨t2, st.trans a1, b1⟩
theorem vx_calld {S SX : Type} {post : UInt64 → S → Prop} {px : SX → Prop} {B : S → State → Prop} {BX : String → SX → State → Prop} {AX : Nat → Prop} (hr : vx_Run p l e R s m args below meth c H locs cells slots mc ms (F0 m pc ls st0) rest (va_Qd post B A1 a) (vx_X px BX AX) free) (hS : va_S A0 H0 H locs) (hA : ∀ q, q < H.size → A1 q → A0 q) (hf : ∀ q, free q → A0 q) (hAX : ∀ q, q < H.size → AX q → A0 q)
    (kx : ∀ (E : String) (ce : Cell) (q9 : Addr) (u : SX) (t : State) (H1 : Heap) (locs1 : List Loc), t.heap = H1 → s.vm.Alike t.vm → px u → BX E u t → H.size ≤ H1.size → (∀ q : Nat, q < H.size → ¬ AX q → H1[q]? = H[q]?) → va_S A0 H0 H1 locs1 → H1[q9]? = some ce → ce.vm = .none → s.vm.findClass E = some ce.cls → vx_W p l e R s m args below meth c H1 locs1 (cells + mc) (slots + ms) Q (F0 m pc ls rest) q9)
    (kk : ∀ (r : UInt64) (u : S) (t : State) (H1 : Heap) (locs1 : List Loc), t.heap = H1 → s.vm.Alike t.vm → post r u → B u t → H.size ≤ H1.size → (∀ q : Nat, q < H.size → ¬ A1 q → H1[q]? = H[q]?) → va_S A0 H0 H1 locs1 → W p l e R s m args below meth c H1 locs1 (cells + mc) (slots + ms) Q (F0 m (pc + 3) ls (.double r :: rest))) : W p l e R s m args below meth c H locs cells slots Q (F0 m pc ls st0) := by
  intro T hT X
  rcases hr T hT X with ⟨v, st₀, t, T', L, h0, X', hL, e1, e2, ⟨⟨r, u, hv, hp, hb⟩, hF⟩, st⟩ | ⟨q, st₀, t, T', L, E, ce, h0, X', hL, e1, e2, ⟨u, hp, hb, hF⟩, hce, hcv, hcl, st⟩
  · cases hv
    obtain ⟨k1, k2, k3⟩ := vx_keep h0 e1 hS hA hf hL hF
    obtain ⟨t2, a1, b1⟩ := kk r u t T'.heap (locs ++ L) e1.symm (by rw [← e2]; exact X'.warmed.alike) hp hb k1 k2 k3 T' rfl X'
    exact ⟨t2, st t2 a1, b1⟩
  · obtain ⟨k1, k2, k3⟩ := vx_keep h0 e1 hS hAX hf hL hF
    obtain ⟨t2, a1, b1⟩ := kx E ce q u t T'.heap (locs ++ L) e1.symm (by rw [← e2]; exact X'.warmed.alike) hp hb k1 k2 k3 (by rw [e1]; exact hce) hcv hcl T' rfl X'
    exact ⟨t2, st.trans a1, b1⟩
theorem vx_callv {S SX : Type} {post : S → Prop} {px : SX → Prop} {B : S → State → Prop} {BX : String → SX → State → Prop} {AX : Nat → Prop} (hr : vx_Run p l e R s m args below meth c H locs cells slots mc ms (F0 m pc ls st0) rest (va_Qv post B A1 a) (vx_X px BX AX) free) (hS : va_S A0 H0 H locs) (hA : ∀ q, q < H.size → A1 q → A0 q) (hf : ∀ q, free q → A0 q) (hAX : ∀ q, q < H.size → AX q → A0 q)
    (kx : ∀ (E : String) (ce : Cell) (q9 : Addr) (u : SX) (t : State) (H1 : Heap) (locs1 : List Loc), t.heap = H1 → s.vm.Alike t.vm → px u → BX E u t → H.size ≤ H1.size → (∀ q : Nat, q < H.size → ¬ AX q → H1[q]? = H[q]?) → va_S A0 H0 H1 locs1 → H1[q9]? = some ce → ce.vm = .none → s.vm.findClass E = some ce.cls → vx_W p l e R s m args below meth c H1 locs1 (cells + mc) (slots + ms) Q (F0 m pc ls rest) q9)
    (kk : ∀ (u : S) (t : State) (H1 : Heap) (locs1 : List Loc), t.heap = H1 → s.vm.Alike t.vm → post u → B u t → H.size ≤ H1.size → (∀ q : Nat, q < H.size → ¬ A1 q → H1[q]? = H[q]?) → va_S A0 H0 H1 locs1 → W p l e R s m args below meth c H1 locs1 (cells + mc) (slots + ms) Q (F0 m (pc + 3) ls (rest))) : W p l e R s m args below meth c H locs cells slots Q (F0 m pc ls st0) := by
  intro T hT X
  rcases hr T hT X with ⟨v, st₀, t, T', L, h0, X', hL, e1, e2, ⟨⟨u, hv, hp, hb⟩, hF⟩, st⟩ | ⟨q, st₀, t, T', L, E, ce, h0, X', hL, e1, e2, ⟨u, hp, hb, hF⟩, hce, hcv, hcl, st⟩
  · cases hv
    obtain ⟨k1, k2, k3⟩ := vx_keep h0 e1 hS hA hf hL hF
    obtain ⟨t2, a1, b1⟩ := kk u t T'.heap (locs ++ L) e1.symm (by rw [← e2]; exact X'.warmed.alike) hp hb k1 k2 k3 T' rfl X'
    exact ⟨t2, st t2 a1, b1⟩
  · obtain ⟨k1, k2, k3⟩ := vx_keep h0 e1 hS hAX hf hL hF
    obtain ⟨t2, a1, b1⟩ := kx E ce q u t T'.heap (locs ++ L) e1.symm (by rw [← e2]; exact X'.warmed.alike) hp hb k1 k2 k3 (by rw [e1]; exact hce) hcv hcl T' rfl X'
    exact ⟨t2, st.trans a1, b1⟩
end Rows
section Ends
variable {p : Program} {l : Launch} {e : Env} {R : Room} {s : State} {m : MethodId} {args : Array Value} {below : List Frame} {meth : Method} {c : Code} {H : Heap} {locs : List Loc} {cells slots : Nat} {Q : State → Prop}
variable {mc ms : Nat} {free : Addr → Prop} {A0 A1 : Nat → Prop} {H0 : Heap} {a : Array Value} {ls : Array Slot} {st0 rest : List Value}
variable {Qc : Array Value → State → Outcome → State → Prop} {XC : String → State → State → Prop}
/-- what a body that may throw owes at its end -/
def vx_MQ (below : List Frame) (Qc : Array Value → State → Outcome → State → Prop) (XC : String → State → State → Prop) (a : Array Value) (s : State) (mc ms : Nat) (free : Addr → Prop) : State → Prop := fun t =>
  ∃ o, t.status = .running ∧ Ended t below o ∧ vx_Q Qc XC mc ms free a s o t
theorem vx_ret {g : JFrame} {mc ms : Nat} (k : W p l e R s m args below meth c H locs cells slots (MQ below Qc args s mc ms free) g) : W p l e R s m args below meth c H locs cells slots (vx_MQ below Qc XC args s mc ms free) g := by
  intro T hT X
  obtain ⟨t, a1, o, b1, b2, b3, b4⟩ := k T hT X
  exact ⟨t, a1, o, b1, b2, Or.inl ⟨b3, b4⟩⟩
/-- not caught here: it goes on to the caller -/
theorem vx_widen {g : JFrame} {q : Addr} {k n : Nat} (h1 : cells ≤ k) (h2 : slots ≤ n) (kk : vx_W p l e R s m args below meth c H locs k n Q g q) : vx_W p l e R s m args below meth c H locs cells slots Q g q := fun T hT X => kk T hT (stand_widen X h1 h2)
theorem vx_out {pc : Nat} {E : String} {ce : Cell} {q : Addr} {mc ms : Nat} (hout : ∀ x ∈ c.exceptionTable.toList, covers x pc = false) (hlocks : meth.locks = false) (hcell : H[q]? = some ce) (hv : ce.vm = .none) (hcl : s.vm.findClass E = some ce.cls)
    (hx : ∀ t : State, t.heap = H → s.vm.Alike t.vm → XC E s t) (hf : ∀ z ∈ locs, free z.base) (hc : cells ≤ mc) (hs : slots ≤ ms) :
    vx_W p l e R s m args below meth c H locs cells slots (vx_MQ below Qc XC args s mc ms free) (F0 m pc ls rest) q := by
  intro T hT X
  obtain ⟨st1, hrun, hend, hW, hsm⟩ := X.leaveThrown q (g := F0 m pc ls rest) rfl rfl rfl hout hlocks
  have hcell9 : (T.setFrames (.throwing q :: below)).heap[q]? = some ce := by
    show T.heap[q]? = some ce
    rw [hT]; exact hcell
  exact ⟨_, st1, .threw q, hrun, hend, Or.inr ⟨q, rfl, E, ce, locs, hx _ hT hW.alike, hcell9, hv, hcl, hW, hsm.mono hc hs, hf⟩⟩
theorem vx_frame {U : State} {k n : Nat} (h : s.sameButNew ({ U with vm := s.vm } : State) locs k n) : s.heap.size ≤ U.heap.size ∧ ∀ q : Nat, q < s.heap.size → (∀ z ∈ locs, z.base ≠ q) → U.heap[q]? = s.heap[q]? := by
  obtain ⟨-, h2, -, -, -, h6⟩ := h
  refine ⟨h2, fun q hq hz => ?_⟩
  obtain ⟨c9, e1, e2, e3, e4⟩ := h6 q _ (Array.getElem?_eq_getElem hq)
  have hs : c9.slots = (s.heap[q]).slots := Array.ext_getElem? fun i => e4 i fun hm => hz _ hm rfl
  have h9 : c9 = s.heap[q] := by
    rw [hs] at e2
    exact e2
  have e5 : U.heap[q]? = some c9 := e1
  rw [e5, h9, Array.getElem?_eq_getElem hq]
/-- the words of a throw but the four that speak of the heap -/
def vx_no (w : Cond) : Bool := decide (w ≠ .isRef (.static Bundle.tN "UNASSIGNED_STACK" Bundle.steD)) && decide (w ≠ .isRef (.static Bundle.tN "SUPPRESSED_SENTINEL" Bundle.listD)) && decide (w ≠ .laysStatic Bundle.tN "UNASSIGNED_STACK" Bundle.steD) && decide (w ≠ .laysStatic Bundle.tN "SUPPRESSED_SENTINEL" Bundle.listD)
def vx_at0 (own : String) (ic : Nat) (X : String) (names : List String) : List Cond := (Bundle.ownAtoms0 own ic X names).filter vx_no
def vx_atS (own : String) (ic : Nat) (X : String) (names : List String) : List Cond := (Bundle.ownAtoms own ic X names).filter vx_no
/-- a word that the tables alone decide, or a good one -/
def vx_ot (w : Cond) : Bool := w.onTables || goodWord w
theorem vx_ot_at {args a' : Array Value} {s U : State} {w : Cond} (hW : s.WarmedH U.vm) (hvm : s.vm = U.vm) (hg : vx_ot w = true) (h : w.before args s = true) : w.before a' U = true := by
  simp only [vx_ot, Bool.or_eq_true] at hg
  rcases hg with hg | hg
  · exact va_tabs hg hvm h
  · exact word_at hW (good_of_word hg) h
/-- a list's words: the good ones out of the method's own list, the others by premises of their own -/
theorem vx_hat {args : Array Value} {s : State} {L B : List Cond} (h1 : ∀ w ∈ L.filter goodWord, w.before args s = true) (h2 : ∀ w ∈ L.filter (fun w => !goodWord w), w ∈ B) (h3 : ∀ w ∈ B, w.before args s = true) : ∀ w ∈ L, w.before args s = true := by
  intro w hw
  by_cases g : goodWord w = true
  · exact h1 w (List.mem_filter.mpr ⟨hw, g⟩)
  · refine h3 w (h2 w (List.mem_filter.mpr ⟨hw, ?_⟩))
    show (!goodWord w) = true
    cases hgw : goodWord w
    · rfl
    · exact absurd hgw g
theorem vx_c {args : Array Value} {s : State} {w : Cond} {B : List Cond} (h : w.before args s = true) (t : ∀ w ∈ B, w.before args s = true) : ∀ w' ∈ w :: B, w'.before args s = true := fun w' h' => (List.mem_cons.mp h').elim (fun e => by rw [e]; exact h) (t w')
theorem vx_n {args : Array Value} {s : State} : ∀ w ∈ ([] : List Cond), w.before args s = true := fun _ h => nomatch h
theorem vx_own {args : Array Value} {s : State} {L : List Cond} (h1 : ∀ w ∈ L.filter vx_no, w.before args s = true)
    (hU : (Cond.isRef (.static Bundle.tN "UNASSIGNED_STACK" Bundle.steD)).before args s = true) (hN : (Cond.isRef (.static Bundle.tN "SUPPRESSED_SENTINEL" Bundle.listD)).before args s = true)
    (lU : (Cond.laysStatic Bundle.tN "UNASSIGNED_STACK" Bundle.steD).before args s = true) (lN : (Cond.laysStatic Bundle.tN "SUPPRESSED_SENTINEL" Bundle.listD).before args s = true) : ∀ w ∈ L, w.before args s = true := by
  intro w hw
  by_cases e1 : w = .isRef (.static Bundle.tN "UNASSIGNED_STACK" Bundle.steD)
  · rw [e1]; exact hU
  · by_cases e2 : w = .isRef (.static Bundle.tN "SUPPRESSED_SENTINEL" Bundle.listD)
    · rw [e2]; exact hN
    · by_cases e3 : w = .laysStatic Bundle.tN "UNASSIGNED_STACK" Bundle.steD
      · rw [e3]; exact lU
      · by_cases e4 : w = .laysStatic Bundle.tN "SUPPRESSED_SENTINEL" Bundle.listD
        · rw [e4]; exact lN
        · exact h1 w (List.mem_filter.mpr ⟨hw, by unfold vx_no; rw [decide_eq_true e1, decide_eq_true e2, decide_eq_true e3, decide_eq_true e4]; rfl⟩)
/-- where a static field lies, its class's statics cell in H -/
def vx_L (C n d : String) (A : Nat → Prop) (U : State) (H : Heap) : Prop := ∃ (c : ClassId) (k : Class) (i : Nat) (f : Field) (a : Nat) (cell : Cell), U.vm.findClass C = some c ∧ U.fieldFound? C n d = some (c, k, i, f) ∧ f.isStatic = true ∧ k.statics = some a ∧ H[a]? = some cell ∧ cell.vm.isStatics = true ∧ cell.cls = c ∧ f.slot < cell.slots.size ∧ k.staticTypes[f.slot]? = some f.type ∧ ¬ A a
theorem vx_L.moved {C n d : String} {A : Nat → Prop} {u U : State} {H : Heap} (hvm : u.vm.Alike U.vm) (h : vx_L C n d A u H) : vx_L C n d A U H := by
  obtain ⟨c, k, i, f, a, cell, h1, h2, h3, h4, h5, h6, h7, h8, h9, h10⟩ := h
  obtain ⟨k', hi', he⟩ := State.fieldFound?_setVm hvm h2
  exact ⟨c, k', i, f, a, cell, by rw [hvm.findClass]; exact h1, hi', h3, by rw [he]; exact h4, h5, h6, h7, h8, by rw [he]; exact h9, h10⟩
theorem vx_L.kept {C n d : String} {A : Nat → Prop} {U : State} {H H1 : Heap} (h : vx_L C n d A U H) (hq : ∀ a : Nat, a < H.size → ¬ A a → H1[a]? = H[a]?) : vx_L C n d A U H1 := by
  obtain ⟨c, k, i, f, a, cell, h1, h2, h3, h4, h5, h6, h7, h8, h9, h10⟩ := h
  exact ⟨c, k, i, f, a, cell, h1, h2, h3, h4, by rw [hq a (Array.getElem?_eq_some_iff.mp h5).1 h10]; exact h5, h6, h7, h8, h9, h10⟩
theorem vx_L.narrow {C n d : String} {A B : Nat → Prop} {U : State} {H : Heap} (h : vx_L C n d A U H) (hAB : ∀ q, B q → A q) : vx_L C n d B U H := by
  obtain ⟨c, k, i, f, a, cell, h1, h2, h3, h4, h5, h6, h7, h8, h9, h10⟩ := h
  exact ⟨c, k, i, f, a, cell, h1, h2, h3, h4, h5, h6, h7, h8, h9, fun z => h10 (hAB _ z)⟩
theorem vx_L.word {C n d : String} {A : Nat → Prop} {s : State} {args : Array Value} (h : vx_L C n d A s s.heap) : (Cond.laysStatic C n d).before args s = true := by
  obtain ⟨c, k, i, f, a, cell, h1, h2, h3, h4, h5, h6, h7, h8, h9, -⟩ := h
  show (Cond.laysStatic C n d).holds args s none s [] = true
  exact Cond.laysStatic_of h1 h2 h3 h4 h5 h6 h7 h8 h9
/-- .. and what it holds: null or some reference -/
def vx_Zq (C n d : String) (A : Nat → Prop) (U : State) (H : Heap) : Prop := va_Zq C n d A U H ∧ vx_L C n d A U H
theorem vx_Zq.moved {C n d : String} {A : Nat → Prop} {u U : State} {H : Heap} (hvm : u.vm.Alike U.vm) (h : vx_Zq C n d A u H) : vx_Zq C n d A U H := ⟨va_Zq.moved hvm h.1, vx_L.moved hvm h.2⟩
theorem vx_Zq.kept {C n d : String} {A : Nat → Prop} {U : State} {H H1 : Heap} (h : vx_Zq C n d A U H) (hq : ∀ a : Nat, a < H.size → ¬ A a → H1[a]? = H[a]?) : vx_Zq C n d A U H1 := ⟨va_Zq.kept h.1 hq, vx_L.kept h.2 hq⟩
theorem vx_Zq.narrow {C n d : String} {A B : Nat → Prop} {U : State} {H : Heap} (h : vx_Zq C n d A U H) (hAB : ∀ q, B q → A q) : vx_Zq C n d B U H := ⟨va_Zq.narrow h.1 hAB, vx_L.narrow h.2 hAB⟩
theorem vx_Zqof {args : Array Value} {s : State} {C n d : String} {A : Nat → Prop} (hl : (Cond.laysStatic C n d).before args s = true) (hini : (Cond.initialized C).before args s = true) (h : (Cond.isRef (.static C n d)).before args s = true) (hA : ∀ a : Nat, a < s.heap.size → ¬ A a) : vx_Zq C n d A s s.heap := by
  refine ⟨va_Zqof hl hini h hA, ?_⟩
  obtain ⟨c, k, i, f, a, cell, h1, h2, h3, h4, h5, h6, h7, h8, h9⟩ := Cond.laysStatic_spec hl
  exact ⟨c, k, i, f, a, cell, h1, h2, h3, h4, h5, h6, h7, h8, h9, hA a (Array.getElem?_eq_some_iff.mp h5).1⟩
theorem vx_isRef {C n d : String} {v : Value} {A : Nat → Prop} {s : State} {args : Array Value} (h : va_Z C n d v A s s.heap) (hv : v.isRef = true) : (Cond.isRef (.static C n d)).before args s = true := by
  obtain ⟨cf, kf, fi, f, a, cell, h1, h2, h3, h4, h5, h6, h7, -⟩ := h
  have he : (Term.static C n d).eval args s none [] s = some v := by
    simp [Term.eval, State.fieldNamed?, h1, h2, h4, h5, h6, h7]
  simp only [Cond.before, Cond.holds, Cond.value, he]
  cases v <;> simp_all [Value.isRef]
theorem vx_isRefq {C n d : String} {A : Nat → Prop} {s : State} {args : Array Value} (h : va_Zq C n d A s s.heap) : (Cond.isRef (.static C n d)).before args s = true := by
  rcases h with h | ⟨t, h⟩
  · exact vx_isRef h rfl
  · exact vx_isRef h rfl
/-- the same frame, seen from here: as if the method were called anew in this heap -/
theorem vx_rebase {T : State} (X : Stand p l e R s m args below meth c T locs cells slots) {R' : Room} (hf : R'.frames ≤ R.frames) (hl : R'.locals ≤ R.locals) (hc : cells + R'.cells ≤ R.cells) (hs : slots + R'.slots ≤ R.slots) :
    Stand p l e R' ((T.setVm s.vm).setFrames (.invoking m args :: below)) m args below meth c T [] 0 0 := by
  have htop : (T.setVm s.vm).topJava?.isSome := X.here.top
  have hF : ((T.setVm s.vm).setFrames (.invoking m args :: below)).frames = .invoking m args :: below := State.frames_setFrames _ (State.cur_lt_of_top htop)
  obtain ⟨g₀, hg0⟩ := Option.isSome_iff_exists.mp htop
  obtain ⟨r, hr⟩ := State.topJava?_eq_some.mp hg0
  have hl9 : e.platform.stackLimits (T.setVm s.vm).me = e.platform.stackLimits s.me := X.limits
  have hb9 : (T.setVm s.vm).me.stackBytes = s.me.stackBytes := X.bytes
  refine ⟨X.admits, X.cas, X.clock, hF, ?_, X.hears, X.method, X.code, X.here, X.tail, X.warmed, ?_, ?_, ?_⟩
  · have h := X.room
    have hU : ((T.setVm s.vm).setFrames (.invoking m args :: below)).localsInUse = s.localsInUse := by
      rw [State.localsInUse_invoking hF (meth := meth) (c := c) X.method X.code, State.localsInUse_invoking X.frames X.method X.code]
    simp only [State.hasRoom, Bool.and_eq_true, decide_eq_true_eq] at h ⊢
    obtain ⟨⟨⟨⟨h1, h2, h3, h4, h5, h6⟩, h7⟩, h8⟩, h9⟩ := h
    rw [X.frames, List.length_cons] at h2 h3
    have q1 := X.heapSize
    have q2 := X.used
    simp only [hF, hU, List.length_cons, State.stackLimits_setFrames, State.stackBytes_setFrames, hl9, hb9]
    refine ⟨⟨⟨⟨by omega, by omega, by omega, by omega, by omega, h6⟩, ?_⟩, ?_⟩, X.book⟩
    · show T.heap.size + R'.cells ≤ e.platform.maxCells
      omega
    · show T.slotsUsed + R'.slots ≤ e.platform.maxSlots
      omega
  · rw [State.stackLimits_setFrames]; rfl
  · rw [State.stackBytes_setFrames]; rfl
  · refine ⟨?_, Nat.le_refl _, Nat.le_refl _, ?_, ?_, fun a c9 h9 => ⟨c9, h9, rfl, rfl, fun _ _ => rfl⟩⟩
    · obtain ⟨t, ht, -⟩ := State.frames_cons hr
      show T.setVm s.vm = { ((T.setVm s.vm).setFrames (.invoking m args :: below)).setFrames (T.setVm s.vm).frames with heap := T.heap, slotsUsed := T.slotsUsed }
      rw [State.setFrames_setFrames, State.setFrames_self ht]
      rfl
    · show T.slotsUsed = T.slotsUsed + ((T.heap.toList.drop T.heap.size).map (·.slots.size)).sum
      rw [List.drop_eq_nil_of_le (Nat.le_of_eq Array.length_toList)]
      rfl
    · show ((T.heap.toList.drop T.heap.size).map (·.slots.size)).sum ≤ 0
      rw [List.drop_eq_nil_of_le (Nat.le_of_eq Array.length_toList)]
      exact Nat.le_refl _
/-- 'throw new E()': new; dup; invokespecial; athrow -/
theorem vx_throw0 {cc : ByteArray} {pc : Nat} (hexec : p.tables.exec = Jvm.exec) (hb : c.code = cc) (hl : l.stackTraces = false) {own cls : String} {names : List String} {ik ic mc ms : Nat} {A : Nat → Prop}
    (hown : s.vm.findClass own = some m.cls) (hcls : Bundle.fit cls = true) (hnames : ∀ n ∈ names, Bundle.fit n = true)
    (hk : (Cond.classLink own ik cls).before args s = true) (hini : (Cond.initialized cls).before args s = true) (hat : ∀ w ∈ vx_at0 own ic cls names, w.before args s = true)
    (hgood : ∀ w ∈ Cond.classLink own ik cls :: Cond.initialized cls :: vx_at0 own ic cls names, vx_ot w = true)
    (hU : vx_Zq Bundle.tN "UNASSIGNED_STACK" Bundle.steD A s s.heap) (hN : vx_Zq Bundle.tN "SUPPRESSED_SENTINEL" Bundle.listD A s s.heap) (hS : va_S A s.heap H locs) (hsize : ls.size = c.maxLocals)
    (d0 : decode cc pc = .ok (.new ik, 3)) (d3 : decode cc (pc + 3) = .ok (.dup, 1)) (d4 : decode cc (pc + 4) = .ok (.invokespecial ic, 3)) (d7 : decode cc (pc + 7) = .ok (.athrow, 1))
    (hout : ∀ x ∈ c.exceptionTable.toList, covers x (pc + 7) = false)
    (hRframes : names.length + 3 < R.frames) (hRlocals : (rest.map fun v => v.category).sum + (13 * (names.length + 1) + 42) ≤ R.locals) (hRcells : cells + 1 ≤ R.cells) (hRslots : slots + 6 ≤ R.slots) (hlocks : meth.locks = false)
    (hx : ∀ t : State, s.vm.Alike t.vm → H.size ≤ t.heap.size → (∀ q : Nat, q < H.size → t.heap[q]? = H[q]?) → XC cls s t)
    (hf : ∀ z ∈ locs, free z.base) (hc : cells + 1 ≤ mc) (hs : slots + 6 ≤ ms) :
    W p l e R s m args below meth c H locs cells slots (vx_MQ below Qc XC args s mc ms free) (F0 m pc ls rest) := by
  intro T hT X
  have htr : e.platform.stackTraces = false := (show e.platform.stackTraces = l.stackTraces by rw [X.admits.platform]).trans hl
  have Y := vx_rebase X (R' := { frames := R.frames, locals := R.locals, cells := 1, slots := 6 }) (Nat.le_refl _) (Nat.le_refl _) hRcells hRslots
  obtain ⟨s', hA⟩ : ∃ z, z = (T.setVm s.vm).setFrames (.invoking m args :: below) := ⟨_, rfl⟩
  rw [← hA] at Y
  have hvm : s'.vm = s.vm := by rw [hA]; rfl
  have hhp : s'.heap = H := by rw [hA]; exact hT
  have hW0 : s.WarmedH s'.vm := by rw [hvm]; exact State.WarmedH.refl s
  have hat' : ∀ w ∈ vx_at0 own ic cls names, w.before args s' = true := fun w hw => vx_ot_at hW0 hvm.symm (hgood w (List.mem_cons_of_mem _ (List.mem_cons_of_mem _ hw))) (hat w hw)
  have hk' : (Cond.classLink own ik cls).before args s' = true := vx_ot_at hW0 hvm.symm (hgood _ List.mem_cons_self) hk
  have hini' : (Cond.initialized cls).before args s' = true := vx_ot_at hW0 hvm.symm (hgood _ (List.mem_cons_of_mem _ List.mem_cons_self)) hini
  have hU' : vx_Zq Bundle.tN "UNASSIGNED_STACK" Bundle.steD A s' s'.heap := by rw [hhp]; exact vx_Zq.moved hW0.alike (hU.kept hS.2.1)
  have hN' : vx_Zq Bundle.tN "SUPPRESSED_SENTINEL" Bundle.listD A s' s'.heap := by rw [hhp]; exact vx_Zq.moved hW0.alike (hN.kept hS.2.1)
  have h : ∀ w ∈ Bundle.ownAtoms0 own ic cls names, w.before args s' = true := vx_own hat' (vx_isRefq hU'.1) (vx_isRefq hN'.1) hU'.2.word hN'.2.word
  have hown' : s'.vm.findClass own = some m.cls := by rw [hvm]; exact hown
  have hins : (Cond.instantiable cls 6).before args s' = true := h _ (by simp [Bundle.ownAtoms0])
  obtain ⟨vm₁, cX, kX, hfX, hkX, -, -, X₁, st1⟩ := Y.newCold hexec (own := own) (C := cls) (index := ik) (n := 6) hown' hk' hins hini'
    (g := F0 m pc ls rest) rfl (by rw [hb]; exact d0) (Nat.le_refl _) (Nat.le_refl _)
  generalize hT1 : (T.setVm vm₁).pushCell { cls := cX, slots := kX.instanceTypes.map defaultValue, vm := .none } = T1 at X₁ st1
  have hcat : (Value.ref T.heap.size).category = 1 := rfl
  have hcellA : T1.heap[T.heap.size]? = some (freshCell cX kX) := by rw [← hT1]; exact State.heap_pushCell_size _ _
  have d3' : decode c.code (pc + 3) = .ok (.dup, 1) := by rw [hb]; exact d3
  obtain ⟨U, hsteps, hrun, hend, hW, hsame, ce, hce, hO⟩ := X₁.ctorThrow0 hexec htr (own := own) (cls := cls) (names := names) (ic := ic) hown' hcls hnames h (fun x hx => nomatch hx) hfX hkX hcellA (by rw [hhp, hT]; exact Nat.le_refl _)
    (g := { method := m, pc := pc + 4, locals := ls, stack := .ref T.heap.size :: .ref T.heap.size :: rest, locked := none }) rfl hsize rfl rfl (rest := rest) rfl
    (by rw [hb]; exact d4) (by rw [hb]; exact d7) hout hRframes (by simp only [List.map_cons, List.sum_cons, hcat]; omega) hlocks
  obtain ⟨f1, f2⟩ := vx_frame hsame
  rw [hhp] at f1 f2
  have hWs : s.WarmedH U.vm := State.WarmedH.trans hW0 hW
  have hcl : s.vm.findClass cls = some ce.cls := by
    have h9 := hO.cls
    rw [hvm] at h9
    exact h9
  have hall : s.sameButNew ({ U with vm := s.vm } : State) locs mc ms := by
    subst hA
    obtain ⟨e1, e2⟩ := hsame
    rw [State.setFrames_setFrames] at e1
    have h2 : (T.setVm s.vm).sameButNew ({ U with vm := s.vm } : State) [] (0 + 1) (0 + 6) := ⟨e1, e2⟩
    have h3 := X.same.trans h2
    rw [List.append_nil] at h3
    exact h3.mono hc hs
  refine ⟨U, ?_, .threw T.heap.size, hrun, hend, Or.inr ⟨T.heap.size, rfl, cls, ce, locs, hx U hWs.alike f1 (fun q hq => f2 q hq (fun z hz => nomatch hz)), hce, hO.vm, hcl, hWs, hall, hf⟩⟩
  refine st1 _ ?_
  show Steps p.tables e below (T1.setTop { method := m, pc := pc + 3, locals := ls, stack := .ref T.heap.size :: rest, locked := none }) _
  jvm_step X₁.here [X₁.here.top, hexec, d3', Value.category]
  exact hsteps
/-- 'throw new E("text")': new; dup; ldc; invokespecial; athrow -/
theorem vx_throwS {cc : ByteArray} {pc : Nat} (hexec : p.tables.exec = Jvm.exec) (hb : c.code = cc) (hl : l.stackTraces = false) {own cls text : String} {names : List String} {ik is ic mc ms sa : Nat} {A : Nat → Prop}
    (hown : s.vm.findClass own = some m.cls) (hcls : Bundle.fit cls = true) (hnames : ∀ n ∈ names, Bundle.fit n = true)
    (hk : (Cond.classLink own ik cls).before args s = true) (hini : (Cond.initialized cls).before args s = true) (hstr : vk_R own is text sa s) (hat : ∀ w ∈ vx_atS own ic cls names, w.before args s = true)
    (hgood : ∀ w ∈ Cond.classLink own ik cls :: Cond.initialized cls :: vx_atS own ic cls names, vx_ot w = true)
    (hU : vx_Zq Bundle.tN "UNASSIGNED_STACK" Bundle.steD A s s.heap) (hN : vx_Zq Bundle.tN "SUPPRESSED_SENTINEL" Bundle.listD A s s.heap) (hS : va_S A s.heap H locs) (hsize : ls.size = c.maxLocals)
    (d0 : decode cc pc = .ok (.new ik, 3)) (d3 : decode cc (pc + 3) = .ok (.dup, 1)) (d4 : decode cc (pc + 4) = .ok (.ldc is, 2)) (d6 : decode cc (pc + 6) = .ok (.invokespecial ic, 3)) (d9 : decode cc (pc + 9) = .ok (.athrow, 1))
    (hout : ∀ x ∈ c.exceptionTable.toList, covers x (pc + 9) = false)
    (hRframes : names.length + 3 < R.frames) (hRlocals : (rest.map fun v => v.category).sum + (13 * (names.length + 1) + 43) ≤ R.locals) (hRcells : cells + 1 ≤ R.cells) (hRslots : slots + 6 ≤ R.slots) (hlocks : meth.locks = false)
    (hx : ∀ t : State, s.vm.Alike t.vm → H.size ≤ t.heap.size → (∀ q : Nat, q < H.size → t.heap[q]? = H[q]?) → XC cls s t)
    (hf : ∀ z ∈ locs, free z.base) (hc : cells + 1 ≤ mc) (hs : slots + 6 ≤ ms) :
    W p l e R s m args below meth c H locs cells slots (vx_MQ below Qc XC args s mc ms free) (F0 m pc ls rest) := by
  intro T hT X
  have htr : e.platform.stackTraces = false := (show e.platform.stackTraces = l.stackTraces by rw [X.admits.platform]).trans hl
  have Y := vx_rebase X (R' := { frames := R.frames, locals := R.locals, cells := 1, slots := 6 }) (Nat.le_refl _) (Nat.le_refl _) hRcells hRslots
  obtain ⟨s', hA⟩ : ∃ z, z = (T.setVm s.vm).setFrames (.invoking m args :: below) := ⟨_, rfl⟩
  rw [← hA] at Y
  have hvm : s'.vm = s.vm := by rw [hA]; rfl
  have hhp : s'.heap = H := by rw [hA]; exact hT
  have hW0 : s.WarmedH s'.vm := by rw [hvm]; exact State.WarmedH.refl s
  have hat' : ∀ w ∈ vx_atS own ic cls names, w.before args s' = true := fun w hw => vx_ot_at hW0 hvm.symm (hgood w (List.mem_cons_of_mem _ (List.mem_cons_of_mem _ hw))) (hat w hw)
  have hk' : (Cond.classLink own ik cls).before args s' = true := vx_ot_at hW0 hvm.symm (hgood _ List.mem_cons_self) hk
  have hini' : (Cond.initialized cls).before args s' = true := vx_ot_at hW0 hvm.symm (hgood _ (List.mem_cons_of_mem _ List.mem_cons_self)) hini
  have hU' : vx_Zq Bundle.tN "UNASSIGNED_STACK" Bundle.steD A s' s'.heap := by rw [hhp]; exact vx_Zq.moved hW0.alike (hU.kept hS.2.1)
  have hN' : vx_Zq Bundle.tN "SUPPRESSED_SENTINEL" Bundle.listD A s' s'.heap := by rw [hhp]; exact vx_Zq.moved hW0.alike (hN.kept hS.2.1)
  have h : ∀ w ∈ Bundle.ownAtoms own ic cls names, w.before args s' = true := vx_own hat' (vx_isRefq hU'.1) (vx_isRefq hN'.1) hU'.2.word hN'.2.word
  have hown' : s'.vm.findClass own = some m.cls := by rw [hvm]; exact hown
  have hins : (Cond.instantiable cls 6).before args s' = true := h _ (by simp [Bundle.ownAtoms])
  obtain ⟨vm₁, cX, kX, hfX, hkX, -, -, X₁, st1⟩ := Y.newCold hexec (own := own) (C := cls) (index := ik) (n := 6) hown' hk' hins hini'
    (g := F0 m pc ls rest) rfl (by rw [hb]; exact d0) (Nat.le_refl _) (Nat.le_refl _)
  generalize hT1 : (T.setVm vm₁).pushCell { cls := cX, slots := kX.instanceTypes.map defaultValue, vm := .none } = T1 at X₁ st1
  have hcat : (Value.ref T.heap.size).category = 1 := rfl
  have hcellA : T1.heap[T.heap.size]? = some (freshCell cX kX) := by rw [← hT1]; exact State.heap_pushCell_size _ _
  have d3' : decode c.code (pc + 3) = .ok (.dup, 1) := by rw [hb]; exact d3
  have d4' : decode c.code (pc + 4) = .ok (.ldc is, 2) := by rw [hb]; exact d4
  have hstr' : vk_R own is text sa s' := vk_R.warm hW0 hstr
  obtain ⟨U, hsteps, hrun, hend, hW, hsame, ce, hce, hO⟩ := X₁.ctorThrowS hexec htr (own := own) (cls := cls) (names := names) (ic := ic) hown' hcls hnames h (fun x hx => nomatch hx) hfX hkX hcellA (by rw [hhp, hT]; exact Nat.le_refl _) (msg := .ref sa) rfl
    (g := { method := m, pc := pc + 6, locals := ls, stack := .ref sa :: .ref T.heap.size :: .ref T.heap.size :: rest, locked := none }) rfl hsize rfl rfl (rest := rest) rfl
    (by rw [hb]; exact d6) (by rw [hb]; exact d9) hout hRframes (by simp only [List.map_cons, List.sum_cons, hcat]; omega) hlocks
  obtain ⟨f1, f2⟩ := vx_frame hsame
  rw [hhp] at f1 f2
  have hWs : s.WarmedH U.vm := State.WarmedH.trans hW0 hW
  have hcl : s.vm.findClass cls = some ce.cls := by
    have h9 := hO.cls
    rw [hvm] at h9
    exact h9
  have hall : s.sameButNew ({ U with vm := s.vm } : State) locs mc ms := by
    subst hA
    obtain ⟨e1, e2⟩ := hsame
    rw [State.setFrames_setFrames] at e1
    have h2 : (T.setVm s.vm).sameButNew ({ U with vm := s.vm } : State) [] (0 + 1) (0 + 6) := ⟨e1, e2⟩
    have h3 := X.same.trans h2
    rw [List.append_nil] at h3
    exact h3.mono hc hs
  refine ⟨U, ?_, .threw T.heap.size, hrun, hend, Or.inr ⟨T.heap.size, rfl, cls, ce, locs, hx U hWs.alike f1 (fun q hq => f2 q hq (fun z hz => nomatch hz)), hce, hO.vm, hcl, hWs, hall, hf⟩⟩
  refine st1 _ ?_
  show Steps p.tables e below (T1.setTop { method := m, pc := pc + 3, locals := ls, stack := .ref T.heap.size :: rest, locked := none }) _
  jvm_step X₁.here [X₁.here.top, hexec, d3', Value.category]
  exact X₁.ldcString hexec (own := own) (text := text) (index := is) (a := sa) hown' hstr'.1 hstr'.2
    (g := { method := m, pc := pc + 4, locals := ls, stack := .ref T.heap.size :: .ref T.heap.size :: rest, locked := none }) rfl d4' _ hsteps
/-- 'throw new E("text")', the text by a wide index -/
theorem vx_throwSW {cc : ByteArray} {pc : Nat} (hexec : p.tables.exec = Jvm.exec) (hb : c.code = cc) (hl : l.stackTraces = false) {own cls text : String} {names : List String} {ik is ic mc ms sa : Nat} {A : Nat → Prop}
    (hown : s.vm.findClass own = some m.cls) (hcls : Bundle.fit cls = true) (hnames : ∀ n ∈ names, Bundle.fit n = true)
    (hk : (Cond.classLink own ik cls).before args s = true) (hini : (Cond.initialized cls).before args s = true) (hstr : vk_R own is text sa s) (hat : ∀ w ∈ vx_atS own ic cls names, w.before args s = true)
    (hgood : ∀ w ∈ Cond.classLink own ik cls :: Cond.initialized cls :: vx_atS own ic cls names, vx_ot w = true)
    (hU : vx_Zq Bundle.tN "UNASSIGNED_STACK" Bundle.steD A s s.heap) (hN : vx_Zq Bundle.tN "SUPPRESSED_SENTINEL" Bundle.listD A s s.heap) (hS : va_S A s.heap H locs) (hsize : ls.size = c.maxLocals)
    (d0 : decode cc pc = .ok (.new ik, 3)) (d3 : decode cc (pc + 3) = .ok (.dup, 1)) (d4 : decode cc (pc + 4) = .ok (.ldc_w is, 3)) (d7 : decode cc (pc + 7) = .ok (.invokespecial ic, 3)) (d10 : decode cc (pc + 10) = .ok (.athrow, 1))
    (hout : ∀ x ∈ c.exceptionTable.toList, covers x (pc + 10) = false)
    (hRframes : names.length + 3 < R.frames) (hRlocals : (rest.map fun v => v.category).sum + (13 * (names.length + 1) + 43) ≤ R.locals) (hRcells : cells + 1 ≤ R.cells) (hRslots : slots + 6 ≤ R.slots) (hlocks : meth.locks = false)
    (hx : ∀ t : State, s.vm.Alike t.vm → H.size ≤ t.heap.size → (∀ q : Nat, q < H.size → t.heap[q]? = H[q]?) → XC cls s t)
    (hf : ∀ z ∈ locs, free z.base) (hc : cells + 1 ≤ mc) (hs : slots + 6 ≤ ms) :
    W p l e R s m args below meth c H locs cells slots (vx_MQ below Qc XC args s mc ms free) (F0 m pc ls rest) := by
  intro T hT X
  have htr : e.platform.stackTraces = false := (show e.platform.stackTraces = l.stackTraces by rw [X.admits.platform]).trans hl
  have Y := vx_rebase X (R' := { frames := R.frames, locals := R.locals, cells := 1, slots := 6 }) (Nat.le_refl _) (Nat.le_refl _) hRcells hRslots
  obtain ⟨s', hA⟩ : ∃ z, z = (T.setVm s.vm).setFrames (.invoking m args :: below) := ⟨_, rfl⟩
  rw [← hA] at Y
  have hvm : s'.vm = s.vm := by rw [hA]; rfl
  have hhp : s'.heap = H := by rw [hA]; exact hT
  have hW0 : s.WarmedH s'.vm := by rw [hvm]; exact State.WarmedH.refl s
  have hat' : ∀ w ∈ vx_atS own ic cls names, w.before args s' = true := fun w hw => vx_ot_at hW0 hvm.symm (hgood w (List.mem_cons_of_mem _ (List.mem_cons_of_mem _ hw))) (hat w hw)
  have hk' : (Cond.classLink own ik cls).before args s' = true := vx_ot_at hW0 hvm.symm (hgood _ List.mem_cons_self) hk
  have hini' : (Cond.initialized cls).before args s' = true := vx_ot_at hW0 hvm.symm (hgood _ (List.mem_cons_of_mem _ List.mem_cons_self)) hini
  have hU' : vx_Zq Bundle.tN "UNASSIGNED_STACK" Bundle.steD A s' s'.heap := by rw [hhp]; exact vx_Zq.moved hW0.alike (hU.kept hS.2.1)
  have hN' : vx_Zq Bundle.tN "SUPPRESSED_SENTINEL" Bundle.listD A s' s'.heap := by rw [hhp]; exact vx_Zq.moved hW0.alike (hN.kept hS.2.1)
  have h : ∀ w ∈ Bundle.ownAtoms own ic cls names, w.before args s' = true := vx_own hat' (vx_isRefq hU'.1) (vx_isRefq hN'.1) hU'.2.word hN'.2.word
  have hown' : s'.vm.findClass own = some m.cls := by rw [hvm]; exact hown
  have hins : (Cond.instantiable cls 6).before args s' = true := h _ (by simp [Bundle.ownAtoms])
  obtain ⟨vm₁, cX, kX, hfX, hkX, -, -, X₁, st1⟩ := Y.newCold hexec (own := own) (C := cls) (index := ik) (n := 6) hown' hk' hins hini'
    (g := F0 m pc ls rest) rfl (by rw [hb]; exact d0) (Nat.le_refl _) (Nat.le_refl _)
  generalize hT1 : (T.setVm vm₁).pushCell { cls := cX, slots := kX.instanceTypes.map defaultValue, vm := .none } = T1 at X₁ st1
  have hcat : (Value.ref T.heap.size).category = 1 := rfl
  have hcellA : T1.heap[T.heap.size]? = some (freshCell cX kX) := by rw [← hT1]; exact State.heap_pushCell_size _ _
  have d3' : decode c.code (pc + 3) = .ok (.dup, 1) := by rw [hb]; exact d3
  have d4' : decode c.code (pc + 4) = .ok (.ldc_w is, 3) := by rw [hb]; exact d4
  have hstr' : vk_R own is text sa s' := vk_R.warm hW0 hstr
  obtain ⟨U, hsteps, hrun, hend, hW, hsame, ce, hce, hO⟩ := X₁.ctorThrowS hexec htr (own := own) (cls := cls) (names := names) (ic := ic) hown' hcls hnames h (fun x hx => nomatch hx) hfX hkX hcellA (by rw [hhp, hT]; exact Nat.le_refl _) (msg := .ref sa) rfl
    (g := { method := m, pc := pc + 7, locals := ls, stack := .ref sa :: .ref T.heap.size :: .ref T.heap.size :: rest, locked := none }) rfl hsize rfl rfl (rest := rest) rfl
    (by rw [hb]; exact d7) (by rw [hb]; exact d10) hout hRframes (by simp only [List.map_cons, List.sum_cons, hcat]; omega) hlocks
  obtain ⟨f1, f2⟩ := vx_frame hsame
  rw [hhp] at f1 f2
  have hWs : s.WarmedH U.vm := State.WarmedH.trans hW0 hW
  have hcl : s.vm.findClass cls = some ce.cls := by
    have h9 := hO.cls
    rw [hvm] at h9
    exact h9
  have hall : s.sameButNew ({ U with vm := s.vm } : State) locs mc ms := by
    subst hA
    obtain ⟨e1, e2⟩ := hsame
    rw [State.setFrames_setFrames] at e1
    have h2 : (T.setVm s.vm).sameButNew ({ U with vm := s.vm } : State) [] (0 + 1) (0 + 6) := ⟨e1, e2⟩
    have h3 := X.same.trans h2
    rw [List.append_nil] at h3
    exact h3.mono hc hs
  refine ⟨U, ?_, .threw T.heap.size, hrun, hend, Or.inr ⟨T.heap.size, rfl, cls, ce, locs, hx U hWs.alike f1 (fun q hq => f2 q hq (fun z hz => nomatch hz)), hce, hO.vm, hcl, hWs, hall, hf⟩⟩
  refine st1 _ ?_
  show Steps p.tables e below (T1.setTop { method := m, pc := pc + 3, locals := ls, stack := .ref T.heap.size :: rest, locked := none }) _
  jvm_step X₁.here [X₁.here.top, hexec, d3', Value.category]
  exact X₁.ldcStringW hexec (own := own) (text := text) (index := is) (a := sa) hown' hstr'.1 hstr'.2
    (g := { method := m, pc := pc + 4, locals := ls, stack := .ref T.heap.size :: .ref T.heap.size :: rest, locked := none }) rfl d4' _ hsteps
end Ends
section Bodies
variable {l : Launch}
theorem vx_ofW {y : MethodName} {ws ws' : List Cond} {rm : Room} {Pc : Array Value → State → Prop} {Qc : Array Value → State → Outcome → State → Prop} {XC : String → State → State → Prop} {mc ms : Nat} {free : Addr → Prop} {cc : ByteArray} {maxL : Nat} {ret : Option FieldType}
    (hy : plainName y.cls = true) (hw : ws = Cond.code y cc maxL ret :: ws')
    (body : ∀ p e s m args below meth c s₁, BodyLoose p l y (headSpec ws rm) cc maxL ret e s m args below meth c s₁ → c.maxLocals = maxL → (∀ x ∈ c.exceptionTable.toList, False) → Pc args s →
      W p l e (headSpec ws rm).room s m args below meth c s.heap [] 0 0 (vx_MQ below Qc XC args s mc ms free) (entryFrame m args maxL)) : vx_Met l y ws rm Pc Qc XC mc ms free := by
  refine MetFree.of_bodyS (code := cc) (maxLocals := maxL) (ret := ret) hy ?_ ?_
  · intro args s m h hn
    obtain ⟨meth, c, h1, h2, h3, h4, h5, h6, -, -⟩ := Cond.code_spec hn (atoms_spec (ws := ws) h _ (by rw [hw]; exact List.mem_cons_self))
    exact ⟨meth, c, h1, h2, h3, h4, h5, h6⟩
  · intro p e s m args below meth c s₁ B hml hP _
    have hh0 : s₁.heap = s.heap := by rw [B.state]; rfl
    have ht : ∀ x ∈ c.exceptionTable.toList, False := by
      obtain ⟨meth9, c9, h1, h2, -, -, -, -, h7, -⟩ := Cond.code_spec B.named (atoms_spec (ws := ws) B.pre _ (by rw [hw]; exact List.mem_cons_self))
      cases Option.some.inj (h1.symm.trans B.method)
      cases Option.some.inj (h2.symm.trans (Stand.of_body B).code)
      intro x hx
      rw [Array.isEmpty_iff.mp h7] at hx
      cases hx
    obtain ⟨t, a1, o, b1, b2, b3⟩ := body p e s m args below meth c s₁ B hml ht hP s₁ hh0 (Stand.of_body B)
    exact ⟨t, o, a1, b1, b2, b3⟩
/-- the table of a body with handlers -/
theorem vx_table {p : Program} {x y : MethodName} {S : Spec} {cc bytes : ByteArray} {maxL maxL' : Nat} {ret ret' : Option FieldType} {e : Env} {s s₁ : State} {m : MethodId} {args : Array Value} {below : List Frame} {meth : Method} {c : Code} {hh : List (Nat × Nat × Nat × Nat)}
    (B : BodyLoose p l y S cc maxL ret e s m args below meth c s₁) (h : (Cond.codeWith y bytes maxL' ret' hh).before args s = true) : c.exceptionTable.toList = tableOf hh := by
  obtain ⟨m9, meth9, c9, hn9, h1, h2, -, -, h6, -⟩ := Cond.codeWith_spec h
  cases Option.some.inj (hn9.symm.trans B.named)
  cases Option.some.inj (h1.symm.trans B.method)
  cases Option.some.inj (h2.symm.trans (Stand.of_body B).code)
  rw [← h6, table_eq]
end Bodies
end VXA
/-! ===== END ===== -/
/-! ===== BEGIN a static call of a method with an exception table ===== -/
section VXS
variable {p : Program} {l : Launch} {e : Env} {R : Room} {s : State} {m : MethodId} {args : Array Value} {below : List Frame} {meth : Method} {c : Code} {T : State} {H : Heap} {locs : List Loc} {cells slots : Nat}
abbrev vx_CSW (R : Room) (s : State) (args : Array Value) (own : String) (index : Nat) (y : MethodName) (bytes : ByteArray) (maxL : Nat) (ret : Option FieldType) (hh : List (Nat × Nat × Nat × Nat)) (ws : List Cond) (rm : Room) (mc ms n : Nat) : Prop :=
  (rm.cells = mc ∧ rm.slots = ms ∧ rm.frames + 1 ≤ R.frames ∧ 8 + (maxL + 11) + rm.locals ≤ R.locals ∧ (∀ w ∈ ws, ∀ (a' : Array Value) (U : State), s.WarmedH U.vm → w.before a' U = true) ∧ Cond.codeWith y bytes maxL ret hh ∈ ws) ∧
  (Cond.codeWith y bytes maxL ret hh).before args s = true ∧ (Cond.initialized y.cls).before args s = true ∧ (y.cls ≠ "java/lang/invoke/MethodHandle" ∧ y.cls ≠ "java/lang/invoke/VarHandle") ∧
  (∀ sig, parseMethodDescriptor y.desc = some sig → n = sig.parameters.length) ∧ (Cond.methodLink own index y).before args s = true ∧ (Cond.static y).before args s = true
theorem vx_cwSW {own : String} {index maxL mc ms : Nat} {y : MethodName} {bytes : ByteArray} {ret : Option FieldType} {hh : List (Nat × Nat × Nat × Nat)} {Ts ws ws' : List Cond} {rm : Room} (n : Nat) (ht : ∀ w ∈ Ts, w.before args s = true) (hT : GoodIn Ts (va_wsS own index y ws)) (hw : ws = Cond.codeWith y bytes maxL ret hh :: ws') (hrc : rm.cells = mc) (hrs : rm.slots = ms)
    (hd : y.cls ≠ "java/lang/invoke/MethodHandle" ∧ y.cls ≠ "java/lang/invoke/VarHandle" ∧ (parseMethodDescriptor y.desc).map (fun d => d.parameters.length) = some n) (hR : rm.frames + 1 ≤ R.frames ∧ 8 + (maxL + 11) + rm.locals ≤ R.locals) :
    vx_CSW R s args own index y bytes maxL ret hh ws rm mc ms n := by
  have ok : ∀ w ∈ va_wsS own index y ws, w.before args s = true := fun w h => ht w (hT w h).1
  have hG : GoodIn Ts ws := fun w h => hT w (by unfold va_wsS; exact List.mem_append_right _ h)
  have hc : Cond.codeWith y bytes maxL ret hh ∈ ws := by rw [hw]; exact List.mem_cons_self
  refine ⟨⟨hrc, hrs, hR.1, hR.2, pay_in ht hG, hc⟩, ht _ (hG _ hc).1, ok _ (by simp [va_wsS]), ⟨hd.1, hd.2.1⟩, fun sig h => ?_, ok _ (by simp [va_wsS]), ok _ (by simp [va_wsS])⟩
  have h2 := hd.2.2
  rw [h] at h2
  exact (Option.some.inj h2).symm
theorem vx_callSW (X : Stand p l e R s m args below meth c T locs cells slots) (hexec : p.tables.exec = Jvm.exec) {own : String} {index : Nat} {y : MethodName} {bytes : ByteArray} {maxL : Nat} {ret : Option FieldType} {hh : List (Nat × Nat × Nat × Nat)}
    (hown : s.vm.findClass own = some m.cls) (hlink : (Cond.methodLink own index y).before args s = true) (hstat : (Cond.static y).before args s = true) (hinit : (Cond.initialized y.cls).before args s = true)
    (hcode : (Cond.codeWith y bytes maxL ret hh).before args s = true) (hy : y.cls ≠ "java/lang/invoke/MethodHandle" ∧ y.cls ≠ "java/lang/invoke/VarHandle")
    {W9 : Nat} {Pre : Pt → Array Value → Prop} {Post : Pt → Array Value → Option Value → Pt → Prop} (hK : Back l R p e below s args y 3 W9 Pre Post)
    {g : JFrame} (hg : g.method = m) (hsize : g.locals.size = c.maxLocals) {argsL rest : List Value} (hlen : ∀ sig, parseMethodDescriptor y.desc = some sig → argsL.length = sig.parameters.length)
    (hstack : g.stack = argsL.reverse ++ rest) (hW : 2 * g.monitorRoom + (rest.map fun v => v.category).sum ≤ W9) (hdg : decode c.code g.pc = .ok (.invokestatic index, 3))
    (hpre : ∀ vm₁, s.WarmedH vm₁ → Pre ⟨T.setVm vm₁, locs, cells, slots⟩ argsL.toArray) :
    ∃ (v : Option Value) (vm₁ : Vm) (B : Pt), s.WarmedH vm₁ ∧ Stand p l e R s m args below meth c B.U B.locs B.cells B.slots ∧ Post ⟨T.setVm vm₁, locs, cells, slots⟩ argsL.toArray v B ∧
      ∀ target, Steps p.tables e below (B.U.setTop { g with pc := g.pc + 3, stack := v.toList ++ rest }) target → Steps p.tables e below (T.setTop g) target := by
  obtain ⟨mk, methM, cM, hnamed, hmethM, -, -, -, -, -, -, hsigM⟩ := Cond.codeWith_spec hcode
  have hstatic : methM.isStatic = true := Cond.static_spec hnamed hmethM hstat
  obtain ⟨kP, hkP, -⟩ := className_of_methodNamed hnamed
  have hinitP : kP.init = .initialized := Cond.initialized_spec (findClass_of_methodNamed hnamed) hkP hinit
  obtain ⟨vm₁, X₁, hstep₁⟩ := X.invokestatic hexec hown hlink hnamed hmethM hstatic hkP hinitP hy (g := g) hg (argsL := argsL) (rest := rest) (hlen _ hsigM) hstack hdg
  obtain ⟨v, B, X', hpost, hsteps⟩ := hK m meth c ⟨T.setVm vm₁, locs, cells, slots⟩ { g with stack := rest } (.invokestatic index) mk argsL.toArray X₁ hg hsize hdg hW (X₁.named hnamed) (hpre vm₁ X₁.warmed)
  exact ⟨v, vm₁, B, X₁.warmed, X', hpost, fun target h => hstep₁ _ fun acts => by rw [doInvoke_state]; exact hsteps.trans h⟩
theorem vx_runSW {y : MethodName} {bytes cc : ByteArray} {maxL nL mc ms n index : Nat} {ret : Option FieldType} {hh : List (Nat × Nat × Nat × Nat)} {ws : List Cond} {rm : Room} {Pc : Array Value → State → Prop} {Qc : Array Value → State → Outcome → State → Prop} {free : Addr → Prop} {Ts : List Cond} {own : String} {As rest : List Value} {g : JFrame}
    (S : CallFix p m c cc nL s args Ts own) (hM : Met l y ws rm Pc Qc mc ms free) (cw : vx_CSW R s args own index y bytes maxL ret hh ws rm mc ms n) (hp : PreS s H Pc As)
    (hg : g.method = m) (hn : As.length = n) (hsize : g.locals.size = nL) (hstack : g.stack = As.reverse ++ rest) (hW : 2 * g.monitorRoom + (rest.map fun v => v.category).sum ≤ 8) (hdg : decode cc g.pc = .ok (.invokestatic index, 3)) (hf : cells + mc ≤ R.cells ∧ slots + ms ≤ R.slots) :
    va_Run p l e R s m args below meth c H locs cells slots mc ms g rest (Qc As.toArray) (free) := by
  obtain ⟨⟨hrc, hrs, hfr, hlo, hws, hcw⟩, hcode, hini, hy, hlen, hl, hstt⟩ := cw
  have hK : Back l R p e below s args y 3 8 (PreOf R mc ms Pc) (PostOf Qc mc ms free) := va_backW (hh := hh) (bytes := bytes) (maxL := maxL) (ret := ret) hM hp.1 hrc hrs hfr hlo hws hcw (fun a' U hW => word_at hW (Or.inl (by first | rfl | simp [Cond.onTables, Cond.keeps, Cond.steady])) hini)
  obtain ⟨hx, hb, hml, ho, -⟩ := S
  intro T hT X
  obtain ⟨v, vm₁, ⟨U', l2, c2, s2⟩, hW₁, X', ⟨g', mk, t, L, e1, e2, hq, h1, hL, h2, h3⟩, st⟩ := vx_callSW X hx (hh := hh) (bytes := bytes) (maxL := maxL) (ret := ret) ho hl hstt hini hcode hy hK hg (hsize.trans hml.symm) (argsL := As) (rest := rest) (fun sig h => hn.trans (hlen sig h)) hstack hW (by rw [hb]; exact hdg)
    (fun vm₁ hW₁ => ⟨hf.1, hf.2, hp.2 (T.setVm vm₁) hT hW₁⟩)
  dsimp only [Pt.U, Pt.locs, Pt.cells, Pt.slots] at X' e1 e2 h1 h2 h3 st
  subst h1; subst h2; subst h3
  exact ⟨v, (T.setVm vm₁).calling g' mk As.toArray, t, U', L, hT, X', hL, e1, e2, hq, st⟩
/-- a thing of a world lies in the heap -/
theorem vx_lt {D : va_G} {cl : List vw_C} {ws : va_W} {H1 : Heap} (h : va_P D cl ws H1) {k : Nat} {q : Nat × va_E} (hk : ws[k]? = some q) : q.1 < H1.size := (h k q hk).lt
end VXS
/-! ===== END ===== -/
/-! ===== BEGIN methods with a table of their own: called by a name, returning or throwing ===== -/
section VXH
/-! vx_backW, vx_callVX, vx_callSX, vx_callVW, vx_runVW, vx_runVX, vx_runSX, vx_ofWH follow the same proofs as their sisters above (Free/Laws.lean, Shelf42/LK1.lean); vx_outP calls Shelf42/NT130.lean (outThrough). -/
section
variable {l : Launch} {R : Room} {p : Program} {e : Env} {below : List Frame} {s : State} {sargs : Array Value} {y : MethodName} {len W9 : Nat}
theorem vx_backW {ws : List Cond} {rm : Room} {Pc : Array Value → State → Prop} {Qc : Array Value → State → Outcome → State → Prop} {XC : String → State → State → Prop} {mc ms : Nat} {free : Addr → Prop} {bytes : ByteArray} {maxL : Nat} {ret : Option FieldType} {hh : List (Nat × Nat × Nat × Nat)}
    (hM : vx_Met l y ws rm Pc Qc XC mc ms free) (hblind : FrameBlind Pc) (hrc : rm.cells = mc) (hrs : rm.slots = ms)
    (hframes : rm.frames + 1 ≤ R.frames) (hlocals : W9 + (maxL + 11) + rm.locals ≤ R.locals)
    (hws : ∀ w ∈ ws, ∀ a' U, s.WarmedH U.vm → w.before a' U = true) (hcode : Cond.codeWith y bytes maxL ret hh ∈ ws) (hinit : ∀ a' U, s.WarmedH U.vm → (Cond.initialized y.cls).before a' U = true) :
    vx_Back l R p e below s sargs y len W9 (PreOf R mc ms Pc) (PostOf Qc mc ms free) (vx_Post XC mc ms free) := by
  intro m meth c A g ig mk a X hg hsize hdg hW hn hp
  have h1 : (headSpec ws rm).pre.before a A.U = true := atoms_intro fun w hw => hws w hw _ _ X.warmed
  have h2 : (Cond.codeWith y bytes maxL ret hh).before a A.U = true := hws _ hcode _ _ X.warmed
  have h3 : (Cond.initialized y.cls).before a A.U = true := hinit _ _ X.warmed
  have h4 : A.cells + (headSpec ws rm).room.cells ≤ R.cells := by rw [show (headSpec ws rm).room.cells = mc from hrc]; exact hp.1
  have h5 : A.slots + (headSpec ws rm).room.slots ≤ R.slots := by rw [show (headSpec ws rm).room.slots = ms from hrs]; exact hp.2.1
  have hPc : Pc a (A.U.calling g mk a) := hblind _ _ _ _ hp.2.2
  obtain ⟨U, Ls, c0, s0⟩ := A
  dsimp only [Pt.U, Pt.locs, Pt.cells, Pt.slots] at h1 h2 h3 h4 h5 X hn hPc ⊢
  obtain ⟨m9, methY, cY, hn9, hmY, hcY, -, hlY, -⟩ := Cond.codeWith_spec h2
  cases Option.some.inj (hn9.symm.trans hn)
  obtain ⟨kY, hkY, -⟩ := className_of_methodNamed hn
  have hinitY : kY.init = .initialized := Cond.initialized_spec (findClass_of_methodNamed hn) hkY h3
  have h : At U g.method c below := by rw [hg]; exact X.here
  have hlocals9 : W9 + (maxL + 11) + (headSpec ws rm).room.locals ≤ R.locals := hlocals
  have happ : (headSpec ws rm).appliesLoose y e.platform (U.calling g mk a) = true :=
    Spec.appliesLoose_calling (g := g) h hdg hn hkY hinitY
      (X.room_calling (g := g) (R' := (headSpec ws rm).room) hsize hmY hcY hframes (by rw [hlY]; omega) h4 h5) h1
  obtain ⟨mid, hmid⟩ := h.above
  have hfr : (U.setTop g).frames = (.java g :: mid) ++ below := by rw [State.frames_setTop' g h.top, hmid]; rfl
  obtain ⟨o, s₂, hsteps, -, hend, hq⟩ := Steps.callFree hM p X.admits X.cas X.clock (acts := []) hfr happ hPc trivial
  have hq' : vx_Q Qc XC mc ms free a (U.calling g mk a) o s₂ := hq
  rw [State.frames_setTop' g h.top] at hend
  obtain ⟨g₀, hg0⟩ := Option.isSome_iff_exists.mp h.top
  obtain ⟨r, hr⟩ := State.topJava?_eq_some.mp hg0
  have hr' : (({ U with heap := s₂.heap, slotsUsed := s₂.slotsUsed } : State).setVm s₂.vm).frames = .java g₀ :: r := hr
  rcases hq' with ⟨hqc, L, hfe, hL⟩ | ⟨q, rfl, E, ce, L, hx, hce, hcv, hcl, hW₂, hsm, hL⟩
  · obtain ⟨⟨v, rfl⟩, hW₂, e2, q2, q3, q4, q5, q6⟩ := id hfe
    have e3 : s₂ = ({ (U.calling g mk a).setFrames s₂.frames with heap := s₂.heap, slotsUsed := s₂.slotsUsed } : State).setVm s₂.vm := by
      have : s₂ = ({ s₂ with vm := (U.calling g mk a).vm } : State).setVm s₂.vm := rfl
      rw [e2] at this
      exact this
    obtain ⟨c₂, i₂, len₂, hc₂, hd₂, hf₂⟩ := hend
    have hW' : U.WarmedH s₂.vm := hW₂
    have hcc : c₂ = c := by
      have h1 : s₂.code? g.method = U.code? g.method := by
        rw [State.code?_eq, State.code?_eq, hW'.alike.method?]
      exact Option.some.inj (hc₂.symm.trans (h1.trans h.code))
    subst hcc
    have hlen : len₂ = len := by rw [hdg] at hd₂; cases hd₂; rfl
    subst hlen
    have hs₂ : s₂ = (({ U with heap := s₂.heap, slotsUsed := s₂.slotsUsed } : State).setVm s₂.vm).setTop { g with pc := g.pc + len₂, stack := v.toList ++ g.stack } := by
      refine e3.trans ?_
      rw [hf₂, State.calling_eq h.top, State.setFrames_setFrames, State.setTop_of_frames _ hr', hr]
      rfl
    have hsame : U.sameButNew ({ U with heap := s₂.heap, slotsUsed := s₂.slotsUsed } : State) L mc ms := by
      refine ⟨?_, q2, q3, q4, q5, q6⟩
      obtain ⟨t, ht, -⟩ := State.frames_cons hr
      show ({ U with heap := s₂.heap, slotsUsed := s₂.slotsUsed } : State) = { U.setFrames U.frames with heap := s₂.heap, slotsUsed := s₂.slotsUsed }
      rw [State.setFrames_self ht]
    subst hg
    refine Or.inl ⟨v, ⟨(({ U with heap := s₂.heap, slotsUsed := s₂.slotsUsed } : State).setVm s₂.vm), Ls ++ L, c0 + mc, s0 + ms⟩,
      ⟨X.admits, X.cas, X.clock, X.frames, X.room, X.hears, X.method, X.code, (X.here.setHeapUsed s₂.heap s₂.slotsUsed).setVm hW'.alike, X.tail, State.WarmedH.trans X.warmed hW', X.limits, X.bytes, X.same.trans (hsame.setVm s.vm)⟩,
      ⟨g, mk, s₂, L, rfl, rfl, hqc, rfl, hL, rfl, rfl⟩, ?_⟩
    show Steps p.tables e below _ ((({ U with heap := s₂.heap, slotsUsed := s₂.slotsUsed } : State).setVm s₂.vm).setTop { g with pc := g.pc + len₂, stack := v.toList ++ g.stack })
    rw [← hs₂]
    exact hsteps
  · obtain ⟨e2, q2, q3, q4, q5, q6⟩ := id hsm
    have e3 : s₂ = ({ (U.calling g mk a).setFrames s₂.frames with heap := s₂.heap, slotsUsed := s₂.slotsUsed } : State).setVm s₂.vm := by
      have : s₂ = ({ s₂ with vm := (U.calling g mk a).vm } : State).setVm s₂.vm := rfl
      rw [e2] at this
      exact this
    have hf₂ : s₂.frames = .throwing q :: .java g :: U.frames.tail := hend
    have hW' : U.WarmedH s₂.vm := hW₂
    have hs₂ : s₂ = ((({ U with heap := s₂.heap, slotsUsed := s₂.slotsUsed } : State).setVm s₂.vm).setTop g).pushFrame (.throwing q) := by
      refine e3.trans ?_
      rw [hf₂, State.calling_eq h.top, State.setFrames_setFrames, State.pushFrame, State.frames_setTop _ hr', State.setTop_of_frames _ hr', State.setFrames_setFrames, hr]
      rfl
    have hsame : U.sameButNew ({ U with heap := s₂.heap, slotsUsed := s₂.slotsUsed } : State) L mc ms := by
      refine ⟨?_, q2, q3, q4, q5, q6⟩
      obtain ⟨t, ht, -⟩ := State.frames_cons hr
      show ({ U with heap := s₂.heap, slotsUsed := s₂.slotsUsed } : State) = { U.setFrames U.frames with heap := s₂.heap, slotsUsed := s₂.slotsUsed }
      rw [State.setFrames_self ht]
    subst hg
    refine Or.inr ⟨q, ⟨(({ U with heap := s₂.heap, slotsUsed := s₂.slotsUsed } : State).setVm s₂.vm), Ls ++ L, c0 + mc, s0 + ms⟩,
      ⟨X.admits, X.cas, X.clock, X.frames, X.room, X.hears, X.method, X.code, (X.here.setHeapUsed s₂.heap s₂.slotsUsed).setVm hW'.alike, X.tail, State.WarmedH.trans X.warmed hW', X.limits, X.bytes, X.same.trans (hsame.setVm s.vm)⟩,
      ⟨g, mk, s₂, L, E, ce, rfl, rfl, hx, hce, hcv, hcl, rfl, hL, rfl, rfl⟩, ?_⟩
    show Steps p.tables e below _ (((({ U with heap := s₂.heap, slotsUsed := s₂.slotsUsed } : State).setVm s₂.vm).setTop g).pushFrame (.throwing q))
    rw [← hs₂]
    exact hsteps
end
variable {p : Program} {l : Launch} {e : Env} {R : Room} {s : State} {m : MethodId} {args : Array Value} {below : List Frame} {meth : Method} {c : Code} {T : State} {H : Heap} {locs : List Loc} {cells slots : Nat}
theorem vx_callVX (X : Stand p l e R s m args below meth c T locs cells slots) (hexec : p.tables.exec = Jvm.exec) {own C : String} {index : Nat} {y : MethodName} {bytes : ByteArray} {maxL : Nat} {ret : Option FieldType} {hh : List (Nat × Nat × Nat × Nat)}
    (hown : s.vm.findClass own = some m.cls) (hlink : (Cond.methodLink own index y).before args s = true) (hinst : (Cond.instanceMethod y).before args s = true) (hsel : (Cond.selects C y y).before args s = true)
    (hcode : (Cond.codeWith y bytes maxL ret hh).before args s = true) (hy : y.cls ≠ "java/lang/invoke/MethodHandle" ∧ y.cls ≠ "java/lang/invoke/VarHandle")
    {W9 : Nat} {Pre : Pt → Array Value → Prop} {Post : Pt → Array Value → Option Value → Pt → Prop} {PostX : Pt → Array Value → Addr → Pt → Prop} (hK : vx_Back l R p e below s args y 3 W9 Pre Post PostX)
    {b : Addr} {cellB : Cell} (hcell : T.heap[b]? = some cellB) (hobj : cellB.vm.isStatics = false) (hcls : s.vm.findClass C = some cellB.cls)
    {g : JFrame} (hg : g.method = m) (hsize : g.locals.size = c.maxLocals) {argsL rest : List Value} (hlen : ∀ sig, parseMethodDescriptor y.desc = some sig → argsL.length = sig.parameters.length)
    (hstack : g.stack = argsL.reverse ++ .ref b :: rest) (hW : 2 * g.monitorRoom + (rest.map fun v => v.category).sum ≤ W9) (hdg : decode c.code g.pc = .ok (.invokevirtual index, 3))
    (hpre : ∀ vm₁, s.WarmedH vm₁ → Pre ⟨T.setVm vm₁, locs, cells, slots⟩ (Value.ref b :: argsL).toArray) :
    (∃ (v : Option Value) (vm₁ : Vm) (B : Pt), s.WarmedH vm₁ ∧ Stand p l e R s m args below meth c B.U B.locs B.cells B.slots ∧ Post ⟨T.setVm vm₁, locs, cells, slots⟩ (Value.ref b :: argsL).toArray v B ∧
      ∀ target, Steps p.tables e below (B.U.setTop { g with pc := g.pc + 3, stack := v.toList ++ rest }) target → Steps p.tables e below (T.setTop g) target) ∨
    (∃ (q : Addr) (vm₁ : Vm) (B : Pt), s.WarmedH vm₁ ∧ Stand p l e R s m args below meth c B.U B.locs B.cells B.slots ∧ PostX ⟨T.setVm vm₁, locs, cells, slots⟩ (Value.ref b :: argsL).toArray q B ∧
      Steps p.tables e below (T.setTop g) ((B.U.setTop { g with stack := rest }).pushFrame (.throwing q))) := by
  obtain ⟨mk, methM, hnamed, hmethM, hstM, habM⟩ := Cond.instanceMethod_spec hinst
  obtain ⟨m8, methM', cM, hn8, hmethM', -, -, -, -, -, -, hsigM⟩ := Cond.codeWith_spec hcode
  cases Option.some.inj (hn8.symm.trans hnamed)
  cases hmethM.symm.trans hmethM'
  obtain ⟨c2, r2, m2, q1, q2, q3, q4, kP, hkP, hkPi⟩ := Cond.selects_spec hsel
  cases hcls.symm.trans q1
  cases (State.methodFound?_of_named hnamed hy).symm.trans q2
  cases hnamed.symm.trans q3
  have hselP : selectMethod e.platform s.vm cellB.cls mk = .method mk := by rw [Launch.admits_selectMethod X.admits]; exact q4
  obtain ⟨vm₁, X₁, hstep₁⟩ := X.invokevirtual hexec hown hlink hnamed hmethM hstM hkP hkPi hy (a := b) (cell := cellB) hcell
    (fun z h => by rw [h] at hobj; cases hobj) hselP hmethM habM hkP hkPi (g := g) hg (argsL := argsL) (rest := rest) (hlen _ hsigM) hstack hdg
  rcases hK m meth c ⟨T.setVm vm₁, locs, cells, slots⟩ { g with stack := rest } (.invokevirtual index) mk (Value.ref b :: argsL).toArray X₁ hg hsize hdg hW (X₁.named hnamed) (hpre vm₁ X₁.warmed) with ⟨v, B, X', hpost, hsteps⟩ | ⟨q, B, X', hpost, hsteps⟩
  · exact Or.inl ⟨v, vm₁, B, X₁.warmed, X', hpost, fun target h => hstep₁ _ fun acts => by rw [doInvoke_state]; exact hsteps.trans h⟩
  · exact Or.inr ⟨q, vm₁, B, X₁.warmed, X', hpost, hstep₁ _ fun acts => by rw [doInvoke_state]; exact hsteps⟩
theorem vx_callSX (X : Stand p l e R s m args below meth c T locs cells slots) (hexec : p.tables.exec = Jvm.exec) {own : String} {index : Nat} {y : MethodName} {bytes : ByteArray} {maxL : Nat} {ret : Option FieldType} {hh : List (Nat × Nat × Nat × Nat)}
    (hown : s.vm.findClass own = some m.cls) (hlink : (Cond.methodLink own index y).before args s = true) (hstat : (Cond.static y).before args s = true) (hinit : (Cond.initialized y.cls).before args s = true)
    (hcode : (Cond.codeWith y bytes maxL ret hh).before args s = true) (hy : y.cls ≠ "java/lang/invoke/MethodHandle" ∧ y.cls ≠ "java/lang/invoke/VarHandle")
    {W9 : Nat} {Pre : Pt → Array Value → Prop} {Post : Pt → Array Value → Option Value → Pt → Prop} {PostX : Pt → Array Value → Addr → Pt → Prop} (hK : vx_Back l R p e below s args y 3 W9 Pre Post PostX)
    {g : JFrame} (hg : g.method = m) (hsize : g.locals.size = c.maxLocals) {argsL rest : List Value} (hlen : ∀ sig, parseMethodDescriptor y.desc = some sig → argsL.length = sig.parameters.length)
    (hstack : g.stack = argsL.reverse ++ rest) (hW : 2 * g.monitorRoom + (rest.map fun v => v.category).sum ≤ W9) (hdg : decode c.code g.pc = .ok (.invokestatic index, 3))
    (hpre : ∀ vm₁, s.WarmedH vm₁ → Pre ⟨T.setVm vm₁, locs, cells, slots⟩ argsL.toArray) :
    (∃ (v : Option Value) (vm₁ : Vm) (B : Pt), s.WarmedH vm₁ ∧ Stand p l e R s m args below meth c B.U B.locs B.cells B.slots ∧ Post ⟨T.setVm vm₁, locs, cells, slots⟩ argsL.toArray v B ∧
      ∀ target, Steps p.tables e below (B.U.setTop { g with pc := g.pc + 3, stack := v.toList ++ rest }) target → Steps p.tables e below (T.setTop g) target) ∨
    (∃ (q : Addr) (vm₁ : Vm) (B : Pt), s.WarmedH vm₁ ∧ Stand p l e R s m args below meth c B.U B.locs B.cells B.slots ∧ PostX ⟨T.setVm vm₁, locs, cells, slots⟩ argsL.toArray q B ∧
      Steps p.tables e below (T.setTop g) ((B.U.setTop { g with stack := rest }).pushFrame (.throwing q))) := by
  obtain ⟨mk, methM, cM, hnamed, hmethM, -, -, -, -, -, -, hsigM⟩ := Cond.codeWith_spec hcode
  have hstatic : methM.isStatic = true := Cond.static_spec hnamed hmethM hstat
  obtain ⟨kP, hkP, -⟩ := className_of_methodNamed hnamed
  have hinitP : kP.init = .initialized := Cond.initialized_spec (findClass_of_methodNamed hnamed) hkP hinit
  obtain ⟨vm₁, X₁, hstep₁⟩ := X.invokestatic hexec hown hlink hnamed hmethM hstatic hkP hinitP hy (g := g) hg (argsL := argsL) (rest := rest) (hlen _ hsigM) hstack hdg
  rcases hK m meth c ⟨T.setVm vm₁, locs, cells, slots⟩ { g with stack := rest } (.invokestatic index) mk argsL.toArray X₁ hg hsize hdg hW (X₁.named hnamed) (hpre vm₁ X₁.warmed) with ⟨v, B, X', hpost, hsteps⟩ | ⟨q, B, X', hpost, hsteps⟩
  · exact Or.inl ⟨v, vm₁, B, X₁.warmed, X', hpost, fun target h => hstep₁ _ fun acts => by rw [doInvoke_state]; exact hsteps.trans h⟩
  · exact Or.inr ⟨q, vm₁, B, X₁.warmed, X', hpost, hstep₁ _ fun acts => by rw [doInvoke_state]; exact hsteps⟩
theorem vx_callVW (X : Stand p l e R s m args below meth c T locs cells slots) (hexec : p.tables.exec = Jvm.exec) {own C : String} {index : Nat} {y : MethodName} {bytes : ByteArray} {maxL : Nat} {ret : Option FieldType} {hh : List (Nat × Nat × Nat × Nat)}
    (hown : s.vm.findClass own = some m.cls) (hlink : (Cond.methodLink own index y).before args s = true) (hinst : (Cond.instanceMethod y).before args s = true) (hsel : (Cond.selects C y y).before args s = true)
    (hcode : (Cond.codeWith y bytes maxL ret hh).before args s = true) (hy : y.cls ≠ "java/lang/invoke/MethodHandle" ∧ y.cls ≠ "java/lang/invoke/VarHandle")
    {W9 : Nat} {Pre : Pt → Array Value → Prop} {Post : Pt → Array Value → Option Value → Pt → Prop} (hK : Back l R p e below s args y 3 W9 Pre Post)
    {b : Addr} {cellB : Cell} (hcell : T.heap[b]? = some cellB) (hobj : cellB.vm.isStatics = false) (hcls : s.vm.findClass C = some cellB.cls)
    {g : JFrame} (hg : g.method = m) (hsize : g.locals.size = c.maxLocals) {argsL rest : List Value} (hlen : ∀ sig, parseMethodDescriptor y.desc = some sig → argsL.length = sig.parameters.length)
    (hstack : g.stack = argsL.reverse ++ .ref b :: rest) (hW : 2 * g.monitorRoom + (rest.map fun v => v.category).sum ≤ W9) (hdg : decode c.code g.pc = .ok (.invokevirtual index, 3))
    (hpre : ∀ vm₁, s.WarmedH vm₁ → Pre ⟨T.setVm vm₁, locs, cells, slots⟩ (Value.ref b :: argsL).toArray) :
    ∃ (v : Option Value) (vm₁ : Vm) (B : Pt), s.WarmedH vm₁ ∧ Stand p l e R s m args below meth c B.U B.locs B.cells B.slots ∧ Post ⟨T.setVm vm₁, locs, cells, slots⟩ (Value.ref b :: argsL).toArray v B ∧
      ∀ target, Steps p.tables e below (B.U.setTop { g with pc := g.pc + 3, stack := v.toList ++ rest }) target → Steps p.tables e below (T.setTop g) target := by
  obtain ⟨mk, methM, hnamed, hmethM, hstM, habM⟩ := Cond.instanceMethod_spec hinst
  obtain ⟨m8, methM', cM, hn8, hmethM', -, -, -, -, -, -, hsigM⟩ := Cond.codeWith_spec hcode
  cases Option.some.inj (hn8.symm.trans hnamed)
  cases hmethM.symm.trans hmethM'
  obtain ⟨c2, r2, m2, q1, q2, q3, q4, kP, hkP, hkPi⟩ := Cond.selects_spec hsel
  cases hcls.symm.trans q1
  cases (State.methodFound?_of_named hnamed hy).symm.trans q2
  cases hnamed.symm.trans q3
  have hselP : selectMethod e.platform s.vm cellB.cls mk = .method mk := by rw [Launch.admits_selectMethod X.admits]; exact q4
  obtain ⟨vm₁, X₁, hstep₁⟩ := X.invokevirtual hexec hown hlink hnamed hmethM hstM hkP hkPi hy (a := b) (cell := cellB) hcell
    (fun z h => by rw [h] at hobj; cases hobj) hselP hmethM habM hkP hkPi (g := g) hg (argsL := argsL) (rest := rest) (hlen _ hsigM) hstack hdg
  obtain ⟨v, B, X', hpost, hsteps⟩ := hK m meth c ⟨T.setVm vm₁, locs, cells, slots⟩ { g with stack := rest } (.invokevirtual index) mk (Value.ref b :: argsL).toArray X₁ hg hsize hdg hW (X₁.named hnamed) (hpre vm₁ X₁.warmed)
  exact ⟨v, vm₁, B, X₁.warmed, X', hpost, fun target h => hstep₁ _ fun acts => by rw [doInvoke_state]; exact hsteps.trans h⟩
abbrev vx_CVW (R : Room) (s : State) (args : Array Value) (own C : String) (index : Nat) (y : MethodName) (bytes : ByteArray) (maxL : Nat) (ret : Option FieldType) (hh : List (Nat × Nat × Nat × Nat)) (ws : List Cond) (rm : Room) (mc ms n : Nat) : Prop :=
  (rm.cells = mc ∧ rm.slots = ms ∧ rm.frames + 1 ≤ R.frames ∧ 8 + (maxL + 11) + rm.locals ≤ R.locals ∧ (∀ w ∈ ws, ∀ (a' : Array Value) (U : State), s.WarmedH U.vm → w.before a' U = true) ∧ Cond.codeWith y bytes maxL ret hh ∈ ws) ∧
  (Cond.codeWith y bytes maxL ret hh).before args s = true ∧ (Cond.initialized y.cls).before args s = true ∧ (y.cls ≠ "java/lang/invoke/MethodHandle" ∧ y.cls ≠ "java/lang/invoke/VarHandle") ∧
  (∀ sig, parseMethodDescriptor y.desc = some sig → n = sig.parameters.length) ∧ (Cond.methodLink own index y).before args s = true ∧ (Cond.instanceMethod y).before args s = true ∧ (Cond.selects C y y).before args s = true
theorem vx_cwVW {own C : String} {index maxL mc ms : Nat} {y : MethodName} {bytes : ByteArray} {ret : Option FieldType} {hh : List (Nat × Nat × Nat × Nat)} {Ts ws ws' : List Cond} {rm : Room} (n : Nat) (ht : ∀ w ∈ Ts, w.before args s = true) (hT : GoodIn Ts (wsV own index C y ws)) (hw : ws = Cond.codeWith y bytes maxL ret hh :: ws') (hrc : rm.cells = mc) (hrs : rm.slots = ms)
    (hd : y.cls = C ∧ y.cls ≠ "java/lang/invoke/MethodHandle" ∧ y.cls ≠ "java/lang/invoke/VarHandle" ∧ (parseMethodDescriptor y.desc).map (fun d => d.parameters.length) = some n) (hR : rm.frames + 1 ≤ R.frames ∧ 8 + (maxL + 11) + rm.locals ≤ R.locals) :
    vx_CVW R s args own C index y bytes maxL ret hh ws rm mc ms n := by
  obtain ⟨hC, hd⟩ := hd
  subst hC
  have ok : ∀ w ∈ wsV own index y.cls y ws, w.before args s = true := fun w h => ht w (hT w h).1
  have hG : GoodIn Ts ws := fun w h => hT w (by unfold wsV; exact List.mem_append_right _ h)
  have hc : Cond.codeWith y bytes maxL ret hh ∈ ws := by rw [hw]; exact List.mem_cons_self
  refine ⟨⟨hrc, hrs, hR.1, hR.2, pay_in ht hG, hc⟩, ht _ (hG _ hc).1, ok _ (by simp [wsV]), ⟨hd.1, hd.2.1⟩, fun sig h => ?_, ok _ (by simp [wsV]), ok _ (by simp [wsV]), ok _ (by simp [wsV])⟩
  have h2 := hd.2.2
  rw [h] at h2
  exact (Option.some.inj h2).symm
theorem vx_runVW {y : MethodName} {bytes cc : ByteArray} {maxL nL mc ms n index : Nat} {ret : Option FieldType} {hh : List (Nat × Nat × Nat × Nat)} {ws : List Cond} {rm : Room} {Pc : Array Value → State → Prop} {Qc : Array Value → State → Outcome → State → Prop} {free : Addr → Prop} {Ts : List Cond} {own C : String} {b : Addr} {As rest : List Value} {g : JFrame}
    (S : CallFix p m c cc nL s args Ts own) (hM : Met l y ws rm Pc Qc mc ms free) (cw : vx_CVW R s args own C index y bytes maxL ret hh ws rm mc ms n) (hp : PreV s H C b Pc As)
    (hg : g.method = m) (hn : As.length = n) (hsize : g.locals.size = nL) (hstack : g.stack = As.reverse ++ .ref b :: rest) (hW : 2 * g.monitorRoom + (rest.map fun v => v.category).sum ≤ 8) (hdg : decode cc g.pc = .ok (.invokevirtual index, 3)) (hf : cells + mc ≤ R.cells ∧ slots + ms ≤ R.slots) :
    va_Run p l e R s m args below meth c H locs cells slots mc ms g rest (Qc (Value.ref b :: As).toArray) free := by
  obtain ⟨⟨hrc, hrs, hfr, hlo, hws, hcw⟩, hcode, hini, hy, hlen, hl, hin, hse⟩ := cw
  have hK : Back l R p e below s args y 3 8 (PreOf R mc ms Pc) (PostOf Qc mc ms free) := va_backW (hh := hh) (bytes := bytes) (maxL := maxL) (ret := ret) hM hp.1 hrc hrs hfr hlo hws hcw (fun a' U hW => word_at hW (Or.inl (by first | rfl | simp [Cond.onTables, Cond.keeps, Cond.steady])) hini)
  obtain ⟨hx, hb, hml, ho, -⟩ := S
  obtain ⟨-, ⟨cellB, hcB, hoB, hclB⟩, hPc⟩ := hp
  intro T hT X
  obtain ⟨v, vm₁, ⟨U', l2, c2, s2⟩, hW₁, X', ⟨g', mk, t, L, e1, e2, hq, h1, hL, h2, h3⟩, st⟩ := vx_callVW X hx (C := C) (hh := hh) (bytes := bytes) (maxL := maxL) (ret := ret) ho hl hin hse hcode hy hK (by rw [hT]; exact hcB) hoB hclB hg (hsize.trans hml.symm) (argsL := As) (rest := rest) (fun sig h => hn.trans (hlen sig h)) hstack hW (by rw [hb]; exact hdg)
    (fun vm₁ hW₁ => ⟨hf.1, hf.2, hPc (T.setVm vm₁) hT hW₁⟩)
  dsimp only [Pt.U, Pt.locs, Pt.cells, Pt.slots] at X' e1 e2 h1 h2 h3 st
  subst h1; subst h2; subst h3
  exact ⟨v, (T.setVm vm₁).calling g' mk (Value.ref b :: As).toArray, t, U', L, hT, X', hL, e1, e2, hq, st⟩
section
variable {y : MethodName} {bytes cc : ByteArray} {maxL nL mc ms n index : Nat} {ret : Option FieldType} {ws : List Cond} {rm : Room} {Pc : Array Value → State → Prop} {Qc : Array Value → State → Outcome → State → Prop} {XC : String → State → State → Prop} {free : Addr → Prop} {Ts : List Cond} {own C : String} {b : Addr} {As rest : List Value} {g : JFrame}
theorem vx_runVX {hh : List (Nat × Nat × Nat × Nat)} (S : CallFix p m c cc nL s args Ts own) (hM : vx_Met l y ws rm Pc Qc XC mc ms free) (cw : vx_CVW R s args own C index y bytes maxL ret hh ws rm mc ms n) (hp : PreV s H C b Pc As)
    (hg : g.method = m) (hn : As.length = n) (hsize : g.locals.size = nL) (hstack : g.stack = As.reverse ++ .ref b :: rest) (hW : 2 * g.monitorRoom + (rest.map fun v => v.category).sum ≤ 8) (hdg : decode cc g.pc = .ok (.invokevirtual index, 3)) (hf : cells + mc ≤ R.cells ∧ slots + ms ≤ R.slots) :
    vx_Run p l e R s m args below meth c H locs cells slots mc ms g rest (Qc (Value.ref b :: As).toArray) XC free := by
  obtain ⟨⟨hrc, hrs, hfr, hlo, hws, hcw⟩, hcode, hini, hy, hlen, hl, hin, hse⟩ := cw
  have hK : vx_Back l R p e below s args y 3 8 (PreOf R mc ms Pc) (PostOf Qc mc ms free) (vx_Post XC mc ms free) := vx_backW (hh := hh) (bytes := bytes) (maxL := maxL) (ret := ret) hM hp.1 hrc hrs hfr hlo hws hcw (fun a' U hW => word_at hW (Or.inl (by first | rfl | simp [Cond.onTables, Cond.keeps, Cond.steady])) hini)
  obtain ⟨hx, hb, hml, ho, -⟩ := S
  obtain ⟨-, ⟨cellB, hcB, hoB, hclB⟩, hPc⟩ := hp
  intro T hT X
  rcases vx_callVX X hx (C := C) (hh := hh) (bytes := bytes) (maxL := maxL) (ret := ret) ho hl hin hse hcode hy hK (by rw [hT]; exact hcB) hoB hclB hg (hsize.trans hml.symm) (argsL := As) (rest := rest) (fun sig h => hn.trans (hlen sig h)) hstack hW (by rw [hb]; exact hdg)
    (fun vm₁ hW₁ => ⟨hf.1, hf.2, hPc (T.setVm vm₁) hT hW₁⟩) with ⟨v, vm₁, ⟨U', l2, c2, s2⟩, hW₁, X', ⟨g', mk, t, L, e1, e2, hq, h1, hL, h2, h3⟩, st⟩ | ⟨q, vm₁, ⟨U', l2, c2, s2⟩, hW₁, X', ⟨g', mk, t, L, E, ce, e1, e2, hq, hce, hcv, hcl, h1, hL, h2, h3⟩, st⟩
  · dsimp only [Pt.U, Pt.locs, Pt.cells, Pt.slots] at X' e1 e2 h1 h2 h3 st
    subst h1; subst h2; subst h3
    exact Or.inl ⟨v, (T.setVm vm₁).calling g' mk (Value.ref b :: As).toArray, t, U', L, hT, X', hL, e1, e2, hq, st⟩
  · dsimp only [Pt.U, Pt.locs, Pt.cells, Pt.slots] at X' e1 e2 h1 h2 h3 st hcl
    subst h1; subst h2; subst h3
    exact Or.inr ⟨q, (T.setVm vm₁).calling g' mk (Value.ref b :: As).toArray, t, U', L, E, ce, hT, X', hL, e1, e2, hq, hce, hcv, vx_cls hW₁ hcl, st⟩
theorem vx_runSX {hh : List (Nat × Nat × Nat × Nat)} (S : CallFix p m c cc nL s args Ts own) (hM : vx_Met l y ws rm Pc Qc XC mc ms free) (cw : vx_CSW R s args own index y bytes maxL ret hh ws rm mc ms n) (hp : PreS s H Pc As)
    (hg : g.method = m) (hn : As.length = n) (hsize : g.locals.size = nL) (hstack : g.stack = As.reverse ++ rest) (hW : 2 * g.monitorRoom + (rest.map fun v => v.category).sum ≤ 8) (hdg : decode cc g.pc = .ok (.invokestatic index, 3)) (hf : cells + mc ≤ R.cells ∧ slots + ms ≤ R.slots) :
    vx_Run p l e R s m args below meth c H locs cells slots mc ms g rest (Qc As.toArray) XC free := by
  obtain ⟨⟨hrc, hrs, hfr, hlo, hws, hcw⟩, hcode, hini, hy, hlen, hl, hstt⟩ := cw
  have hK : vx_Back l R p e below s args y 3 8 (PreOf R mc ms Pc) (PostOf Qc mc ms free) (vx_Post XC mc ms free) := vx_backW (hh := hh) (bytes := bytes) (maxL := maxL) (ret := ret) hM hp.1 hrc hrs hfr hlo hws hcw (fun a' U hW => word_at hW (Or.inl (by first | rfl | simp [Cond.onTables, Cond.keeps, Cond.steady])) hini)
  obtain ⟨hx, hb, hml, ho, -⟩ := S
  intro T hT X
  rcases vx_callSX X hx (hh := hh) (bytes := bytes) (maxL := maxL) (ret := ret) ho hl hstt hini hcode hy hK hg (hsize.trans hml.symm) (argsL := As) (rest := rest) (fun sig h => hn.trans (hlen sig h)) hstack hW (by rw [hb]; exact hdg)
    (fun vm₁ hW₁ => ⟨hf.1, hf.2, hp.2 (T.setVm vm₁) hT hW₁⟩) with ⟨v, vm₁, ⟨U', l2, c2, s2⟩, hW₁, X', ⟨g', mk, t, L, e1, e2, hq, h1, hL, h2, h3⟩, st⟩ | ⟨q, vm₁, ⟨U', l2, c2, s2⟩, hW₁, X', ⟨g', mk, t, L, E, ce, e1, e2, hq, hce, hcv, hcl, h1, hL, h2, h3⟩, st⟩
  · dsimp only [Pt.U, Pt.locs, Pt.cells, Pt.slots] at X' e1 e2 h1 h2 h3 st
    subst h1; subst h2; subst h3
    exact Or.inl ⟨v, (T.setVm vm₁).calling g' mk As.toArray, t, U', L, hT, X', hL, e1, e2, hq, st⟩
  · dsimp only [Pt.U, Pt.locs, Pt.cells, Pt.slots] at X' e1 e2 h1 h2 h3 st hcl
    subst h1; subst h2; subst h3
    exact Or.inr ⟨q, (T.setVm vm₁).calling g' mk As.toArray, t, U', L, E, ce, hT, X', hL, e1, e2, hq, hce, hcv, vx_cls hW₁ hcl, st⟩
end
end VXH
theorem vx_ofWH {l : Launch} {y : MethodName} {ws ws' : List Cond} {rm : Room} {Pc : Array Value → State → Prop} {Qc : Array Value → State → Outcome → State → Prop} {XC : String → State → State → Prop} {mc ms : Nat} {free : Addr → Prop} {cc : ByteArray} {maxL : Nat} {ret : Option FieldType} {hh : List (Nat × Nat × Nat × Nat)}
    (hy : plainName y.cls = true) (hw : ws = Cond.codeWith y cc maxL ret hh :: ws')
    (body : ∀ p e s m args below meth c s₁, BodyLoose p l y (headSpec ws rm) cc maxL ret e s m args below meth c s₁ → c.maxLocals = maxL → Pc args s →
      W p l e (headSpec ws rm).room s m args below meth c s.heap [] 0 0 (vx_MQ below Qc XC args s mc ms free) (entryFrame m args maxL)) : vx_Met l y ws rm Pc Qc XC mc ms free := by
  refine MetFree.of_bodyS (code := cc) (maxLocals := maxL) (ret := ret) hy ?_ ?_
  · intro args s m h hn
    obtain ⟨m9, meth, c, hn9, h1, h2, h3, h4, -, h5, h6, -⟩ := Cond.codeWith_spec (atoms_spec (ws := ws) h _ (by rw [hw]; exact List.mem_cons_self))
    cases hn.symm.trans hn9
    exact ⟨meth, c, h1, h2, h3, h4, h5, h6⟩
  · intro p e s m args below meth c s₁ B hml hP _
    have hh0 : s₁.heap = s.heap := by rw [B.state]; rfl
    obtain ⟨t, a1, o, b1, b2, b3⟩ := body p e s m args below meth c s₁ B hml hP s₁ hh0 (Stand.of_body B)
    exact ⟨t, o, a1, b1, b2, b3⟩
/-! ===== END ===== -/
end
section
def RX0 : String := "CiteLists$Entry"
def RX1 : String := "CiteLists$Listing"
def RX2 : String := "CiteLists$Person"
def RX3 : String := "CiteLists$Persons"
def RX4 : String := "CiteLists$Row"
def RX5 : String := "CiteLists$Text"
def RX6 : String := "CiteLists"
def RX7 : String := "CiteListsModel"
def RJ0 : String := "java/lang/String"
def RJ1 : String := "java/lang/StringLatin1"
def RJxa1e45 : String := "java/util/AbstractCollection"
def RJxc12de : String := "java/util/AbstractList"
def RJx4a65c : String := "java/util/ArrayList"
def RJ7 : String := "java/util/Arrays"
def RJ15 : String := "java/util/Objects"
def RJ8 : String := "jdk/internal/util/ArraysSupport"
def RJ3 : String := "jdk/internal/util/Preconditions"
def TJx4a65c : u_T := fun k => match k with
  | 0 => ("java/util/AbstractList", "modCount", "I", false)
  | 1 => ("java/util/ArrayList", "elementData", "[Ljava/lang/Object;", false)
  | _ => ("java/util/ArrayList", "size", "I", false)
def tyJx4a65c : Nat → FieldType := fun k => match k with
  | 0 => .int
  | 1 => .array (.object "java/lang/Object")
  | _ => .int
abbrev wsJx4a65c0 : List Cond := u_ws RJx4a65c TJx4a65c 3
theorem nmJx4a65c : ∀ a, a < 3 → ∀ b, b < 3 → a ≠ b → (TJx4a65c a).2.1 ≠ (TJx4a65c b).2.1 := by decide +kernel
theorem tyJx4a65c_ok : ∀ k, k < 3 → parseFieldDescriptor (TJx4a65c k).2.2.1 = some (tyJx4a65c k) := by decide +kernel
def TX0 : u_T := fun k => match k with
  | 0 => ("CiteLists$Entry", "number", "I", true)
  | 1 => ("CiteLists$Entry", "kind", "I", true)
  | 2 => ("CiteLists$Entry", "key", "LCiteLists$Text;", true)
  | 3 => ("CiteLists$Entry", "fields", "[LCiteLists$Text;", true)
  | _ => ("CiteLists$Entry", "crossed", "LCiteLists$Entry;", false)
def tyX0 : Nat → FieldType := fun k => match k with
  | 0 => .int
  | 1 => .int
  | 2 => .object "CiteLists$Text"
  | 3 => .array (.object "CiteLists$Text")
  | _ => .object "CiteLists$Entry"
abbrev wsX00 : List Cond := u_ws RX0 TX0 5
theorem nmX0 : ∀ a, a < 5 → ∀ b, b < 5 → a ≠ b → (TX0 a).2.1 ≠ (TX0 b).2.1 := by decide +kernel
theorem tyX0_ok : ∀ k, k < 5 → parseFieldDescriptor (TX0 k).2.2.1 = some (tyX0 k) := by decide +kernel
def TX1 : u_T := fun k => match k with
  | 0 => ("CiteLists$Listing", "rows", "Ljava/util/ArrayList;", true)
  | 1 => ("CiteLists$Listing", "count", "I", false)
  | 2 => ("CiteLists$Listing", "begun", "Z", false)
  | 3 => ("CiteLists$Listing", "missingEntries", "[I", true)
  | 4 => ("CiteLists$Listing", "missingFields", "[I", true)
  | _ => ("CiteLists$Listing", "missingCount", "I", false)
def tyX1 : Nat → FieldType := fun k => match k with
  | 0 => .object "java/util/ArrayList"
  | 1 => .int
  | 2 => .boolean
  | 3 => .array .int
  | 4 => .array .int
  | _ => .int
abbrev wsX10 : List Cond := u_ws RX1 TX1 6
theorem nmX1 : ∀ a, a < 6 → ∀ b, b < 6 → a ≠ b → (TX1 a).2.1 ≠ (TX1 b).2.1 := by decide +kernel
theorem tyX1_ok : ∀ k, k < 6 → parseFieldDescriptor (TX1 k).2.2.1 = some (tyX1 k) := by decide +kernel
def TX2 : u_T := fun k => match k with
  | 0 => ("CiteLists$Person", "givenFrom", "I", false)
  | 1 => ("CiteLists$Person", "givenTo", "I", false)
  | 2 => ("CiteLists$Person", "particleFrom", "I", false)
  | 3 => ("CiteLists$Person", "familyFrom", "I", false)
  | _ => ("CiteLists$Person", "familyTo", "I", false)
def tyX2 : Nat → FieldType := fun k => match k with
  | 0 => .int
  | 1 => .int
  | 2 => .int
  | 3 => .int
  | _ => .int
abbrev wsX20 : List Cond := u_ws RX2 TX2 5
theorem nmX2 : ∀ a, a < 5 → ∀ b, b < 5 → a ≠ b → (TX2 a).2.1 ≠ (TX2 b).2.1 := by decide +kernel
theorem tyX2_ok : ∀ k, k < 5 → parseFieldDescriptor (TX2 k).2.2.1 = some (tyX2 k) := by decide +kernel
def TX3 : u_T := fun k => match k with
  | 0 => ("CiteLists$Persons", "source", "LCiteLists$Text;", false)
  | 1 => ("CiteLists$Persons", "starts", "[I", true)
  | 2 => ("CiteLists$Persons", "ends", "[I", true)
  | 3 => ("CiteLists$Persons", "wordCount", "I", false)
  | 4 => ("CiteLists$Persons", "people", "Ljava/util/ArrayList;", true)
  | 5 => ("CiteLists$Persons", "nobody", "LCiteLists$Person;", true)
  | _ => ("CiteLists$Persons", "count", "I", false)
def tyX3 : Nat → FieldType := fun k => match k with
  | 0 => .object "CiteLists$Text"
  | 1 => .array .int
  | 2 => .array .int
  | 3 => .int
  | 4 => .object "java/util/ArrayList"
  | 5 => .object "CiteLists$Person"
  | _ => .int
abbrev wsX30 : List Cond := u_ws RX3 TX3 7
theorem nmX3 : ∀ a, a < 7 → ∀ b, b < 7 → a ≠ b → (TX3 a).2.1 ≠ (TX3 b).2.1 := by decide +kernel
theorem tyX3_ok : ∀ k, k < 7 → parseFieldDescriptor (TX3 k).2.2.1 = some (tyX3 k) := by decide +kernel
def TX4 : u_T := fun k => match k with
  | 0 => ("CiteLists$Row", "entry", "LCiteLists$Entry;", false)
  | 1 => ("CiteLists$Row", "persons", "LCiteLists$Persons;", true)
  | 2 => ("CiteLists$Row", "order", "LCiteLists$Text;", true)
  | 3 => ("CiteLists$Row", "family", "LCiteLists$Text;", true)
  | 4 => ("CiteLists$Row", "initialsOfFirst", "LCiteLists$Text;", true)
  | 5 => ("CiteLists$Row", "base", "LCiteLists$Text;", true)
  | 6 => ("CiteLists$Row", "suffix", "I", false)
  | _ => ("CiteLists$Row", "text", "LCiteLists$Text;", true)
def tyX4 : Nat → FieldType := fun k => match k with
  | 0 => .object "CiteLists$Entry"
  | 1 => .object "CiteLists$Persons"
  | 2 => .object "CiteLists$Text"
  | 3 => .object "CiteLists$Text"
  | 4 => .object "CiteLists$Text"
  | 5 => .object "CiteLists$Text"
  | 6 => .int
  | _ => .object "CiteLists$Text"
abbrev wsX40 : List Cond := u_ws RX4 TX4 8
theorem nmX4 : ∀ a, a < 8 → ∀ b, b < 8 → a ≠ b → (TX4 a).2.1 ≠ (TX4 b).2.1 := by decide +kernel
theorem tyX4_ok : ∀ k, k < 8 → parseFieldDescriptor (TX4 k).2.2.1 = some (tyX4 k) := by decide +kernel
def TX5 : u_T := fun k => match k with
  | 0 => ("CiteLists$Text", "signs", "[C", false)
  | _ => ("CiteLists$Text", "length", "I", false)
def tyX5 : Nat → FieldType := fun k => match k with
  | 0 => .array .char
  | _ => .int
abbrev wsX50 : List Cond := u_ws RX5 TX5 2
theorem nmX5 : ∀ a, a < 2 → ∀ b, b < 2 → a ≠ b → (TX5 a).2.1 ≠ (TX5 b).2.1 := by decide +kernel
theorem tyX5_ok : ∀ k, k < 2 → parseFieldDescriptor (TX5 k).2.2.1 = some (tyX5 k) := by decide +kernel
def TX6 : u_T := fun k => match k with
  | 0 => ("CiteLists", "entries", "Ljava/util/ArrayList;", true)
  | 1 => ("CiteLists", "cited", "Ljava/util/ArrayList;", true)
  | 2 => ("CiteLists", "sort", "I", false)
  | 3 => ("CiteLists", "label", "I", false)
  | 4 => ("CiteLists", "listing", "LCiteLists$Listing;", true)
  | 5 => ("CiteLists", "printed", "LCiteLists$Text;", true)
  | 6 => ("CiteLists", "askedPersons", "LCiteLists$Persons;", true)
  | _ => ("CiteLists", "askedInitials", "LCiteLists$Text;", true)
def tyX6 : Nat → FieldType := fun k => match k with
  | 0 => .object "java/util/ArrayList"
  | 1 => .object "java/util/ArrayList"
  | 2 => .int
  | 3 => .int
  | 4 => .object "CiteLists$Listing"
  | 5 => .object "CiteLists$Text"
  | 6 => .object "CiteLists$Persons"
  | _ => .object "CiteLists$Text"
abbrev wsX60 : List Cond := u_ws RX6 TX6 8
theorem nmX6 : ∀ a, a < 8 → ∀ b, b < 8 → a ≠ b → (TX6 a).2.1 ≠ (TX6 b).2.1 := by decide +kernel
theorem tyX6_ok : ∀ k, k < 8 → parseFieldDescriptor (TX6 k).2.2.1 = some (tyX6 k) := by decide +kernel
def TX7 : u_T := fun k => match k with
  | 0 => ("CiteListsModel", "thrown", "I", false)
  | 1 => ("CiteListsModel", "entries", "I", false)
  | 2 => ("CiteListsModel", "kind", "[I", true)
  | 3 => ("CiteListsModel", "keySize", "[I", true)
  | 4 => ("CiteListsModel", "keys", "[I", true)
  | 5 => ("CiteListsModel", "size", "[I", true)
  | 6 => ("CiteListsModel", "fields", "[I", true)
  | 7 => ("CiteListsModel", "crossed", "[I", true)
  | 8 => ("CiteListsModel", "cites", "I", false)
  | 9 => ("CiteListsModel", "firsts", "I", false)
  | 10 => ("CiteListsModel", "firstCited", "[I", true)
  | 11 => ("CiteListsModel", "sort", "I", false)
  | 12 => ("CiteListsModel", "label", "I", false)
  | 13 => ("CiteListsModel", "text", "[I", true)
  | 14 => ("CiteListsModel", "words", "[I", true)
  | 15 => ("CiteListsModel", "from", "[I", true)
  | 16 => ("CiteListsModel", "to", "[I", true)
  | 17 => ("CiteListsModel", "of", "[I", true)
  | 18 => ("CiteListsModel", "part", "[I", true)
  | 19 => ("CiteListsModel", "persons", "[I", true)
  | 20 => ("CiteListsModel", "one", "[I", true)
  | 21 => ("CiteListsModel", "oneSize", "I", false)
  | 22 => ("CiteListsModel", "other", "[I", true)
  | 23 => ("CiteListsModel", "otherSize", "I", false)
  | 24 => ("CiteListsModel", "wasRun", "Z", false)
  | 25 => ("CiteListsModel", "rows", "I", false)
  | 26 => ("CiteListsModel", "row", "[I", true)
  | 27 => ("CiteListsModel", "letters", "[I", true)
  | 28 => ("CiteListsModel", "baseSize", "[I", true)
  | 29 => ("CiteListsModel", "bases", "[I", true)
  | 30 => ("CiteListsModel", "textSize", "[I", true)
  | 31 => ("CiteListsModel", "texts", "[I", true)
  | 32 => ("CiteListsModel", "lacks", "I", false)
  | 33 => ("CiteListsModel", "lackEntry", "[I", true)
  | 34 => ("CiteListsModel", "lackField", "[I", true)
  | 35 => ("CiteListsModel", "printed", "I", false)
  | 36 => ("CiteListsModel", "out", "[I", true)
  | _ => ("CiteListsModel", "begun", "I", false)
def tyX7 : Nat → FieldType := fun k => match k with
  | 0 => .int
  | 1 => .int
  | 2 => .array .int
  | 3 => .array .int
  | 4 => .array .int
  | 5 => .array .int
  | 6 => .array .int
  | 7 => .array .int
  | 8 => .int
  | 9 => .int
  | 10 => .array .int
  | 11 => .int
  | 12 => .int
  | 13 => .array .int
  | 14 => .array .int
  | 15 => .array .int
  | 16 => .array .int
  | 17 => .array .int
  | 18 => .array .int
  | 19 => .array .int
  | 20 => .array .int
  | 21 => .int
  | 22 => .array .int
  | 23 => .int
  | 24 => .boolean
  | 25 => .int
  | 26 => .array .int
  | 27 => .array .int
  | 28 => .array .int
  | 29 => .array .int
  | 30 => .array .int
  | 31 => .array .int
  | 32 => .int
  | 33 => .array .int
  | 34 => .array .int
  | 35 => .int
  | 36 => .array .int
  | _ => .int
abbrev wsX70 : List Cond := u_ws RX7 TX7 38
theorem nmX7 : ∀ a, a < 38 → ∀ b, b < 38 → a ≠ b → (TX7 a).2.1 ≠ (TX7 b).2.1 := by decide +kernel
theorem tyX7_ok : ∀ k, k < 38 → parseFieldDescriptor (TX7 k).2.2.1 = some (tyX7 k) := by decide +kernel
abbrev cX0_init : ByteArray := prog_2_method_1_code
def yX0_init : MethodName := ⟨RX0, "<init>", "(II)V"⟩
abbrev cX0_own : ByteArray := prog_2_method_2_code
def yX0_own : MethodName := ⟨RX0, "own", "(I)LCiteLists$Text;"⟩
abbrev cX0_has : ByteArray := prog_2_method_3_code
def yX0_has : MethodName := ⟨RX0, "has", "(I)Z"⟩
abbrev cX0_value : ByteArray := prog_2_method_4_code
def yX0_value : MethodName := ⟨RX0, "value", "(I)LCiteLists$Text;"⟩
abbrev cX0_leadsTo : ByteArray := prog_2_method_5_code
def yX0_leadsTo : MethodName := ⟨RX0, "leadsTo", "(LCiteLists$Entry;)Z"⟩
abbrev cX1_init : ByteArray := prog_3_method_1_code
def yX1_init : MethodName := ⟨RX1, "<init>", "()V"⟩
abbrev cX1_size : ByteArray := prog_3_method_2_code
def yX1_size : MethodName := ⟨RX1, "size", "()I"⟩
abbrev cX1_get : ByteArray := prog_3_method_3_code
def yX1_get : MethodName := ⟨RX1, "get", "(I)LCiteLists$Row;"⟩
abbrev cX1_begin : ByteArray := prog_3_method_4_code
def yX1_begin : MethodName := ⟨RX1, "begin", "()V"⟩
abbrev cX1_list : ByteArray := prog_3_method_5_code
def yX1_list : MethodName := ⟨RX1, "list", "(LCiteLists$Entry;)V"⟩
abbrev cX1_arrange : ByteArray := prog_3_method_6_code
def yX1_arrange : MethodName := ⟨RX1, "arrange", "(I)V"⟩
abbrev cX1_setBases : ByteArray := prog_3_method_7_code
def yX1_setBases : MethodName := ⟨RX1, "setBases", "(I)V"⟩
abbrev cX1_isMistaken : ByteArray := prog_3_method_8_code
def yX1_isMistaken : MethodName := ⟨RX1, "isMistaken", "(LCiteLists$Row;)Z"⟩
abbrev cX1_setSuffixes : ByteArray := prog_3_method_9_code
def yX1_setSuffixes : MethodName := ⟨RX1, "setSuffixes", "()V"⟩
abbrev cX1_markAlike : ByteArray := prog_3_method_10_code
def yX1_markAlike : MethodName := ⟨RX1, "markAlike", "(I)V"⟩
abbrev cX1_findMissing : ByteArray := prog_3_method_11_code
def yX1_findMissing : MethodName := ⟨RX1, "findMissing", "()V"⟩
abbrev cX2_init : ByteArray := prog_4_method_1_code
def yX2_init : MethodName := ⟨RX2, "<init>", "()V"⟩
abbrev cX2_hasGiven : ByteArray := prog_4_method_2_code
def yX2_hasGiven : MethodName := ⟨RX2, "hasGiven", "()Z"⟩
abbrev cX3_init : ByteArray := prog_5_method_1_code
def yX3_init : MethodName := ⟨RX3, "<init>", "()V"⟩
abbrev cX3_size : ByteArray := prog_5_method_2_code
def yX3_size : MethodName := ⟨RX3, "size", "()I"⟩
abbrev cX3_read : ByteArray := prog_5_method_3_code
def yX3_read : MethodName := ⟨RX3, "read", "(LCiteLists$Text;)V"⟩
abbrev cX3_isAnd : ByteArray := prog_5_method_4_code
def yX3_isAnd : MethodName := ⟨RX3, "isAnd", "(II)Z"⟩
abbrev cX3_readPerson : ByteArray := prog_5_method_5_code
def yX3_readPerson : MethodName := ⟨RX3, "readPerson", "(II)V"⟩
abbrev cX3_readWords : ByteArray := prog_5_method_6_code
def yX3_readWords : MethodName := ⟨RX3, "readWords", "(II)V"⟩
abbrev cX3_nextPerson : ByteArray := prog_5_method_7_code
def yX3_nextPerson : MethodName := ⟨RX3, "nextPerson", "()LCiteLists$Person;"⟩
abbrev cX3_partAtComma : ByteArray := prog_5_method_8_code
def yX3_partAtComma : MethodName := ⟨RX3, "partAtComma", "(LCiteLists$Person;II)V"⟩
abbrev cX3_partAtParticles : ByteArray := prog_5_method_9_code
def yX3_partAtParticles : MethodName := ⟨RX3, "partAtParticles", "(LCiteLists$Person;I)V"⟩
abbrev cX3_beginsSmall : ByteArray := prog_5_method_10_code
def yX3_beginsSmall : MethodName := ⟨RX3, "beginsSmall", "(I)Z"⟩
abbrev cX3_wordStart : ByteArray := prog_5_method_11_code
def yX3_wordStart : MethodName := ⟨RX3, "wordStart", "(I)I"⟩
abbrev cX3_personAt : ByteArray := prog_5_method_12_code
def yX3_personAt : MethodName := ⟨RX3, "personAt", "(I)LCiteLists$Person;"⟩
abbrev cX3_hasGiven : ByteArray := prog_5_method_13_code
def yX3_hasGiven : MethodName := ⟨RX3, "hasGiven", "(I)Z"⟩
abbrev cX3_addName : ByteArray := prog_5_method_14_code
def yX3_addName : MethodName := ⟨RX3, "addName", "(ILCiteLists$Text;)V"⟩
abbrev cX3_addFamily : ByteArray := prog_5_method_15_code
def yX3_addFamily : MethodName := ⟨RX3, "addFamily", "(ILCiteLists$Text;)V"⟩
abbrev cX3_addInitials : ByteArray := prog_5_method_16_code
def yX3_addInitials : MethodName := ⟨RX3, "addInitials", "(ILCiteLists$Text;)V"⟩
abbrev cX3_addWords : ByteArray := prog_5_method_17_code
def yX3_addWords : MethodName := ⟨RX3, "addWords", "(IILCiteLists$Text;)V"⟩
abbrev cX3_addOrder : ByteArray := prog_5_method_18_code
def yX3_addOrder : MethodName := ⟨RX3, "addOrder", "(LCiteLists$Text;)V"⟩
abbrev cX3_addPiece : ByteArray := prog_5_method_19_code
def yX3_addPiece : MethodName := ⟨RX3, "addPiece", "(LCiteLists$Text;)V"⟩
abbrev cX3_addFamilySigns : ByteArray := prog_5_method_20_code
def yX3_addFamilySigns : MethodName := ⟨RX3, "addFamilySigns", "(LCiteLists$Text;)V"⟩
abbrev cX4_init : ByteArray := prog_6_method_1_code
def yX4_init : MethodName := ⟨RX4, "<init>", "(LCiteLists$Entry;)V"⟩
abbrev cX4_tellOf : ByteArray := prog_6_method_2_code
def yX4_tellOf : MethodName := ⟨RX4, "tellOf", "(LCiteLists$Entry;)V"⟩
abbrev cX4_setOrder : ByteArray := prog_6_method_3_code
def yX4_setOrder : MethodName := ⟨RX4, "setOrder", "(I)V"⟩
abbrev cX4_addYearOrder : ByteArray := prog_6_method_4_code
def yX4_addYearOrder : MethodName := ⟨RX4, "addYearOrder", "()V"⟩
abbrev cX4_isMistakenFor : ByteArray := prog_6_method_5_code
def yX4_isMistakenFor : MethodName := ⟨RX4, "isMistakenFor", "(LCiteLists$Row;)Z"⟩
abbrev cX4_setBase : ByteArray := prog_6_method_6_code
def yX4_setBase : MethodName := ⟨RX4, "setBase", "(IZ)V"⟩
abbrev cX4_addShortBase : ByteArray := prog_6_method_7_code
def yX4_addShortBase : MethodName := ⟨RX4, "addShortBase", "()V"⟩
abbrev cX4_addLongBase : ByteArray := prog_6_method_8_code
def yX4_addLongBase : MethodName := ⟨RX4, "addLongBase", "(Z)V"⟩
abbrev cX4_writeText : ByteArray := prog_6_method_9_code
def yX4_writeText : MethodName := ⟨RX4, "writeText", "(II)V"⟩
abbrev cX4_addLabel : ByteArray := prog_6_method_10_code
def yX4_addLabel : MethodName := ⟨RX4, "addLabel", "(II)V"⟩
abbrev cX4_beginPiece : ByteArray := prog_6_method_11_code
def yX4_beginPiece : MethodName := ⟨RX4, "beginPiece", "(I)V"⟩
abbrev cX4_addValuePiece : ByteArray := prog_6_method_12_code
def yX4_addValuePiece : MethodName := ⟨RX4, "addValuePiece", "(ILjava/lang/String;I)V"⟩
abbrev cX4_addSource : ByteArray := prog_6_method_13_code
def yX4_addSource : MethodName := ⟨RX4, "addSource", "(I)V"⟩
abbrev cX4_addPages : ByteArray := prog_6_method_14_code
def yX4_addPages : MethodName := ⟨RX4, "addPages", "(ILjava/lang/String;)V"⟩
abbrev cX5_init : ByteArray := prog_7_method_1_code
def yX5_init : MethodName := ⟨RX5, "<init>", "()V"⟩
abbrev cX5_clear : ByteArray := prog_7_method_2_code
def yX5_clear : MethodName := ⟨RX5, "clear", "()V"⟩
abbrev cX5_size : ByteArray := prog_7_method_3_code
def yX5_size : MethodName := ⟨RX5, "size", "()I"⟩
abbrev cX5_isEmpty : ByteArray := prog_7_method_4_code
def yX5_isEmpty : MethodName := ⟨RX5, "isEmpty", "()Z"⟩
abbrev cX5_signAt : ByteArray := prog_7_method_5_code
def yX5_signAt : MethodName := ⟨RX5, "signAt", "(I)I"⟩
abbrev cX5_addSign : ByteArray := prog_7_method_6_code
def yX5_addSign : MethodName := ⟨RX5, "addSign", "(I)V"⟩
abbrev cX5_cut : ByteArray := prog_7_method_7_code
def yX5_cut : MethodName := ⟨RX5, "cut", "(I)V"⟩
abbrev cX5_addString : ByteArray := prog_7_method_8_code
def yX5_addString : MethodName := ⟨RX5, "addString", "(Ljava/lang/String;)V"⟩
abbrev cX5_addText : ByteArray := prog_7_method_9_code
def yX5_addText : MethodName := ⟨RX5, "addText", "(LCiteLists$Text;)V"⟩
abbrev cX5_addPart : ByteArray := prog_7_method_10_code
def yX5_addPart : MethodName := ⟨RX5, "addPart", "(LCiteLists$Text;II)V"⟩
abbrev cX5_addNumber : ByteArray := prog_7_method_11_code
def yX5_addNumber : MethodName := ⟨RX5, "addNumber", "(I)V"⟩
abbrev cX5_fold : ByteArray := prog_7_method_12_code
def yX5_fold : MethodName := ⟨RX5, "fold", "()V"⟩
abbrev cX5_comparedTo : ByteArray := prog_7_method_13_code
def yX5_comparedTo : MethodName := ⟨RX5, "comparedTo", "(LCiteLists$Text;)I"⟩
abbrev cX5_sameAs : ByteArray := prog_7_method_14_code
def yX5_sameAs : MethodName := ⟨RX5, "sameAs", "(LCiteLists$Text;)Z"⟩
abbrev cX6_init : ByteArray := prog_1_method_1_code
def yX6_init : MethodName := ⟨RX6, "<init>", "()V"⟩
abbrev cX6_entry : ByteArray := prog_1_method_2_code
def yX6_entry : MethodName := ⟨RX6, "entry", "(I)I"⟩
abbrev cX6_key : ByteArray := prog_1_method_3_code
def yX6_key : MethodName := ⟨RX6, "key", "(II)V"⟩
abbrev cX6_field : ByteArray := prog_1_method_4_code
def yX6_field : MethodName := ⟨RX6, "field", "(III)V"⟩
abbrev cX6_cite : ByteArray := prog_1_method_5_code
def yX6_cite : MethodName := ⟨RX6, "cite", "(I)I"⟩
abbrev cX6_cross : ByteArray := prog_1_method_6_code
def yX6_cross : MethodName := ⟨RX6, "cross", "(II)I"⟩
abbrev cX6_style : ByteArray := prog_1_method_7_code
def yX6_style : MethodName := ⟨RX6, "style", "(II)I"⟩
abbrev cX6_run : ByteArray := prog_1_method_8_code
def yX6_run : MethodName := ⟨RX6, "run", "()I"⟩
abbrev cX6_row : ByteArray := prog_1_method_9_code
def yX6_row : MethodName := ⟨RX6, "row", "(I)I"⟩
abbrev cX6_letter : ByteArray := prog_1_method_10_code
def yX6_letter : MethodName := ⟨RX6, "letter", "(I)I"⟩
abbrev cX6_initials : ByteArray := prog_1_method_11_code
def yX6_initials : MethodName := ⟨RX6, "initials", "(III)I"⟩
abbrev cX6_missing : ByteArray := prog_1_method_12_code
def yX6_missing : MethodName := ⟨RX6, "missing", "(II)I"⟩
abbrev cX6_print : ByteArray := prog_1_method_13_code
def yX6_print : MethodName := ⟨RX6, "print", "(I)I"⟩
abbrev cX6_at : ByteArray := prog_1_method_14_code
def yX6_at : MethodName := ⟨RX6, "at", "(I)I"⟩
abbrev cX6_twice : ByteArray := prog_1_method_15_code
def yX6_twice : MethodName := ⟨RX6, "twice", "(I)I"⟩
abbrev cX6_entryNumbered : ByteArray := prog_1_method_16_code
def yX6_entryNumbered : MethodName := ⟨RX6, "entryNumbered", "(I)LCiteLists$Entry;"⟩
abbrev cX6_rowAt : ByteArray := prog_1_method_17_code
def yX6_rowAt : MethodName := ⟨RX6, "rowAt", "(I)LCiteLists$Row;"⟩
abbrev cX6_realOne : ByteArray := prog_1_method_18_code
def yX6_realOne : MethodName := ⟨RX6, "realOne", "(LCiteLists$Entry;)LCiteLists$Entry;"⟩
abbrev cX6_printHead : ByteArray := prog_1_method_19_code
def yX6_printHead : MethodName := ⟨RX6, "printHead", "()V"⟩
abbrev cX6_signOf : ByteArray := prog_1_method_20_code
def yX6_signOf : MethodName := ⟨RX6, "signOf", "(LCiteLists$Text;I)I"⟩
abbrev cX6_addBytes : ByteArray := prog_1_method_21_code
def yX6_addBytes : MethodName := ⟨RX6, "addBytes", "(LCiteLists$Text;II)V"⟩
abbrev cX6_byteOf : ByteArray := prog_1_method_22_code
def yX6_byteOf : MethodName := ⟨RX6, "byteOf", "(II)I"⟩
abbrev cX6_isCharacter : ByteArray := prog_1_method_23_code
def yX6_isCharacter : MethodName := ⟨RX6, "isCharacter", "(I)Z"⟩
abbrev cX6_isSmall : ByteArray := prog_1_method_24_code
def yX6_isSmall : MethodName := ⟨RX6, "isSmall", "(I)Z"⟩
abbrev cX6_folded : ByteArray := prog_1_method_25_code
def yX6_folded : MethodName := ⟨RX6, "folded", "(I)I"⟩
abbrev cX7_init : ByteArray := prog_9_method_1_code
def yX7_init : MethodName := ⟨RX7, "<init>", "()V"⟩
abbrev cX7_thrown : ByteArray := prog_9_method_2_code
def yX7_thrown : MethodName := ⟨RX7, "thrown", "()I"⟩
abbrev cX7_isEntry : ByteArray := prog_9_method_3_code
def yX7_isEntry : MethodName := ⟨RX7, "isEntry", "(I)Z"⟩
abbrev cX7_entry : ByteArray := prog_9_method_4_code
def yX7_entry : MethodName := ⟨RX7, "entry", "(I)I"⟩
abbrev cX7_isCharacter : ByteArray := prog_9_method_5_code
def yX7_isCharacter : MethodName := ⟨RX7, "isCharacter", "(I)Z"⟩
abbrev cX7_countOf : ByteArray := prog_9_method_6_code
def yX7_countOf : MethodName := ⟨RX7, "countOf", "(I)I"⟩
abbrev cX7_addTo : ByteArray := prog_9_method_7_code
def yX7_addTo : MethodName := ⟨RX7, "addTo", "([III)V"⟩
abbrev cX7_key : ByteArray := prog_9_method_8_code
def yX7_key : MethodName := ⟨RX7, "key", "(II)V"⟩
abbrev cX7_field : ByteArray := prog_9_method_9_code
def yX7_field : MethodName := ⟨RX7, "field", "(III)V"⟩
abbrev cX7_cite : ByteArray := prog_9_method_10_code
def yX7_cite : MethodName := ⟨RX7, "cite", "(I)I"⟩
abbrev cX7_cross : ByteArray := prog_9_method_11_code
def yX7_cross : MethodName := ⟨RX7, "cross", "(II)I"⟩
abbrev cX7_style : ByteArray := prog_9_method_12_code
def yX7_style : MethodName := ⟨RX7, "style", "(II)I"⟩
abbrev cX7_value : ByteArray := prog_9_method_13_code
def yX7_value : MethodName := ⟨RX7, "value", "(II)I"⟩
abbrev cX7_real : ByteArray := prog_9_method_14_code
def yX7_real : MethodName := ⟨RX7, "real", "(I)I"⟩
abbrev cX7_fold : ByteArray := prog_9_method_15_code
def yX7_fold : MethodName := ⟨RX7, "fold", "(I)I"⟩
abbrev cX7_isSmall : ByteArray := prog_9_method_16_code
def yX7_isSmall : MethodName := ⟨RX7, "isSmall", "(I)Z"⟩
abbrev cX7_startsSmall : ByteArray := prog_9_method_17_code
def yX7_startsSmall : MethodName := ⟨RX7, "startsSmall", "(I)Z"⟩
abbrev cX7_addWord : ByteArray := prog_9_method_18_code
def yX7_addWord : MethodName := ⟨RX7, "addWord", "(III)V"⟩
abbrev cX7_endPerson : ByteArray := prog_9_method_19_code
def yX7_endPerson : MethodName := ⟨RX7, "endPerson", "(III)V"⟩
abbrev cX7_read : ByteArray := prog_9_method_20_code
def yX7_read : MethodName := ⟨RX7, "read", "(II)V"⟩
abbrev cX7_put : ByteArray := prog_9_method_21_code
def yX7_put : MethodName := ⟨RX7, "put", "(I)V"⟩
abbrev cX7_say : ByteArray := prog_9_method_22_code
def yX7_say : MethodName := ⟨RX7, "say", "(J)V"⟩
abbrev cX7_putField : ByteArray := prog_9_method_23_code
def yX7_putField : MethodName := ⟨RX7, "putField", "(I)V"⟩
abbrev cX7_putKey : ByteArray := prog_9_method_24_code
def yX7_putKey : MethodName := ⟨RX7, "putKey", "(II)V"⟩
abbrev cX7_putWords : ByteArray := prog_9_method_25_code
def yX7_putWords : MethodName := ⟨RX7, "putWords", "(IIII)V"⟩
abbrev cX7_has : ByteArray := prog_9_method_26_code
def yX7_has : MethodName := ⟨RX7, "has", "(III)Z"⟩
abbrev cX7_putName : ByteArray := prog_9_method_27_code
def yX7_putName : MethodName := ⟨RX7, "putName", "(II)V"⟩
abbrev cX7_putInitials : ByteArray := prog_9_method_28_code
def yX7_putInitials : MethodName := ⟨RX7, "putInitials", "(II)V"⟩
abbrev cX7_turn : ByteArray := prog_9_method_29_code
def yX7_turn : MethodName := ⟨RX7, "turn", "()V"⟩
abbrev cX7_order : ByteArray := prog_9_method_30_code
def yX7_order : MethodName := ⟨RX7, "order", "(Z)I"⟩
abbrev cX7_orderOfPart : ByteArray := prog_9_method_31_code
def yX7_orderOfPart : MethodName := ⟨RX7, "orderOfPart", "(II)I"⟩
abbrev cX7_orderOfPersons : ByteArray := prog_9_method_32_code
def yX7_orderOfPersons : MethodName := ⟨RX7, "orderOfPersons", "(II)I"⟩
abbrev cX7_orderOfField : ByteArray := prog_9_method_33_code
def yX7_orderOfField : MethodName := ⟨RX7, "orderOfField", "(III)I"⟩
abbrev cX7_orderOf : ByteArray := prog_9_method_34_code
def yX7_orderOf : MethodName := ⟨RX7, "orderOf", "(II)I"⟩
abbrev cX7_list : ByteArray := prog_9_method_35_code
def yX7_list : MethodName := ⟨RX7, "list", "()V"⟩
abbrev cX7_isAlike : ByteArray := prog_9_method_36_code
def yX7_isAlike : MethodName := ⟨RX7, "isAlike", "(I)Z"⟩
abbrev cX7_makeShort : ByteArray := prog_9_method_37_code
def yX7_makeShort : MethodName := ⟨RX7, "makeShort", "(I)V"⟩
abbrev cX7_makeLong : ByteArray := prog_9_method_38_code
def yX7_makeLong : MethodName := ⟨RX7, "makeLong", "(IZ)V"⟩
abbrev cX7_makeBase : ByteArray := prog_9_method_39_code
def yX7_makeBase : MethodName := ⟨RX7, "makeBase", "(I)V"⟩
abbrev cX7_isSameBase : ByteArray := prog_9_method_40_code
def yX7_isSameBase : MethodName := ⟨RX7, "isSameBase", "(II)Z"⟩
abbrev cX7_setLetters : ByteArray := prog_9_method_41_code
def yX7_setLetters : MethodName := ⟨RX7, "setLetters", "()V"⟩
abbrev cX7_nextPiece : ByteArray := prog_9_method_42_code
def yX7_nextPiece : MethodName := ⟨RX7, "nextPiece", "()V"⟩
abbrev cX7_putFull : ByteArray := prog_9_method_43_code
def yX7_putFull : MethodName := ⟨RX7, "putFull", "(I)V"⟩
abbrev cX7_piecePersons : ByteArray := prog_9_method_44_code
def yX7_piecePersons : MethodName := ⟨RX7, "piecePersons", "(I)V"⟩
abbrev cX7_pieceField : ByteArray := prog_9_method_45_code
def yX7_pieceField : MethodName := ⟨RX7, "pieceField", "(I)V"⟩
abbrev cX7_pieceThird : ByteArray := prog_9_method_46_code
def yX7_pieceThird : MethodName := ⟨RX7, "pieceThird", "(I)V"⟩
abbrev cX7_putNumber : ByteArray := prog_9_method_47_code
def yX7_putNumber : MethodName := ⟨RX7, "putNumber", "(I)V"⟩
abbrev cX7_makeText : ByteArray := prog_9_method_48_code
def yX7_makeText : MethodName := ⟨RX7, "makeText", "(I)V"⟩
abbrev cX7_want : ByteArray := prog_9_method_49_code
def yX7_want : MethodName := ⟨RX7, "want", "(II)V"⟩
abbrev cX7_lookWhatLacks : ByteArray := prog_9_method_50_code
def yX7_lookWhatLacks : MethodName := ⟨RX7, "lookWhatLacks", "(I)V"⟩
abbrev cX7_run : ByteArray := prog_9_method_51_code
def yX7_run : MethodName := ⟨RX7, "run", "()I"⟩
abbrev cX7_isRow : ByteArray := prog_9_method_52_code
def yX7_isRow : MethodName := ⟨RX7, "isRow", "(I)Z"⟩
abbrev cX7_row : ByteArray := prog_9_method_53_code
def yX7_row : MethodName := ⟨RX7, "row", "(I)I"⟩
abbrev cX7_letter : ByteArray := prog_9_method_54_code
def yX7_letter : MethodName := ⟨RX7, "letter", "(I)I"⟩
abbrev cX7_initials : ByteArray := prog_9_method_55_code
def yX7_initials : MethodName := ⟨RX7, "initials", "(III)I"⟩
abbrev cX7_missing : ByteArray := prog_9_method_56_code
def yX7_missing : MethodName := ⟨RX7, "missing", "(II)I"⟩
abbrev cX7_print : ByteArray := prog_9_method_57_code
def yX7_print : MethodName := ⟨RX7, "print", "(I)I"⟩
abbrev cX7_at : ByteArray := prog_9_method_58_code
def yX7_at : MethodName := ⟨RX7, "at", "(I)I"⟩
abbrev cX7_twice : ByteArray := prog_9_method_59_code
def yX7_twice : MethodName := ⟨RX7, "twice", "(I)I"⟩
abbrev cJ0_length_8abf5 : ByteArray := prog_20_method_54_code
def yJ0_length_8abf5 : MethodName := ⟨RJ0, "length", "()I"⟩
abbrev cJ0_charAt_5068e : ByteArray := prog_20_method_56_code
def yJ0_charAt_5068e : MethodName := ⟨RJ0, "charAt", "(I)C"⟩
abbrev cJ0_coder_7d493 : ByteArray := prog_20_method_152_code
def yJ0_coder_7d493 : MethodName := ⟨RJ0, "coder", "()B"⟩
abbrev cJ0_isLatin1_aae02 : ByteArray := prog_20_method_154_code
def yJ0_isLatin1_aae02 : MethodName := ⟨RJ0, "isLatin1", "()Z"⟩
abbrev cJ0_checkIndex_df160 : ByteArray := prog_20_method_155_code
def yJ0_checkIndex_df160 : MethodName := ⟨RJ0, "checkIndex", "(II)V"⟩
abbrev cJ1_charAt_3b067 : ByteArray := prog_21_method_2_code
def yJ1_charAt_3b067 : MethodName := ⟨RJ1, "charAt", "([BI)C"⟩
abbrev cJxa1e45_init_da8c8 : ByteArray := prog_28_method_1_code
def yJxa1e45_init_da8c8 : MethodName := ⟨RJxa1e45, "<init>", "()V"⟩
abbrev cJxc12de_init_da8c8 : ByteArray := prog_29_method_1_code
def yJxc12de_init_da8c8 : MethodName := ⟨RJxc12de, "<init>", "()V"⟩
abbrev cJx4a65c_init_da8c8 : ByteArray := prog_30_method_2_code
def yJx4a65c_init_da8c8 : MethodName := ⟨RJx4a65c, "<init>", "()V"⟩
abbrev cJx4a65c_grow_92f84 : ByteArray := prog_30_method_6_code
def yJx4a65c_grow_92f84 : MethodName := ⟨RJx4a65c, "grow", "(I)[Ljava/lang/Object;"⟩
abbrev cJx4a65c_grow_d5877 : ByteArray := prog_30_method_7_code
def yJx4a65c_grow_d5877 : MethodName := ⟨RJx4a65c, "grow", "()[Ljava/lang/Object;"⟩
abbrev cJx4a65c_size_8abf5 : ByteArray := prog_30_method_8_code
def yJx4a65c_size_8abf5 : MethodName := ⟨RJx4a65c, "size", "()I"⟩
abbrev cJx4a65c_elementData_915e3 : ByteArray := prog_30_method_18_code
def yJx4a65c_elementData_915e3 : MethodName := ⟨RJx4a65c, "elementData", "(I)Ljava/lang/Object;"⟩
abbrev cJx4a65c_get_915e3 : ByteArray := prog_30_method_20_code
def yJx4a65c_get_915e3 : MethodName := ⟨RJx4a65c, "get", "(I)Ljava/lang/Object;"⟩
abbrev cJx4a65c_set_bcc79 : ByteArray := prog_30_method_23_code
def yJx4a65c_set_bcc79 : MethodName := ⟨RJx4a65c, "set", "(ILjava/lang/Object;)Ljava/lang/Object;"⟩
abbrev cJx4a65c_add_72be8 : ByteArray := prog_30_method_24_code
def yJx4a65c_add_72be8 : MethodName := ⟨RJx4a65c, "add", "(Ljava/lang/Object;[Ljava/lang/Object;I)V"⟩
abbrev cJx4a65c_add_9ea2d : ByteArray := prog_30_method_25_code
def yJx4a65c_add_9ea2d : MethodName := ⟨RJx4a65c, "add", "(Ljava/lang/Object;)Z"⟩
abbrev cJ7_copyOf_1904c : ByteArray := prog_31_method_119_code
def yJ7_copyOf_1904c : MethodName := ⟨RJ7, "copyOf", "([Ljava/lang/Object;I)[Ljava/lang/Object;"⟩
abbrev cJ7_copyOf_6403c : ByteArray := prog_31_method_120_code
def yJ7_copyOf_6403c : MethodName := ⟨RJ7, "copyOf", "([Ljava/lang/Object;ILjava/lang/Class;)[Ljava/lang/Object;"⟩
abbrev cJ15_checkIndex_7cf53 : ByteArray := prog_35_method_17_code
def yJ15_checkIndex_7cf53 : MethodName := ⟨RJ15, "checkIndex", "(II)I"⟩
abbrev cJ8_newLength_cabcc : ByteArray := prog_38_method_27_code
def yJ8_newLength_cabcc : MethodName := ⟨RJ8, "newLength", "(III)I"⟩
abbrev cJ3_checkIndex_8e157 : ByteArray := prog_39_method_11_code
def yJ3_checkIndex_8e157 : MethodName := ⟨RJ3, "checkIndex", "(IILjava/util/function/BiFunction;)I"⟩
end
section
theorem dX0_init_0 : decode cX0_init 0 = .ok (.aload_n 0, 1) := by decide +kernel
theorem dX0_init_1 : decode cX0_init 1 = .ok (.invokespecial 3, 3) := by decide +kernel
theorem dX0_init_4 : decode cX0_init 4 = .ok (.aload_n 0, 1) := by decide +kernel
theorem dX0_init_5 : decode cX0_init 5 = .ok (.new 9, 3) := by decide +kernel
theorem dX0_init_8 : decode cX0_init 8 = .ok (.dup, 1) := by decide +kernel
theorem dX0_init_9 : decode cX0_init 9 = .ok (.invokespecial 11, 3) := by decide +kernel
theorem dX0_init_12 : decode cX0_init 12 = .ok (.putfield 12, 3) := by decide +kernel
theorem dX0_init_15 : decode cX0_init 15 = .ok (.aload_n 0, 1) := by decide +kernel
theorem dX0_init_16 : decode cX0_init 16 = .ok (.bipush 8, 2) := by decide +kernel
theorem dX0_init_18 : decode cX0_init 18 = .ok (.anewarray 9, 3) := by decide +kernel
theorem dX0_init_21 : decode cX0_init 21 = .ok (.putfield 18, 3) := by decide +kernel
theorem dX0_init_24 : decode cX0_init 24 = .ok (.aload_n 0, 1) := by decide +kernel
theorem dX0_init_25 : decode cX0_init 25 = .ok (.aconst_null, 1) := by decide +kernel
theorem dX0_init_26 : decode cX0_init 26 = .ok (.putfield 22, 3) := by decide +kernel
theorem dX0_init_29 : decode cX0_init 29 = .ok (.aload_n 0, 1) := by decide +kernel
theorem dX0_init_30 : decode cX0_init 30 = .ok (.iload_n 1, 1) := by decide +kernel
theorem dX0_init_31 : decode cX0_init 31 = .ok (.putfield 26, 3) := by decide +kernel
theorem dX0_init_34 : decode cX0_init 34 = .ok (.aload_n 0, 1) := by decide +kernel
theorem dX0_init_35 : decode cX0_init 35 = .ok (.iload_n 2, 1) := by decide +kernel
theorem dX0_init_36 : decode cX0_init 36 = .ok (.ifCond .lt 8, 3) := by decide +kernel
theorem dX0_init_39 : decode cX0_init 39 = .ok (.iload_n 2, 1) := by decide +kernel
theorem dX0_init_40 : decode cX0_init 40 = .ok (.iconst 4, 1) := by decide +kernel
theorem dX0_init_41 : decode cX0_init 41 = .ok (.if_icmp .le 7, 3) := by decide +kernel
theorem dX0_init_44 : decode cX0_init 44 = .ok (.iconst 4, 1) := by decide +kernel
theorem dX0_init_45 : decode cX0_init 45 = .ok (.goto 4, 3) := by decide +kernel
theorem dX0_init_48 : decode cX0_init 48 = .ok (.iload_n 2, 1) := by decide +kernel
theorem dX0_init_49 : decode cX0_init 49 = .ok (.putfield 30, 3) := by decide +kernel
theorem dX0_init_52 : decode cX0_init 52 = .ok (.iconst 0, 1) := by decide +kernel
theorem dX0_init_53 : decode cX0_init 53 = .ok (.istore_n 3, 1) := by decide +kernel
theorem dX0_init_54 : decode cX0_init 54 = .ok (.iload_n 3, 1) := by decide +kernel
theorem dX0_init_55 : decode cX0_init 55 = .ok (.bipush 8, 2) := by decide +kernel
theorem dX0_init_57 : decode cX0_init 57 = .ok (.if_icmp .ge 22, 3) := by decide +kernel
theorem dX0_init_60 : decode cX0_init 60 = .ok (.aload_n 0, 1) := by decide +kernel
theorem dX0_init_61 : decode cX0_init 61 = .ok (.getfield 18, 3) := by decide +kernel
theorem dX0_init_64 : decode cX0_init 64 = .ok (.iload_n 3, 1) := by decide +kernel
theorem dX0_init_65 : decode cX0_init 65 = .ok (.new 9, 3) := by decide +kernel
theorem dX0_init_68 : decode cX0_init 68 = .ok (.dup, 1) := by decide +kernel
theorem dX0_init_69 : decode cX0_init 69 = .ok (.invokespecial 11, 3) := by decide +kernel
theorem dX0_init_72 : decode cX0_init 72 = .ok (.aastore, 1) := by decide +kernel
theorem dX0_init_73 : decode cX0_init 73 = .ok (.iinc 3 1, 3) := by decide +kernel
theorem dX0_init_76 : decode cX0_init 76 = .ok (.goto (-22), 3) := by decide +kernel
theorem dX0_init_79 : decode cX0_init 79 = .ok (.return_, 1) := by decide +kernel
theorem dX0_own_0 : decode cX0_own 0 = .ok (.aload_n 0, 1) := by decide +kernel
theorem dX0_own_1 : decode cX0_own 1 = .ok (.getfield 18, 3) := by decide +kernel
theorem dX0_own_4 : decode cX0_own 4 = .ok (.iload_n 1, 1) := by decide +kernel
theorem dX0_own_5 : decode cX0_own 5 = .ok (.bipush 7, 2) := by decide +kernel
theorem dX0_own_7 : decode cX0_own 7 = .ok (.iand, 1) := by decide +kernel
theorem dX0_own_8 : decode cX0_own 8 = .ok (.aaload, 1) := by decide +kernel
theorem dX0_own_9 : decode cX0_own 9 = .ok (.areturn, 1) := by decide +kernel
theorem dX0_has_0 : decode cX0_has 0 = .ok (.aload_n 0, 1) := by decide +kernel
theorem dX0_has_1 : decode cX0_has 1 = .ok (.iload_n 1, 1) := by decide +kernel
theorem dX0_has_2 : decode cX0_has 2 = .ok (.invokevirtual 33, 3) := by decide +kernel
theorem dX0_has_5 : decode cX0_has 5 = .ok (.invokevirtual 37, 3) := by decide +kernel
theorem dX0_has_8 : decode cX0_has 8 = .ok (.ifCond .ne 7, 3) := by decide +kernel
theorem dX0_has_11 : decode cX0_has 11 = .ok (.iconst 1, 1) := by decide +kernel
theorem dX0_has_12 : decode cX0_has 12 = .ok (.goto 4, 3) := by decide +kernel
theorem dX0_has_15 : decode cX0_has 15 = .ok (.iconst 0, 1) := by decide +kernel
theorem dX0_has_16 : decode cX0_has 16 = .ok (.ireturn, 1) := by decide +kernel
theorem dX0_value_0 : decode cX0_value 0 = .ok (.aload_n 0, 1) := by decide +kernel
theorem dX0_value_1 : decode cX0_value 1 = .ok (.iload_n 1, 1) := by decide +kernel
theorem dX0_value_2 : decode cX0_value 2 = .ok (.invokevirtual 41, 3) := by decide +kernel
theorem dX0_value_5 : decode cX0_value 5 = .ok (.astore_n 2, 1) := by decide +kernel
theorem dX0_value_6 : decode cX0_value 6 = .ok (.aload_n 0, 1) := by decide +kernel
theorem dX0_value_7 : decode cX0_value 7 = .ok (.getfield 22, 3) := by decide +kernel
theorem dX0_value_10 : decode cX0_value 10 = .ok (.astore_n 3, 1) := by decide +kernel
theorem dX0_value_11 : decode cX0_value 11 = .ok (.iconst 0, 1) := by decide +kernel
theorem dX0_value_12 : decode cX0_value 12 = .ok (.istore 4, 2) := by decide +kernel
theorem dX0_value_14 : decode cX0_value 14 = .ok (.iload 4, 2) := by decide +kernel
theorem dX0_value_16 : decode cX0_value 16 = .ok (.bipush 24, 2) := by decide +kernel
theorem dX0_value_18 : decode cX0_value 18 = .ok (.if_icmp .ge 72, 3) := by decide +kernel
theorem dX0_value_21 : decode cX0_value 21 = .ok (.iload_n 1, 1) := by decide +kernel
theorem dX0_value_22 : decode cX0_value 22 = .ok (.iconst 1, 1) := by decide +kernel
theorem dX0_value_23 : decode cX0_value 23 = .ok (.if_icmp .eq 67, 3) := by decide +kernel
theorem dX0_value_26 : decode cX0_value 26 = .ok (.aload_n 3, 1) := by decide +kernel
theorem dX0_value_27 : decode cX0_value 27 = .ok (.ifnull 63, 3) := by decide +kernel
theorem dX0_value_30 : decode cX0_value 30 = .ok (.aload_n 2, 1) := by decide +kernel
theorem dX0_value_31 : decode cX0_value 31 = .ok (.invokevirtual 37, 3) := by decide +kernel
theorem dX0_value_34 : decode cX0_value 34 = .ok (.ifCond .ne 6, 3) := by decide +kernel
theorem dX0_value_37 : decode cX0_value 37 = .ok (.goto 53, 3) := by decide +kernel
theorem dX0_value_40 : decode cX0_value 40 = .ok (.iload_n 1, 1) := by decide +kernel
theorem dX0_value_41 : decode cX0_value 41 = .ok (.bipush 6, 2) := by decide +kernel
theorem dX0_value_43 : decode cX0_value 43 = .ok (.if_icmp .ne 18, 3) := by decide +kernel
theorem dX0_value_46 : decode cX0_value 46 = .ok (.aload_n 3, 1) := by decide +kernel
theorem dX0_value_47 : decode cX0_value 47 = .ok (.iconst 1, 1) := by decide +kernel
theorem dX0_value_48 : decode cX0_value 48 = .ok (.invokevirtual 41, 3) := by decide +kernel
theorem dX0_value_51 : decode cX0_value 51 = .ok (.invokevirtual 37, 3) := by decide +kernel
theorem dX0_value_54 : decode cX0_value 54 = .ok (.ifCond .ne 7, 3) := by decide +kernel
theorem dX0_value_57 : decode cX0_value 57 = .ok (.iconst 1, 1) := by decide +kernel
theorem dX0_value_58 : decode cX0_value 58 = .ok (.goto 4, 3) := by decide +kernel
theorem dX0_value_61 : decode cX0_value 61 = .ok (.iconst 0, 1) := by decide +kernel
theorem dX0_value_62 : decode cX0_value 62 = .ok (.istore 5, 2) := by decide +kernel
theorem dX0_value_64 : decode cX0_value 64 = .ok (.aload_n 3, 1) := by decide +kernel
theorem dX0_value_65 : decode cX0_value 65 = .ok (.iload 5, 2) := by decide +kernel
theorem dX0_value_67 : decode cX0_value 67 = .ok (.ifCond .eq 7, 3) := by decide +kernel
theorem dX0_value_70 : decode cX0_value 70 = .ok (.iconst 1, 1) := by decide +kernel
theorem dX0_value_71 : decode cX0_value 71 = .ok (.goto 4, 3) := by decide +kernel
theorem dX0_value_74 : decode cX0_value 74 = .ok (.iload_n 1, 1) := by decide +kernel
theorem dX0_value_75 : decode cX0_value 75 = .ok (.invokevirtual 41, 3) := by decide +kernel
theorem dX0_value_78 : decode cX0_value 78 = .ok (.astore_n 2, 1) := by decide +kernel
theorem dX0_value_79 : decode cX0_value 79 = .ok (.aload_n 3, 1) := by decide +kernel
theorem dX0_value_80 : decode cX0_value 80 = .ok (.getfield 22, 3) := by decide +kernel
theorem dX0_value_83 : decode cX0_value 83 = .ok (.astore_n 3, 1) := by decide +kernel
theorem dX0_value_84 : decode cX0_value 84 = .ok (.iinc 4 1, 3) := by decide +kernel
theorem dX0_value_87 : decode cX0_value 87 = .ok (.goto (-73), 3) := by decide +kernel
theorem dX0_value_90 : decode cX0_value 90 = .ok (.aload_n 2, 1) := by decide +kernel
theorem dX0_value_91 : decode cX0_value 91 = .ok (.areturn, 1) := by decide +kernel
theorem dX0_leadsTo_0 : decode cX0_leadsTo 0 = .ok (.aload_n 0, 1) := by decide +kernel
theorem dX0_leadsTo_1 : decode cX0_leadsTo 1 = .ok (.astore_n 2, 1) := by decide +kernel
theorem dX0_leadsTo_2 : decode cX0_leadsTo 2 = .ok (.iconst 0, 1) := by decide +kernel
theorem dX0_leadsTo_3 : decode cX0_leadsTo 3 = .ok (.istore_n 3, 1) := by decide +kernel
theorem dX0_leadsTo_4 : decode cX0_leadsTo 4 = .ok (.iload_n 3, 1) := by decide +kernel
theorem dX0_leadsTo_5 : decode cX0_leadsTo 5 = .ok (.bipush 24, 2) := by decide +kernel
theorem dX0_leadsTo_7 : decode cX0_leadsTo 7 = .ok (.if_icmp .ge 25, 3) := by decide +kernel
theorem dX0_leadsTo_10 : decode cX0_leadsTo 10 = .ok (.aload_n 2, 1) := by decide +kernel
theorem dX0_leadsTo_11 : decode cX0_leadsTo 11 = .ok (.ifnull 21, 3) := by decide +kernel
theorem dX0_leadsTo_14 : decode cX0_leadsTo 14 = .ok (.aload_n 2, 1) := by decide +kernel
theorem dX0_leadsTo_15 : decode cX0_leadsTo 15 = .ok (.aload_n 1, 1) := by decide +kernel
theorem dX0_leadsTo_16 : decode cX0_leadsTo 16 = .ok (.if_acmp .ne 5, 3) := by decide +kernel
theorem dX0_leadsTo_19 : decode cX0_leadsTo 19 = .ok (.iconst 1, 1) := by decide +kernel
theorem dX0_leadsTo_20 : decode cX0_leadsTo 20 = .ok (.ireturn, 1) := by decide +kernel
theorem dX0_leadsTo_21 : decode cX0_leadsTo 21 = .ok (.aload_n 2, 1) := by decide +kernel
theorem dX0_leadsTo_22 : decode cX0_leadsTo 22 = .ok (.getfield 22, 3) := by decide +kernel
theorem dX0_leadsTo_25 : decode cX0_leadsTo 25 = .ok (.astore_n 2, 1) := by decide +kernel
theorem dX0_leadsTo_26 : decode cX0_leadsTo 26 = .ok (.iinc 3 1, 3) := by decide +kernel
theorem dX0_leadsTo_29 : decode cX0_leadsTo 29 = .ok (.goto (-25), 3) := by decide +kernel
theorem dX0_leadsTo_32 : decode cX0_leadsTo 32 = .ok (.iconst 0, 1) := by decide +kernel
theorem dX0_leadsTo_33 : decode cX0_leadsTo 33 = .ok (.ireturn, 1) := by decide +kernel
theorem dX1_init_0 : decode cX1_init 0 = .ok (.aload_n 0, 1) := by decide +kernel
theorem dX1_init_1 : decode cX1_init 1 = .ok (.invokespecial 3, 3) := by decide +kernel
theorem dX1_init_4 : decode cX1_init 4 = .ok (.aload_n 0, 1) := by decide +kernel
theorem dX1_init_5 : decode cX1_init 5 = .ok (.new 9, 3) := by decide +kernel
theorem dX1_init_8 : decode cX1_init 8 = .ok (.dup, 1) := by decide +kernel
theorem dX1_init_9 : decode cX1_init 9 = .ok (.invokespecial 11, 3) := by decide +kernel
theorem dX1_init_12 : decode cX1_init 12 = .ok (.putfield 12, 3) := by decide +kernel
theorem dX1_init_15 : decode cX1_init 15 = .ok (.aload_n 0, 1) := by decide +kernel
theorem dX1_init_16 : decode cX1_init 16 = .ok (.iconst 0, 1) := by decide +kernel
theorem dX1_init_17 : decode cX1_init 17 = .ok (.putfield 18, 3) := by decide +kernel
theorem dX1_init_20 : decode cX1_init 20 = .ok (.aload_n 0, 1) := by decide +kernel
theorem dX1_init_21 : decode cX1_init 21 = .ok (.iconst 0, 1) := by decide +kernel
theorem dX1_init_22 : decode cX1_init 22 = .ok (.putfield 22, 3) := by decide +kernel
theorem dX1_init_25 : decode cX1_init 25 = .ok (.aload_n 0, 1) := by decide +kernel
theorem dX1_init_26 : decode cX1_init 26 = .ok (.bipush 96, 2) := by decide +kernel
theorem dX1_init_28 : decode cX1_init 28 = .ok (.newarray .int, 2) := by decide +kernel
theorem dX1_init_30 : decode cX1_init 30 = .ok (.putfield 26, 3) := by decide +kernel
theorem dX1_init_33 : decode cX1_init 33 = .ok (.aload_n 0, 1) := by decide +kernel
theorem dX1_init_34 : decode cX1_init 34 = .ok (.bipush 96, 2) := by decide +kernel
theorem dX1_init_36 : decode cX1_init 36 = .ok (.newarray .int, 2) := by decide +kernel
theorem dX1_init_38 : decode cX1_init 38 = .ok (.putfield 30, 3) := by decide +kernel
theorem dX1_init_41 : decode cX1_init 41 = .ok (.aload_n 0, 1) := by decide +kernel
theorem dX1_init_42 : decode cX1_init 42 = .ok (.iconst 0, 1) := by decide +kernel
theorem dX1_init_43 : decode cX1_init 43 = .ok (.putfield 33, 3) := by decide +kernel
theorem dX1_init_46 : decode cX1_init 46 = .ok (.return_, 1) := by decide +kernel
theorem dX1_size_0 : decode cX1_size 0 = .ok (.aload_n 0, 1) := by decide +kernel
theorem dX1_size_1 : decode cX1_size 1 = .ok (.getfield 18, 3) := by decide +kernel
theorem dX1_size_4 : decode cX1_size 4 = .ok (.ireturn, 1) := by decide +kernel
theorem dX1_get_0 : decode cX1_get 0 = .ok (.aload_n 0, 1) := by decide +kernel
theorem dX1_get_1 : decode cX1_get 1 = .ok (.getfield 12, 3) := by decide +kernel
theorem dX1_get_4 : decode cX1_get 4 = .ok (.iload_n 1, 1) := by decide +kernel
theorem dX1_get_5 : decode cX1_get 5 = .ok (.invokevirtual 36, 3) := by decide +kernel
theorem dX1_get_8 : decode cX1_get 8 = .ok (.checkcast 40, 3) := by decide +kernel
theorem dX1_get_11 : decode cX1_get 11 = .ok (.areturn, 1) := by decide +kernel
theorem dX1_begin_0 : decode cX1_begin 0 = .ok (.aload_n 0, 1) := by decide +kernel
theorem dX1_begin_1 : decode cX1_begin 1 = .ok (.iconst 1, 1) := by decide +kernel
theorem dX1_begin_2 : decode cX1_begin 2 = .ok (.putfield 22, 3) := by decide +kernel
theorem dX1_begin_5 : decode cX1_begin 5 = .ok (.aload_n 0, 1) := by decide +kernel
theorem dX1_begin_6 : decode cX1_begin 6 = .ok (.iconst 0, 1) := by decide +kernel
theorem dX1_begin_7 : decode cX1_begin 7 = .ok (.putfield 18, 3) := by decide +kernel
theorem dX1_begin_10 : decode cX1_begin 10 = .ok (.return_, 1) := by decide +kernel
theorem dX1_list_0 : decode cX1_list 0 = .ok (.iconst 0, 1) := by decide +kernel
theorem dX1_list_1 : decode cX1_list 1 = .ok (.istore_n 2, 1) := by decide +kernel
theorem dX1_list_2 : decode cX1_list 2 = .ok (.iload_n 2, 1) := by decide +kernel
theorem dX1_list_3 : decode cX1_list 3 = .ok (.aload_n 0, 1) := by decide +kernel
theorem dX1_list_4 : decode cX1_list 4 = .ok (.getfield 18, 3) := by decide +kernel
theorem dX1_list_7 : decode cX1_list 7 = .ok (.if_icmp .ge 28, 3) := by decide +kernel
theorem dX1_list_10 : decode cX1_list 10 = .ok (.aload_n 0, 1) := by decide +kernel
theorem dX1_list_11 : decode cX1_list 11 = .ok (.getfield 12, 3) := by decide +kernel
theorem dX1_list_14 : decode cX1_list 14 = .ok (.iload_n 2, 1) := by decide +kernel
theorem dX1_list_15 : decode cX1_list 15 = .ok (.invokevirtual 36, 3) := by decide +kernel
theorem dX1_list_18 : decode cX1_list 18 = .ok (.checkcast 40, 3) := by decide +kernel
theorem dX1_list_21 : decode cX1_list 21 = .ok (.getfield 42, 3) := by decide +kernel
theorem dX1_list_24 : decode cX1_list 24 = .ok (.aload_n 1, 1) := by decide +kernel
theorem dX1_list_25 : decode cX1_list 25 = .ok (.if_acmp .ne 4, 3) := by decide +kernel
theorem dX1_list_28 : decode cX1_list 28 = .ok (.return_, 1) := by decide +kernel
theorem dX1_list_29 : decode cX1_list 29 = .ok (.iinc 2 1, 3) := by decide +kernel
theorem dX1_list_32 : decode cX1_list 32 = .ok (.goto (-30), 3) := by decide +kernel
theorem dX1_list_35 : decode cX1_list 35 = .ok (.aload_n 0, 1) := by decide +kernel
theorem dX1_list_36 : decode cX1_list 36 = .ok (.getfield 18, 3) := by decide +kernel
theorem dX1_list_39 : decode cX1_list 39 = .ok (.aload_n 0, 1) := by decide +kernel
theorem dX1_list_40 : decode cX1_list 40 = .ok (.getfield 12, 3) := by decide +kernel
theorem dX1_list_43 : decode cX1_list 43 = .ok (.invokevirtual 46, 3) := by decide +kernel
theorem dX1_list_46 : decode cX1_list 46 = .ok (.if_icmp .lt 19, 3) := by decide +kernel
theorem dX1_list_49 : decode cX1_list 49 = .ok (.aload_n 0, 1) := by decide +kernel
theorem dX1_list_50 : decode cX1_list 50 = .ok (.getfield 12, 3) := by decide +kernel
theorem dX1_list_53 : decode cX1_list 53 = .ok (.new 40, 3) := by decide +kernel
theorem dX1_list_56 : decode cX1_list 56 = .ok (.dup, 1) := by decide +kernel
theorem dX1_list_57 : decode cX1_list 57 = .ok (.aload_n 1, 1) := by decide +kernel
theorem dX1_list_58 : decode cX1_list 58 = .ok (.invokespecial 50, 3) := by decide +kernel
theorem dX1_list_61 : decode cX1_list 61 = .ok (.invokevirtual 53, 3) := by decide +kernel
theorem dX1_list_64 : decode cX1_list 64 = .ok (.pop, 1) := by decide +kernel
theorem dX1_list_65 : decode cX1_list 65 = .ok (.aload_n 0, 1) := by decide +kernel
theorem dX1_list_66 : decode cX1_list 66 = .ok (.getfield 12, 3) := by decide +kernel
theorem dX1_list_69 : decode cX1_list 69 = .ok (.aload_n 0, 1) := by decide +kernel
theorem dX1_list_70 : decode cX1_list 70 = .ok (.getfield 18, 3) := by decide +kernel
theorem dX1_list_73 : decode cX1_list 73 = .ok (.invokevirtual 36, 3) := by decide +kernel
theorem dX1_list_76 : decode cX1_list 76 = .ok (.checkcast 40, 3) := by decide +kernel
theorem dX1_list_79 : decode cX1_list 79 = .ok (.aload_n 1, 1) := by decide +kernel
theorem dX1_list_80 : decode cX1_list 80 = .ok (.invokevirtual 57, 3) := by decide +kernel
theorem dX1_list_83 : decode cX1_list 83 = .ok (.aload_n 0, 1) := by decide +kernel
theorem dX1_list_84 : decode cX1_list 84 = .ok (.dup, 1) := by decide +kernel
theorem dX1_list_85 : decode cX1_list 85 = .ok (.getfield 18, 3) := by decide +kernel
theorem dX1_list_88 : decode cX1_list 88 = .ok (.iconst 1, 1) := by decide +kernel
theorem dX1_list_89 : decode cX1_list 89 = .ok (.iadd, 1) := by decide +kernel
theorem dX1_list_90 : decode cX1_list 90 = .ok (.putfield 18, 3) := by decide +kernel
theorem dX1_list_93 : decode cX1_list 93 = .ok (.return_, 1) := by decide +kernel
theorem dX1_arrange_0 : decode cX1_arrange 0 = .ok (.iload_n 1, 1) := by decide +kernel
theorem dX1_arrange_1 : decode cX1_arrange 1 = .ok (.ifCond .ne 4, 3) := by decide +kernel
theorem dX1_arrange_4 : decode cX1_arrange 4 = .ok (.return_, 1) := by decide +kernel
theorem dX1_arrange_5 : decode cX1_arrange 5 = .ok (.iconst 0, 1) := by decide +kernel
theorem dX1_arrange_6 : decode cX1_arrange 6 = .ok (.istore_n 2, 1) := by decide +kernel
theorem dX1_arrange_7 : decode cX1_arrange 7 = .ok (.iload_n 2, 1) := by decide +kernel
theorem dX1_arrange_8 : decode cX1_arrange 8 = .ok (.aload_n 0, 1) := by decide +kernel
theorem dX1_arrange_9 : decode cX1_arrange 9 = .ok (.getfield 18, 3) := by decide +kernel
theorem dX1_arrange_12 : decode cX1_arrange 12 = .ok (.if_icmp .ge 102, 3) := by decide +kernel
theorem dX1_arrange_15 : decode cX1_arrange 15 = .ok (.aload_n 0, 1) := by decide +kernel
theorem dX1_arrange_16 : decode cX1_arrange 16 = .ok (.getfield 12, 3) := by decide +kernel
theorem dX1_arrange_19 : decode cX1_arrange 19 = .ok (.iload_n 2, 1) := by decide +kernel
theorem dX1_arrange_20 : decode cX1_arrange 20 = .ok (.invokevirtual 36, 3) := by decide +kernel
theorem dX1_arrange_23 : decode cX1_arrange 23 = .ok (.checkcast 40, 3) := by decide +kernel
theorem dX1_arrange_26 : decode cX1_arrange 26 = .ok (.astore_n 3, 1) := by decide +kernel
theorem dX1_arrange_27 : decode cX1_arrange 27 = .ok (.aload_n 3, 1) := by decide +kernel
theorem dX1_arrange_28 : decode cX1_arrange 28 = .ok (.iload_n 1, 1) := by decide +kernel
theorem dX1_arrange_29 : decode cX1_arrange 29 = .ok (.invokevirtual 60, 3) := by decide +kernel
theorem dX1_arrange_32 : decode cX1_arrange 32 = .ok (.iload_n 2, 1) := by decide +kernel
theorem dX1_arrange_33 : decode cX1_arrange 33 = .ok (.istore 4, 2) := by decide +kernel
theorem dX1_arrange_35 : decode cX1_arrange 35 = .ok (.iload 4, 2) := by decide +kernel
theorem dX1_arrange_37 : decode cX1_arrange 37 = .ok (.ifCond .le 60, 3) := by decide +kernel
theorem dX1_arrange_40 : decode cX1_arrange 40 = .ok (.aload_n 0, 1) := by decide +kernel
theorem dX1_arrange_41 : decode cX1_arrange 41 = .ok (.getfield 12, 3) := by decide +kernel
theorem dX1_arrange_44 : decode cX1_arrange 44 = .ok (.iload 4, 2) := by decide +kernel
theorem dX1_arrange_46 : decode cX1_arrange 46 = .ok (.iconst 1, 1) := by decide +kernel
theorem dX1_arrange_47 : decode cX1_arrange 47 = .ok (.isub, 1) := by decide +kernel
theorem dX1_arrange_48 : decode cX1_arrange 48 = .ok (.invokevirtual 36, 3) := by decide +kernel
theorem dX1_arrange_51 : decode cX1_arrange 51 = .ok (.checkcast 40, 3) := by decide +kernel
theorem dX1_arrange_54 : decode cX1_arrange 54 = .ok (.getfield 64, 3) := by decide +kernel
theorem dX1_arrange_57 : decode cX1_arrange 57 = .ok (.aload_n 3, 1) := by decide +kernel
theorem dX1_arrange_58 : decode cX1_arrange 58 = .ok (.getfield 64, 3) := by decide +kernel
theorem dX1_arrange_61 : decode cX1_arrange 61 = .ok (.invokevirtual 68, 3) := by decide +kernel
theorem dX1_arrange_64 : decode cX1_arrange 64 = .ok (.ifCond .le 33, 3) := by decide +kernel
theorem dX1_arrange_67 : decode cX1_arrange 67 = .ok (.aload_n 0, 1) := by decide +kernel
theorem dX1_arrange_68 : decode cX1_arrange 68 = .ok (.getfield 12, 3) := by decide +kernel
theorem dX1_arrange_71 : decode cX1_arrange 71 = .ok (.iload 4, 2) := by decide +kernel
theorem dX1_arrange_73 : decode cX1_arrange 73 = .ok (.aload_n 0, 1) := by decide +kernel
theorem dX1_arrange_74 : decode cX1_arrange 74 = .ok (.getfield 12, 3) := by decide +kernel
theorem dX1_arrange_77 : decode cX1_arrange 77 = .ok (.iload 4, 2) := by decide +kernel
theorem dX1_arrange_79 : decode cX1_arrange 79 = .ok (.iconst 1, 1) := by decide +kernel
theorem dX1_arrange_80 : decode cX1_arrange 80 = .ok (.isub, 1) := by decide +kernel
theorem dX1_arrange_81 : decode cX1_arrange 81 = .ok (.invokevirtual 36, 3) := by decide +kernel
theorem dX1_arrange_84 : decode cX1_arrange 84 = .ok (.checkcast 40, 3) := by decide +kernel
theorem dX1_arrange_87 : decode cX1_arrange 87 = .ok (.invokevirtual 74, 3) := by decide +kernel
theorem dX1_arrange_90 : decode cX1_arrange 90 = .ok (.pop, 1) := by decide +kernel
theorem dX1_arrange_91 : decode cX1_arrange 91 = .ok (.iinc 4 (-1), 3) := by decide +kernel
theorem dX1_arrange_94 : decode cX1_arrange 94 = .ok (.goto (-59), 3) := by decide +kernel
theorem dX1_arrange_97 : decode cX1_arrange 97 = .ok (.aload_n 0, 1) := by decide +kernel
theorem dX1_arrange_98 : decode cX1_arrange 98 = .ok (.getfield 12, 3) := by decide +kernel
theorem dX1_arrange_101 : decode cX1_arrange 101 = .ok (.iload 4, 2) := by decide +kernel
theorem dX1_arrange_103 : decode cX1_arrange 103 = .ok (.aload_n 3, 1) := by decide +kernel
theorem dX1_arrange_104 : decode cX1_arrange 104 = .ok (.invokevirtual 74, 3) := by decide +kernel
theorem dX1_arrange_107 : decode cX1_arrange 107 = .ok (.pop, 1) := by decide +kernel
theorem dX1_arrange_108 : decode cX1_arrange 108 = .ok (.iinc 2 1, 3) := by decide +kernel
theorem dX1_arrange_111 : decode cX1_arrange 111 = .ok (.goto (-104), 3) := by decide +kernel
theorem dX1_arrange_114 : decode cX1_arrange 114 = .ok (.return_, 1) := by decide +kernel
theorem dX1_setBases_0 : decode cX1_setBases 0 = .ok (.iconst 0, 1) := by decide +kernel
theorem dX1_setBases_1 : decode cX1_setBases 1 = .ok (.istore_n 2, 1) := by decide +kernel
theorem dX1_setBases_2 : decode cX1_setBases 2 = .ok (.iload_n 2, 1) := by decide +kernel
theorem dX1_setBases_3 : decode cX1_setBases 3 = .ok (.aload_n 0, 1) := by decide +kernel
theorem dX1_setBases_4 : decode cX1_setBases 4 = .ok (.getfield 18, 3) := by decide +kernel
theorem dX1_setBases_7 : decode cX1_setBases 7 = .ok (.if_icmp .ge 39, 3) := by decide +kernel
theorem dX1_setBases_10 : decode cX1_setBases 10 = .ok (.aload_n 0, 1) := by decide +kernel
theorem dX1_setBases_11 : decode cX1_setBases 11 = .ok (.getfield 12, 3) := by decide +kernel
theorem dX1_setBases_14 : decode cX1_setBases 14 = .ok (.iload_n 2, 1) := by decide +kernel
theorem dX1_setBases_15 : decode cX1_setBases 15 = .ok (.invokevirtual 36, 3) := by decide +kernel
theorem dX1_setBases_18 : decode cX1_setBases 18 = .ok (.checkcast 40, 3) := by decide +kernel
theorem dX1_setBases_21 : decode cX1_setBases 21 = .ok (.iload_n 1, 1) := by decide +kernel
theorem dX1_setBases_22 : decode cX1_setBases 22 = .ok (.aload_n 0, 1) := by decide +kernel
theorem dX1_setBases_23 : decode cX1_setBases 23 = .ok (.aload_n 0, 1) := by decide +kernel
theorem dX1_setBases_24 : decode cX1_setBases 24 = .ok (.getfield 12, 3) := by decide +kernel
theorem dX1_setBases_27 : decode cX1_setBases 27 = .ok (.iload_n 2, 1) := by decide +kernel
theorem dX1_setBases_28 : decode cX1_setBases 28 = .ok (.invokevirtual 36, 3) := by decide +kernel
theorem dX1_setBases_31 : decode cX1_setBases 31 = .ok (.checkcast 40, 3) := by decide +kernel
theorem dX1_setBases_34 : decode cX1_setBases 34 = .ok (.invokevirtual 78, 3) := by decide +kernel
theorem dX1_setBases_37 : decode cX1_setBases 37 = .ok (.invokevirtual 82, 3) := by decide +kernel
theorem dX1_setBases_40 : decode cX1_setBases 40 = .ok (.iinc 2 1, 3) := by decide +kernel
theorem dX1_setBases_43 : decode cX1_setBases 43 = .ok (.goto (-41), 3) := by decide +kernel
theorem dX1_setBases_46 : decode cX1_setBases 46 = .ok (.return_, 1) := by decide +kernel
theorem dX1_isMistaken_0 : decode cX1_isMistaken 0 = .ok (.iconst 0, 1) := by decide +kernel
theorem dX1_isMistaken_1 : decode cX1_isMistaken 1 = .ok (.istore_n 2, 1) := by decide +kernel
theorem dX1_isMistaken_2 : decode cX1_isMistaken 2 = .ok (.iload_n 2, 1) := by decide +kernel
theorem dX1_isMistaken_3 : decode cX1_isMistaken 3 = .ok (.aload_n 0, 1) := by decide +kernel
theorem dX1_isMistaken_4 : decode cX1_isMistaken 4 = .ok (.getfield 18, 3) := by decide +kernel
theorem dX1_isMistaken_7 : decode cX1_isMistaken 7 = .ok (.if_icmp .ge 29, 3) := by decide +kernel
theorem dX1_isMistaken_10 : decode cX1_isMistaken 10 = .ok (.aload_n 1, 1) := by decide +kernel
theorem dX1_isMistaken_11 : decode cX1_isMistaken 11 = .ok (.aload_n 0, 1) := by decide +kernel
theorem dX1_isMistaken_12 : decode cX1_isMistaken 12 = .ok (.getfield 12, 3) := by decide +kernel
theorem dX1_isMistaken_15 : decode cX1_isMistaken 15 = .ok (.iload_n 2, 1) := by decide +kernel
theorem dX1_isMistaken_16 : decode cX1_isMistaken 16 = .ok (.invokevirtual 36, 3) := by decide +kernel
theorem dX1_isMistaken_19 : decode cX1_isMistaken 19 = .ok (.checkcast 40, 3) := by decide +kernel
theorem dX1_isMistaken_22 : decode cX1_isMistaken 22 = .ok (.invokevirtual 86, 3) := by decide +kernel
theorem dX1_isMistaken_25 : decode cX1_isMistaken 25 = .ok (.ifCond .eq 5, 3) := by decide +kernel
theorem dX1_isMistaken_28 : decode cX1_isMistaken 28 = .ok (.iconst 1, 1) := by decide +kernel
theorem dX1_isMistaken_29 : decode cX1_isMistaken 29 = .ok (.ireturn, 1) := by decide +kernel
theorem dX1_isMistaken_30 : decode cX1_isMistaken 30 = .ok (.iinc 2 1, 3) := by decide +kernel
theorem dX1_isMistaken_33 : decode cX1_isMistaken 33 = .ok (.goto (-31), 3) := by decide +kernel
theorem dX1_isMistaken_36 : decode cX1_isMistaken 36 = .ok (.iconst 0, 1) := by decide +kernel
theorem dX1_isMistaken_37 : decode cX1_isMistaken 37 = .ok (.ireturn, 1) := by decide +kernel
theorem dX1_setSuffixes_0 : decode cX1_setSuffixes 0 = .ok (.iconst 0, 1) := by decide +kernel
theorem dX1_setSuffixes_1 : decode cX1_setSuffixes 1 = .ok (.istore_n 1, 1) := by decide +kernel
theorem dX1_setSuffixes_2 : decode cX1_setSuffixes 2 = .ok (.iload_n 1, 1) := by decide +kernel
theorem dX1_setSuffixes_3 : decode cX1_setSuffixes 3 = .ok (.aload_n 0, 1) := by decide +kernel
theorem dX1_setSuffixes_4 : decode cX1_setSuffixes 4 = .ok (.getfield 18, 3) := by decide +kernel
theorem dX1_setSuffixes_7 : decode cX1_setSuffixes 7 = .ok (.if_icmp .ge 24, 3) := by decide +kernel
theorem dX1_setSuffixes_10 : decode cX1_setSuffixes 10 = .ok (.aload_n 0, 1) := by decide +kernel
theorem dX1_setSuffixes_11 : decode cX1_setSuffixes 11 = .ok (.getfield 12, 3) := by decide +kernel
theorem dX1_setSuffixes_14 : decode cX1_setSuffixes 14 = .ok (.iload_n 1, 1) := by decide +kernel
theorem dX1_setSuffixes_15 : decode cX1_setSuffixes 15 = .ok (.invokevirtual 36, 3) := by decide +kernel
theorem dX1_setSuffixes_18 : decode cX1_setSuffixes 18 = .ok (.checkcast 40, 3) := by decide +kernel
theorem dX1_setSuffixes_21 : decode cX1_setSuffixes 21 = .ok (.iconst 0, 1) := by decide +kernel
theorem dX1_setSuffixes_22 : decode cX1_setSuffixes 22 = .ok (.putfield 89, 3) := by decide +kernel
theorem dX1_setSuffixes_25 : decode cX1_setSuffixes 25 = .ok (.iinc 1 1, 3) := by decide +kernel
theorem dX1_setSuffixes_28 : decode cX1_setSuffixes 28 = .ok (.goto (-26), 3) := by decide +kernel
theorem dX1_setSuffixes_31 : decode cX1_setSuffixes 31 = .ok (.iconst 0, 1) := by decide +kernel
theorem dX1_setSuffixes_32 : decode cX1_setSuffixes 32 = .ok (.istore_n 1, 1) := by decide +kernel
theorem dX1_setSuffixes_33 : decode cX1_setSuffixes 33 = .ok (.iload_n 1, 1) := by decide +kernel
theorem dX1_setSuffixes_34 : decode cX1_setSuffixes 34 = .ok (.aload_n 0, 1) := by decide +kernel
theorem dX1_setSuffixes_35 : decode cX1_setSuffixes 35 = .ok (.getfield 18, 3) := by decide +kernel
theorem dX1_setSuffixes_38 : decode cX1_setSuffixes 38 = .ok (.if_icmp .ge 51, 3) := by decide +kernel
theorem dX1_setSuffixes_41 : decode cX1_setSuffixes 41 = .ok (.aload_n 0, 1) := by decide +kernel
theorem dX1_setSuffixes_42 : decode cX1_setSuffixes 42 = .ok (.getfield 12, 3) := by decide +kernel
theorem dX1_setSuffixes_45 : decode cX1_setSuffixes 45 = .ok (.iload_n 1, 1) := by decide +kernel
theorem dX1_setSuffixes_46 : decode cX1_setSuffixes 46 = .ok (.invokevirtual 36, 3) := by decide +kernel
theorem dX1_setSuffixes_49 : decode cX1_setSuffixes 49 = .ok (.checkcast 40, 3) := by decide +kernel
theorem dX1_setSuffixes_52 : decode cX1_setSuffixes 52 = .ok (.getfield 89, 3) := by decide +kernel
theorem dX1_setSuffixes_55 : decode cX1_setSuffixes 55 = .ok (.ifCond .ne 28, 3) := by decide +kernel
theorem dX1_setSuffixes_58 : decode cX1_setSuffixes 58 = .ok (.aload_n 0, 1) := by decide +kernel
theorem dX1_setSuffixes_59 : decode cX1_setSuffixes 59 = .ok (.getfield 12, 3) := by decide +kernel
theorem dX1_setSuffixes_62 : decode cX1_setSuffixes 62 = .ok (.iload_n 1, 1) := by decide +kernel
theorem dX1_setSuffixes_63 : decode cX1_setSuffixes 63 = .ok (.invokevirtual 36, 3) := by decide +kernel
theorem dX1_setSuffixes_66 : decode cX1_setSuffixes 66 = .ok (.checkcast 40, 3) := by decide +kernel
theorem dX1_setSuffixes_69 : decode cX1_setSuffixes 69 = .ok (.getfield 92, 3) := by decide +kernel
theorem dX1_setSuffixes_72 : decode cX1_setSuffixes 72 = .ok (.invokevirtual 95, 3) := by decide +kernel
theorem dX1_setSuffixes_75 : decode cX1_setSuffixes 75 = .ok (.ifCond .ne 8, 3) := by decide +kernel
theorem dX1_setSuffixes_78 : decode cX1_setSuffixes 78 = .ok (.aload_n 0, 1) := by decide +kernel
theorem dX1_setSuffixes_79 : decode cX1_setSuffixes 79 = .ok (.iload_n 1, 1) := by decide +kernel
theorem dX1_setSuffixes_80 : decode cX1_setSuffixes 80 = .ok (.invokevirtual 99, 3) := by decide +kernel
theorem dX1_setSuffixes_83 : decode cX1_setSuffixes 83 = .ok (.iinc 1 1, 3) := by decide +kernel
theorem dX1_setSuffixes_86 : decode cX1_setSuffixes 86 = .ok (.goto (-53), 3) := by decide +kernel
theorem dX1_setSuffixes_89 : decode cX1_setSuffixes 89 = .ok (.return_, 1) := by decide +kernel
theorem dX1_markAlike_0 : decode cX1_markAlike 0 = .ok (.aload_n 0, 1) := by decide +kernel
theorem dX1_markAlike_1 : decode cX1_markAlike 1 = .ok (.getfield 12, 3) := by decide +kernel
theorem dX1_markAlike_4 : decode cX1_markAlike 4 = .ok (.iload_n 1, 1) := by decide +kernel
theorem dX1_markAlike_5 : decode cX1_markAlike 5 = .ok (.invokevirtual 36, 3) := by decide +kernel
theorem dX1_markAlike_8 : decode cX1_markAlike 8 = .ok (.checkcast 40, 3) := by decide +kernel
theorem dX1_markAlike_11 : decode cX1_markAlike 11 = .ok (.astore_n 2, 1) := by decide +kernel
theorem dX1_markAlike_12 : decode cX1_markAlike 12 = .ok (.iconst 1, 1) := by decide +kernel
theorem dX1_markAlike_13 : decode cX1_markAlike 13 = .ok (.istore_n 3, 1) := by decide +kernel
theorem dX1_markAlike_14 : decode cX1_markAlike 14 = .ok (.iload_n 1, 1) := by decide +kernel
theorem dX1_markAlike_15 : decode cX1_markAlike 15 = .ok (.iconst 1, 1) := by decide +kernel
theorem dX1_markAlike_16 : decode cX1_markAlike 16 = .ok (.iadd, 1) := by decide +kernel
theorem dX1_markAlike_17 : decode cX1_markAlike 17 = .ok (.istore 4, 2) := by decide +kernel
theorem dX1_markAlike_19 : decode cX1_markAlike 19 = .ok (.iload 4, 2) := by decide +kernel
theorem dX1_markAlike_21 : decode cX1_markAlike 21 = .ok (.aload_n 0, 1) := by decide +kernel
theorem dX1_markAlike_22 : decode cX1_markAlike 22 = .ok (.getfield 18, 3) := by decide +kernel
theorem dX1_markAlike_25 : decode cX1_markAlike 25 = .ok (.if_icmp .ge 58, 3) := by decide +kernel
theorem dX1_markAlike_28 : decode cX1_markAlike 28 = .ok (.aload_n 0, 1) := by decide +kernel
theorem dX1_markAlike_29 : decode cX1_markAlike 29 = .ok (.getfield 12, 3) := by decide +kernel
theorem dX1_markAlike_32 : decode cX1_markAlike 32 = .ok (.iload 4, 2) := by decide +kernel
theorem dX1_markAlike_34 : decode cX1_markAlike 34 = .ok (.invokevirtual 36, 3) := by decide +kernel
theorem dX1_markAlike_37 : decode cX1_markAlike 37 = .ok (.checkcast 40, 3) := by decide +kernel
theorem dX1_markAlike_40 : decode cX1_markAlike 40 = .ok (.getfield 92, 3) := by decide +kernel
theorem dX1_markAlike_43 : decode cX1_markAlike 43 = .ok (.aload_n 2, 1) := by decide +kernel
theorem dX1_markAlike_44 : decode cX1_markAlike 44 = .ok (.getfield 92, 3) := by decide +kernel
theorem dX1_markAlike_47 : decode cX1_markAlike 47 = .ok (.invokevirtual 102, 3) := by decide +kernel
theorem dX1_markAlike_50 : decode cX1_markAlike 50 = .ok (.ifCond .eq 27, 3) := by decide +kernel
theorem dX1_markAlike_53 : decode cX1_markAlike 53 = .ok (.aload_n 2, 1) := by decide +kernel
theorem dX1_markAlike_54 : decode cX1_markAlike 54 = .ok (.iconst 1, 1) := by decide +kernel
theorem dX1_markAlike_55 : decode cX1_markAlike 55 = .ok (.putfield 89, 3) := by decide +kernel
theorem dX1_markAlike_58 : decode cX1_markAlike 58 = .ok (.iinc 3 1, 3) := by decide +kernel
theorem dX1_markAlike_61 : decode cX1_markAlike 61 = .ok (.aload_n 0, 1) := by decide +kernel
theorem dX1_markAlike_62 : decode cX1_markAlike 62 = .ok (.getfield 12, 3) := by decide +kernel
theorem dX1_markAlike_65 : decode cX1_markAlike 65 = .ok (.iload 4, 2) := by decide +kernel
theorem dX1_markAlike_67 : decode cX1_markAlike 67 = .ok (.invokevirtual 36, 3) := by decide +kernel
theorem dX1_markAlike_70 : decode cX1_markAlike 70 = .ok (.checkcast 40, 3) := by decide +kernel
theorem dX1_markAlike_73 : decode cX1_markAlike 73 = .ok (.iload_n 3, 1) := by decide +kernel
theorem dX1_markAlike_74 : decode cX1_markAlike 74 = .ok (.putfield 89, 3) := by decide +kernel
theorem dX1_markAlike_77 : decode cX1_markAlike 77 = .ok (.iinc 4 1, 3) := by decide +kernel
theorem dX1_markAlike_80 : decode cX1_markAlike 80 = .ok (.goto (-61), 3) := by decide +kernel
theorem dX1_markAlike_83 : decode cX1_markAlike 83 = .ok (.return_, 1) := by decide +kernel
theorem dX1_findMissing_0 : decode cX1_findMissing 0 = .ok (.aload_n 0, 1) := by decide +kernel
theorem dX1_findMissing_1 : decode cX1_findMissing 1 = .ok (.iconst 0, 1) := by decide +kernel
theorem dX1_findMissing_2 : decode cX1_findMissing 2 = .ok (.putfield 33, 3) := by decide +kernel
theorem dX1_findMissing_5 : decode cX1_findMissing 5 = .ok (.iconst 0, 1) := by decide +kernel
theorem dX1_findMissing_6 : decode cX1_findMissing 6 = .ok (.istore_n 1, 1) := by decide +kernel
theorem dX1_findMissing_7 : decode cX1_findMissing 7 = .ok (.iload_n 1, 1) := by decide +kernel
theorem dX1_findMissing_8 : decode cX1_findMissing 8 = .ok (.aload_n 0, 1) := by decide +kernel
theorem dX1_findMissing_9 : decode cX1_findMissing 9 = .ok (.getfield 18, 3) := by decide +kernel
theorem dX1_findMissing_12 : decode cX1_findMissing 12 = .ok (.if_icmp .ge 108, 3) := by decide +kernel
theorem dX1_findMissing_15 : decode cX1_findMissing 15 = .ok (.aload_n 0, 1) := by decide +kernel
theorem dX1_findMissing_16 : decode cX1_findMissing 16 = .ok (.getfield 12, 3) := by decide +kernel
theorem dX1_findMissing_19 : decode cX1_findMissing 19 = .ok (.iload_n 1, 1) := by decide +kernel
theorem dX1_findMissing_20 : decode cX1_findMissing 20 = .ok (.invokevirtual 36, 3) := by decide +kernel
theorem dX1_findMissing_23 : decode cX1_findMissing 23 = .ok (.checkcast 40, 3) := by decide +kernel
theorem dX1_findMissing_26 : decode cX1_findMissing 26 = .ok (.getfield 42, 3) := by decide +kernel
theorem dX1_findMissing_29 : decode cX1_findMissing 29 = .ok (.astore_n 2, 1) := by decide +kernel
theorem dX1_findMissing_30 : decode cX1_findMissing 30 = .ok (.iconst 0, 1) := by decide +kernel
theorem dX1_findMissing_31 : decode cX1_findMissing 31 = .ok (.istore_n 3, 1) := by decide +kernel
theorem dX1_findMissing_32 : decode cX1_findMissing 32 = .ok (.iload_n 3, 1) := by decide +kernel
theorem dX1_findMissing_33 : decode cX1_findMissing 33 = .ok (.iconst 4, 1) := by decide +kernel
theorem dX1_findMissing_34 : decode cX1_findMissing 34 = .ok (.if_icmp .ge 80, 3) := by decide +kernel
theorem dX1_findMissing_37 : decode cX1_findMissing 37 = .ok (.getstatic 106, 3) := by decide +kernel
theorem dX1_findMissing_40 : decode cX1_findMissing 40 = .ok (.aload_n 2, 1) := by decide +kernel
theorem dX1_findMissing_41 : decode cX1_findMissing 41 = .ok (.getfield 109, 3) := by decide +kernel
theorem dX1_findMissing_44 : decode cX1_findMissing 44 = .ok (.iconst 4, 1) := by decide +kernel
theorem dX1_findMissing_45 : decode cX1_findMissing 45 = .ok (.imul, 1) := by decide +kernel
theorem dX1_findMissing_46 : decode cX1_findMissing 46 = .ok (.iload_n 3, 1) := by decide +kernel
theorem dX1_findMissing_47 : decode cX1_findMissing 47 = .ok (.iadd, 1) := by decide +kernel
theorem dX1_findMissing_48 : decode cX1_findMissing 48 = .ok (.iaload, 1) := by decide +kernel
theorem dX1_findMissing_49 : decode cX1_findMissing 49 = .ok (.istore 4, 2) := by decide +kernel
theorem dX1_findMissing_51 : decode cX1_findMissing 51 = .ok (.iload 4, 2) := by decide +kernel
theorem dX1_findMissing_53 : decode cX1_findMissing 53 = .ok (.ifCond .lt 55, 3) := by decide +kernel
theorem dX1_findMissing_56 : decode cX1_findMissing 56 = .ok (.aload_n 2, 1) := by decide +kernel
theorem dX1_findMissing_57 : decode cX1_findMissing 57 = .ok (.iload 4, 2) := by decide +kernel
theorem dX1_findMissing_59 : decode cX1_findMissing 59 = .ok (.invokevirtual 114, 3) := by decide +kernel
theorem dX1_findMissing_62 : decode cX1_findMissing 62 = .ok (.ifCond .ne 46, 3) := by decide +kernel
theorem dX1_findMissing_65 : decode cX1_findMissing 65 = .ok (.aload_n 0, 1) := by decide +kernel
theorem dX1_findMissing_66 : decode cX1_findMissing 66 = .ok (.getfield 33, 3) := by decide +kernel
theorem dX1_findMissing_69 : decode cX1_findMissing 69 = .ok (.bipush 96, 2) := by decide +kernel
theorem dX1_findMissing_71 : decode cX1_findMissing 71 = .ok (.if_icmp .ge 37, 3) := by decide +kernel
theorem dX1_findMissing_74 : decode cX1_findMissing 74 = .ok (.aload_n 0, 1) := by decide +kernel
theorem dX1_findMissing_75 : decode cX1_findMissing 75 = .ok (.getfield 26, 3) := by decide +kernel
theorem dX1_findMissing_78 : decode cX1_findMissing 78 = .ok (.aload_n 0, 1) := by decide +kernel
theorem dX1_findMissing_79 : decode cX1_findMissing 79 = .ok (.getfield 33, 3) := by decide +kernel
theorem dX1_findMissing_82 : decode cX1_findMissing 82 = .ok (.aload_n 2, 1) := by decide +kernel
theorem dX1_findMissing_83 : decode cX1_findMissing 83 = .ok (.getfield 118, 3) := by decide +kernel
theorem dX1_findMissing_86 : decode cX1_findMissing 86 = .ok (.iastore, 1) := by decide +kernel
theorem dX1_findMissing_87 : decode cX1_findMissing 87 = .ok (.aload_n 0, 1) := by decide +kernel
theorem dX1_findMissing_88 : decode cX1_findMissing 88 = .ok (.getfield 30, 3) := by decide +kernel
theorem dX1_findMissing_91 : decode cX1_findMissing 91 = .ok (.aload_n 0, 1) := by decide +kernel
theorem dX1_findMissing_92 : decode cX1_findMissing 92 = .ok (.getfield 33, 3) := by decide +kernel
theorem dX1_findMissing_95 : decode cX1_findMissing 95 = .ok (.iload 4, 2) := by decide +kernel
theorem dX1_findMissing_97 : decode cX1_findMissing 97 = .ok (.iastore, 1) := by decide +kernel
theorem dX1_findMissing_98 : decode cX1_findMissing 98 = .ok (.aload_n 0, 1) := by decide +kernel
theorem dX1_findMissing_99 : decode cX1_findMissing 99 = .ok (.dup, 1) := by decide +kernel
theorem dX1_findMissing_100 : decode cX1_findMissing 100 = .ok (.getfield 33, 3) := by decide +kernel
theorem dX1_findMissing_103 : decode cX1_findMissing 103 = .ok (.iconst 1, 1) := by decide +kernel
theorem dX1_findMissing_104 : decode cX1_findMissing 104 = .ok (.iadd, 1) := by decide +kernel
theorem dX1_findMissing_105 : decode cX1_findMissing 105 = .ok (.putfield 33, 3) := by decide +kernel
theorem dX1_findMissing_108 : decode cX1_findMissing 108 = .ok (.iinc 3 1, 3) := by decide +kernel
theorem dX1_findMissing_111 : decode cX1_findMissing 111 = .ok (.goto (-79), 3) := by decide +kernel
theorem dX1_findMissing_114 : decode cX1_findMissing 114 = .ok (.iinc 1 1, 3) := by decide +kernel
theorem dX1_findMissing_117 : decode cX1_findMissing 117 = .ok (.goto (-110), 3) := by decide +kernel
theorem dX1_findMissing_120 : decode cX1_findMissing 120 = .ok (.return_, 1) := by decide +kernel
theorem dX2_init_0 : decode cX2_init 0 = .ok (.aload_n 0, 1) := by decide +kernel
theorem dX2_init_1 : decode cX2_init 1 = .ok (.invokespecial 1, 3) := by decide +kernel
theorem dX2_init_4 : decode cX2_init 4 = .ok (.aload_n 0, 1) := by decide +kernel
theorem dX2_init_5 : decode cX2_init 5 = .ok (.iconst 0, 1) := by decide +kernel
theorem dX2_init_6 : decode cX2_init 6 = .ok (.putfield 7, 3) := by decide +kernel
theorem dX2_init_9 : decode cX2_init 9 = .ok (.aload_n 0, 1) := by decide +kernel
theorem dX2_init_10 : decode cX2_init 10 = .ok (.iconst 0, 1) := by decide +kernel
theorem dX2_init_11 : decode cX2_init 11 = .ok (.putfield 13, 3) := by decide +kernel
theorem dX2_init_14 : decode cX2_init 14 = .ok (.aload_n 0, 1) := by decide +kernel
theorem dX2_init_15 : decode cX2_init 15 = .ok (.iconst 0, 1) := by decide +kernel
theorem dX2_init_16 : decode cX2_init 16 = .ok (.putfield 16, 3) := by decide +kernel
theorem dX2_init_19 : decode cX2_init 19 = .ok (.aload_n 0, 1) := by decide +kernel
theorem dX2_init_20 : decode cX2_init 20 = .ok (.iconst 0, 1) := by decide +kernel
theorem dX2_init_21 : decode cX2_init 21 = .ok (.putfield 19, 3) := by decide +kernel
theorem dX2_init_24 : decode cX2_init 24 = .ok (.aload_n 0, 1) := by decide +kernel
theorem dX2_init_25 : decode cX2_init 25 = .ok (.iconst 0, 1) := by decide +kernel
theorem dX2_init_26 : decode cX2_init 26 = .ok (.putfield 22, 3) := by decide +kernel
theorem dX2_init_29 : decode cX2_init 29 = .ok (.return_, 1) := by decide +kernel
theorem dX2_hasGiven_0 : decode cX2_hasGiven 0 = .ok (.aload_n 0, 1) := by decide +kernel
theorem dX2_hasGiven_1 : decode cX2_hasGiven 1 = .ok (.getfield 7, 3) := by decide +kernel
theorem dX2_hasGiven_4 : decode cX2_hasGiven 4 = .ok (.aload_n 0, 1) := by decide +kernel
theorem dX2_hasGiven_5 : decode cX2_hasGiven 5 = .ok (.getfield 13, 3) := by decide +kernel
theorem dX2_hasGiven_8 : decode cX2_hasGiven 8 = .ok (.if_icmp .ge 7, 3) := by decide +kernel
theorem dX2_hasGiven_11 : decode cX2_hasGiven 11 = .ok (.iconst 1, 1) := by decide +kernel
theorem dX2_hasGiven_12 : decode cX2_hasGiven 12 = .ok (.goto 4, 3) := by decide +kernel
theorem dX2_hasGiven_15 : decode cX2_hasGiven 15 = .ok (.iconst 0, 1) := by decide +kernel
theorem dX2_hasGiven_16 : decode cX2_hasGiven 16 = .ok (.ireturn, 1) := by decide +kernel
theorem dX3_init_0 : decode cX3_init 0 = .ok (.aload_n 0, 1) := by decide +kernel
theorem dX3_init_1 : decode cX3_init 1 = .ok (.invokespecial 3, 3) := by decide +kernel
theorem dX3_init_4 : decode cX3_init 4 = .ok (.aload_n 0, 1) := by decide +kernel
theorem dX3_init_5 : decode cX3_init 5 = .ok (.new 9, 3) := by decide +kernel
theorem dX3_init_8 : decode cX3_init 8 = .ok (.dup, 1) := by decide +kernel
theorem dX3_init_9 : decode cX3_init 9 = .ok (.invokespecial 11, 3) := by decide +kernel
theorem dX3_init_12 : decode cX3_init 12 = .ok (.putfield 12, 3) := by decide +kernel
theorem dX3_init_15 : decode cX3_init 15 = .ok (.aload_n 0, 1) := by decide +kernel
theorem dX3_init_16 : decode cX3_init 16 = .ok (.bipush 40, 2) := by decide +kernel
theorem dX3_init_18 : decode cX3_init 18 = .ok (.newarray .int, 2) := by decide +kernel
theorem dX3_init_20 : decode cX3_init 20 = .ok (.putfield 18, 3) := by decide +kernel
theorem dX3_init_23 : decode cX3_init 23 = .ok (.aload_n 0, 1) := by decide +kernel
theorem dX3_init_24 : decode cX3_init 24 = .ok (.bipush 40, 2) := by decide +kernel
theorem dX3_init_26 : decode cX3_init 26 = .ok (.newarray .int, 2) := by decide +kernel
theorem dX3_init_28 : decode cX3_init 28 = .ok (.putfield 22, 3) := by decide +kernel
theorem dX3_init_31 : decode cX3_init 31 = .ok (.aload_n 0, 1) := by decide +kernel
theorem dX3_init_32 : decode cX3_init 32 = .ok (.iconst 0, 1) := by decide +kernel
theorem dX3_init_33 : decode cX3_init 33 = .ok (.putfield 25, 3) := by decide +kernel
theorem dX3_init_36 : decode cX3_init 36 = .ok (.aload_n 0, 1) := by decide +kernel
theorem dX3_init_37 : decode cX3_init 37 = .ok (.new 29, 3) := by decide +kernel
theorem dX3_init_40 : decode cX3_init 40 = .ok (.dup, 1) := by decide +kernel
theorem dX3_init_41 : decode cX3_init 41 = .ok (.invokespecial 31, 3) := by decide +kernel
theorem dX3_init_44 : decode cX3_init 44 = .ok (.putfield 32, 3) := by decide +kernel
theorem dX3_init_47 : decode cX3_init 47 = .ok (.aload_n 0, 1) := by decide +kernel
theorem dX3_init_48 : decode cX3_init 48 = .ok (.new 36, 3) := by decide +kernel
theorem dX3_init_51 : decode cX3_init 51 = .ok (.dup, 1) := by decide +kernel
theorem dX3_init_52 : decode cX3_init 52 = .ok (.invokespecial 38, 3) := by decide +kernel
theorem dX3_init_55 : decode cX3_init 55 = .ok (.putfield 39, 3) := by decide +kernel
theorem dX3_init_58 : decode cX3_init 58 = .ok (.aload_n 0, 1) := by decide +kernel
theorem dX3_init_59 : decode cX3_init 59 = .ok (.iconst 0, 1) := by decide +kernel
theorem dX3_init_60 : decode cX3_init 60 = .ok (.putfield 43, 3) := by decide +kernel
theorem dX3_init_63 : decode cX3_init 63 = .ok (.return_, 1) := by decide +kernel
theorem dX3_size_0 : decode cX3_size 0 = .ok (.aload_n 0, 1) := by decide +kernel
theorem dX3_size_1 : decode cX3_size 1 = .ok (.getfield 43, 3) := by decide +kernel
theorem dX3_size_4 : decode cX3_size 4 = .ok (.ireturn, 1) := by decide +kernel
theorem dX3_read_0 : decode cX3_read 0 = .ok (.aload_n 0, 1) := by decide +kernel
theorem dX3_read_1 : decode cX3_read 1 = .ok (.aload_n 1, 1) := by decide +kernel
theorem dX3_read_2 : decode cX3_read 2 = .ok (.putfield 12, 3) := by decide +kernel
theorem dX3_read_5 : decode cX3_read 5 = .ok (.aload_n 0, 1) := by decide +kernel
theorem dX3_read_6 : decode cX3_read 6 = .ok (.iconst 0, 1) := by decide +kernel
theorem dX3_read_7 : decode cX3_read 7 = .ok (.putfield 25, 3) := by decide +kernel
theorem dX3_read_10 : decode cX3_read 10 = .ok (.aload_n 0, 1) := by decide +kernel
theorem dX3_read_11 : decode cX3_read 11 = .ok (.iconst 0, 1) := by decide +kernel
theorem dX3_read_12 : decode cX3_read 12 = .ok (.putfield 43, 3) := by decide +kernel
theorem dX3_read_15 : decode cX3_read 15 = .ok (.iconst 0, 1) := by decide +kernel
theorem dX3_read_16 : decode cX3_read 16 = .ok (.istore_n 2, 1) := by decide +kernel
theorem dX3_read_17 : decode cX3_read 17 = .ok (.iconst 0, 1) := by decide +kernel
theorem dX3_read_18 : decode cX3_read 18 = .ok (.istore_n 3, 1) := by decide +kernel
theorem dX3_read_19 : decode cX3_read 19 = .ok (.iconst 0, 1) := by decide +kernel
theorem dX3_read_20 : decode cX3_read 20 = .ok (.istore 4, 2) := by decide +kernel
theorem dX3_read_22 : decode cX3_read 22 = .ok (.iload 4, 2) := by decide +kernel
theorem dX3_read_24 : decode cX3_read 24 = .ok (.aload_n 1, 1) := by decide +kernel
theorem dX3_read_25 : decode cX3_read 25 = .ok (.invokevirtual 46, 3) := by decide +kernel
theorem dX3_read_28 : decode cX3_read 28 = .ok (.if_icmp .gt 53, 3) := by decide +kernel
theorem dX3_read_31 : decode cX3_read 31 = .ok (.iload 4, 2) := by decide +kernel
theorem dX3_read_33 : decode cX3_read 33 = .ok (.aload_n 1, 1) := by decide +kernel
theorem dX3_read_34 : decode cX3_read 34 = .ok (.invokevirtual 46, 3) := by decide +kernel
theorem dX3_read_37 : decode cX3_read 37 = .ok (.if_icmp .eq 14, 3) := by decide +kernel
theorem dX3_read_40 : decode cX3_read 40 = .ok (.aload_n 1, 1) := by decide +kernel
theorem dX3_read_41 : decode cX3_read 41 = .ok (.iload 4, 2) := by decide +kernel
theorem dX3_read_43 : decode cX3_read 43 = .ok (.invokevirtual 50, 3) := by decide +kernel
theorem dX3_read_46 : decode cX3_read 46 = .ok (.bipush 32, 2) := by decide +kernel
theorem dX3_read_48 : decode cX3_read 48 = .ok (.if_icmp .ne 27, 3) := by decide +kernel
theorem dX3_read_51 : decode cX3_read 51 = .ok (.aload_n 0, 1) := by decide +kernel
theorem dX3_read_52 : decode cX3_read 52 = .ok (.iload_n 3, 1) := by decide +kernel
theorem dX3_read_53 : decode cX3_read 53 = .ok (.iload 4, 2) := by decide +kernel
theorem dX3_read_55 : decode cX3_read 55 = .ok (.invokevirtual 54, 3) := by decide +kernel
theorem dX3_read_58 : decode cX3_read 58 = .ok (.ifCond .eq 12, 3) := by decide +kernel
theorem dX3_read_61 : decode cX3_read 61 = .ok (.aload_n 0, 1) := by decide +kernel
theorem dX3_read_62 : decode cX3_read 62 = .ok (.iload_n 2, 1) := by decide +kernel
theorem dX3_read_63 : decode cX3_read 63 = .ok (.iload_n 3, 1) := by decide +kernel
theorem dX3_read_64 : decode cX3_read 64 = .ok (.invokevirtual 58, 3) := by decide +kernel
theorem dX3_read_67 : decode cX3_read 67 = .ok (.iload 4, 2) := by decide +kernel
theorem dX3_read_69 : decode cX3_read 69 = .ok (.istore_n 2, 1) := by decide +kernel
theorem dX3_read_70 : decode cX3_read 70 = .ok (.iload 4, 2) := by decide +kernel
theorem dX3_read_72 : decode cX3_read 72 = .ok (.iconst 1, 1) := by decide +kernel
theorem dX3_read_73 : decode cX3_read 73 = .ok (.iadd, 1) := by decide +kernel
theorem dX3_read_74 : decode cX3_read 74 = .ok (.istore_n 3, 1) := by decide +kernel
theorem dX3_read_75 : decode cX3_read 75 = .ok (.iinc 4 1, 3) := by decide +kernel
theorem dX3_read_78 : decode cX3_read 78 = .ok (.goto (-56), 3) := by decide +kernel
theorem dX3_read_81 : decode cX3_read 81 = .ok (.aload_n 0, 1) := by decide +kernel
theorem dX3_read_82 : decode cX3_read 82 = .ok (.iload_n 2, 1) := by decide +kernel
theorem dX3_read_83 : decode cX3_read 83 = .ok (.aload_n 1, 1) := by decide +kernel
theorem dX3_read_84 : decode cX3_read 84 = .ok (.invokevirtual 46, 3) := by decide +kernel
theorem dX3_read_87 : decode cX3_read 87 = .ok (.invokevirtual 58, 3) := by decide +kernel
theorem dX3_read_90 : decode cX3_read 90 = .ok (.return_, 1) := by decide +kernel
theorem dX3_isAnd_0 : decode cX3_isAnd 0 = .ok (.iload_n 2, 1) := by decide +kernel
theorem dX3_isAnd_1 : decode cX3_isAnd 1 = .ok (.iload_n 1, 1) := by decide +kernel
theorem dX3_isAnd_2 : decode cX3_isAnd 2 = .ok (.isub, 1) := by decide +kernel
theorem dX3_isAnd_3 : decode cX3_isAnd 3 = .ok (.iconst 3, 1) := by decide +kernel
theorem dX3_isAnd_4 : decode cX3_isAnd 4 = .ok (.if_icmp .ne 50, 3) := by decide +kernel
theorem dX3_isAnd_7 : decode cX3_isAnd 7 = .ok (.aload_n 0, 1) := by decide +kernel
theorem dX3_isAnd_8 : decode cX3_isAnd 8 = .ok (.getfield 12, 3) := by decide +kernel
theorem dX3_isAnd_11 : decode cX3_isAnd 11 = .ok (.iload_n 1, 1) := by decide +kernel
theorem dX3_isAnd_12 : decode cX3_isAnd 12 = .ok (.invokevirtual 50, 3) := by decide +kernel
theorem dX3_isAnd_15 : decode cX3_isAnd 15 = .ok (.bipush 97, 2) := by decide +kernel
theorem dX3_isAnd_17 : decode cX3_isAnd 17 = .ok (.if_icmp .ne 37, 3) := by decide +kernel
theorem dX3_isAnd_20 : decode cX3_isAnd 20 = .ok (.aload_n 0, 1) := by decide +kernel
theorem dX3_isAnd_21 : decode cX3_isAnd 21 = .ok (.getfield 12, 3) := by decide +kernel
theorem dX3_isAnd_24 : decode cX3_isAnd 24 = .ok (.iload_n 1, 1) := by decide +kernel
theorem dX3_isAnd_25 : decode cX3_isAnd 25 = .ok (.iconst 1, 1) := by decide +kernel
theorem dX3_isAnd_26 : decode cX3_isAnd 26 = .ok (.iadd, 1) := by decide +kernel
theorem dX3_isAnd_27 : decode cX3_isAnd 27 = .ok (.invokevirtual 50, 3) := by decide +kernel
theorem dX3_isAnd_30 : decode cX3_isAnd 30 = .ok (.bipush 110, 2) := by decide +kernel
theorem dX3_isAnd_32 : decode cX3_isAnd 32 = .ok (.if_icmp .ne 22, 3) := by decide +kernel
theorem dX3_isAnd_35 : decode cX3_isAnd 35 = .ok (.aload_n 0, 1) := by decide +kernel
theorem dX3_isAnd_36 : decode cX3_isAnd 36 = .ok (.getfield 12, 3) := by decide +kernel
theorem dX3_isAnd_39 : decode cX3_isAnd 39 = .ok (.iload_n 1, 1) := by decide +kernel
theorem dX3_isAnd_40 : decode cX3_isAnd 40 = .ok (.iconst 2, 1) := by decide +kernel
theorem dX3_isAnd_41 : decode cX3_isAnd 41 = .ok (.iadd, 1) := by decide +kernel
theorem dX3_isAnd_42 : decode cX3_isAnd 42 = .ok (.invokevirtual 50, 3) := by decide +kernel
theorem dX3_isAnd_45 : decode cX3_isAnd 45 = .ok (.bipush 100, 2) := by decide +kernel
theorem dX3_isAnd_47 : decode cX3_isAnd 47 = .ok (.if_icmp .ne 7, 3) := by decide +kernel
theorem dX3_isAnd_50 : decode cX3_isAnd 50 = .ok (.iconst 1, 1) := by decide +kernel
theorem dX3_isAnd_51 : decode cX3_isAnd 51 = .ok (.goto 4, 3) := by decide +kernel
theorem dX3_isAnd_54 : decode cX3_isAnd 54 = .ok (.iconst 0, 1) := by decide +kernel
theorem dX3_isAnd_55 : decode cX3_isAnd 55 = .ok (.ireturn, 1) := by decide +kernel
theorem dX3_readPerson_0 : decode cX3_readPerson 0 = .ok (.iload_n 1, 1) := by decide +kernel
theorem dX3_readPerson_1 : decode cX3_readPerson 1 = .ok (.istore_n 3, 1) := by decide +kernel
theorem dX3_readPerson_2 : decode cX3_readPerson 2 = .ok (.iload_n 3, 1) := by decide +kernel
theorem dX3_readPerson_3 : decode cX3_readPerson 3 = .ok (.iload_n 2, 1) := by decide +kernel
theorem dX3_readPerson_4 : decode cX3_readPerson 4 = .ok (.if_icmp .ge 22, 3) := by decide +kernel
theorem dX3_readPerson_7 : decode cX3_readPerson 7 = .ok (.aload_n 0, 1) := by decide +kernel
theorem dX3_readPerson_8 : decode cX3_readPerson 8 = .ok (.getfield 12, 3) := by decide +kernel
theorem dX3_readPerson_11 : decode cX3_readPerson 11 = .ok (.iload_n 3, 1) := by decide +kernel
theorem dX3_readPerson_12 : decode cX3_readPerson 12 = .ok (.invokevirtual 50, 3) := by decide +kernel
theorem dX3_readPerson_15 : decode cX3_readPerson 15 = .ok (.bipush 44, 2) := by decide +kernel
theorem dX3_readPerson_17 : decode cX3_readPerson 17 = .ok (.if_icmp .eq 9, 3) := by decide +kernel
theorem dX3_readPerson_20 : decode cX3_readPerson 20 = .ok (.iinc 3 1, 3) := by decide +kernel
theorem dX3_readPerson_23 : decode cX3_readPerson 23 = .ok (.goto (-21), 3) := by decide +kernel
theorem dX3_readPerson_26 : decode cX3_readPerson 26 = .ok (.aload_n 0, 1) := by decide +kernel
theorem dX3_readPerson_27 : decode cX3_readPerson 27 = .ok (.getfield 25, 3) := by decide +kernel
theorem dX3_readPerson_30 : decode cX3_readPerson 30 = .ok (.istore 4, 2) := by decide +kernel
theorem dX3_readPerson_32 : decode cX3_readPerson 32 = .ok (.aload_n 0, 1) := by decide +kernel
theorem dX3_readPerson_33 : decode cX3_readPerson 33 = .ok (.iload_n 1, 1) := by decide +kernel
theorem dX3_readPerson_34 : decode cX3_readPerson 34 = .ok (.iload_n 3, 1) := by decide +kernel
theorem dX3_readPerson_35 : decode cX3_readPerson 35 = .ok (.invokevirtual 62, 3) := by decide +kernel
theorem dX3_readPerson_38 : decode cX3_readPerson 38 = .ok (.aload_n 0, 1) := by decide +kernel
theorem dX3_readPerson_39 : decode cX3_readPerson 39 = .ok (.getfield 25, 3) := by decide +kernel
theorem dX3_readPerson_42 : decode cX3_readPerson 42 = .ok (.istore 5, 2) := by decide +kernel
theorem dX3_readPerson_44 : decode cX3_readPerson 44 = .ok (.aload_n 0, 1) := by decide +kernel
theorem dX3_readPerson_45 : decode cX3_readPerson 45 = .ok (.iload_n 3, 1) := by decide +kernel
theorem dX3_readPerson_46 : decode cX3_readPerson 46 = .ok (.iload_n 2, 1) := by decide +kernel
theorem dX3_readPerson_47 : decode cX3_readPerson 47 = .ok (.invokevirtual 62, 3) := by decide +kernel
theorem dX3_readPerson_50 : decode cX3_readPerson 50 = .ok (.aload_n 0, 1) := by decide +kernel
theorem dX3_readPerson_51 : decode cX3_readPerson 51 = .ok (.getfield 25, 3) := by decide +kernel
theorem dX3_readPerson_54 : decode cX3_readPerson 54 = .ok (.iload 4, 2) := by decide +kernel
theorem dX3_readPerson_56 : decode cX3_readPerson 56 = .ok (.if_icmp .le 35, 3) := by decide +kernel
theorem dX3_readPerson_59 : decode cX3_readPerson 59 = .ok (.aload_n 0, 1) := by decide +kernel
theorem dX3_readPerson_60 : decode cX3_readPerson 60 = .ok (.invokevirtual 65, 3) := by decide +kernel
theorem dX3_readPerson_63 : decode cX3_readPerson 63 = .ok (.astore 6, 2) := by decide +kernel
theorem dX3_readPerson_65 : decode cX3_readPerson 65 = .ok (.iload_n 3, 1) := by decide +kernel
theorem dX3_readPerson_66 : decode cX3_readPerson 66 = .ok (.iload_n 2, 1) := by decide +kernel
theorem dX3_readPerson_67 : decode cX3_readPerson 67 = .ok (.if_icmp .ge 16, 3) := by decide +kernel
theorem dX3_readPerson_70 : decode cX3_readPerson 70 = .ok (.aload_n 0, 1) := by decide +kernel
theorem dX3_readPerson_71 : decode cX3_readPerson 71 = .ok (.aload 6, 2) := by decide +kernel
theorem dX3_readPerson_73 : decode cX3_readPerson 73 = .ok (.iload 4, 2) := by decide +kernel
theorem dX3_readPerson_75 : decode cX3_readPerson 75 = .ok (.iload 5, 2) := by decide +kernel
theorem dX3_readPerson_77 : decode cX3_readPerson 77 = .ok (.invokevirtual 69, 3) := by decide +kernel
theorem dX3_readPerson_80 : decode cX3_readPerson 80 = .ok (.goto 11, 3) := by decide +kernel
theorem dX3_readPerson_83 : decode cX3_readPerson 83 = .ok (.aload_n 0, 1) := by decide +kernel
theorem dX3_readPerson_84 : decode cX3_readPerson 84 = .ok (.aload 6, 2) := by decide +kernel
theorem dX3_readPerson_86 : decode cX3_readPerson 86 = .ok (.iload 4, 2) := by decide +kernel
theorem dX3_readPerson_88 : decode cX3_readPerson 88 = .ok (.invokevirtual 73, 3) := by decide +kernel
theorem dX3_readPerson_91 : decode cX3_readPerson 91 = .ok (.return_, 1) := by decide +kernel
theorem dX3_readWords_0 : decode cX3_readWords 0 = .ok (.iload_n 1, 1) := by decide +kernel
theorem dX3_readWords_1 : decode cX3_readWords 1 = .ok (.istore_n 3, 1) := by decide +kernel
theorem dX3_readWords_2 : decode cX3_readWords 2 = .ok (.iload_n 1, 1) := by decide +kernel
theorem dX3_readWords_3 : decode cX3_readWords 3 = .ok (.istore 4, 2) := by decide +kernel
theorem dX3_readWords_5 : decode cX3_readWords 5 = .ok (.iload 4, 2) := by decide +kernel
theorem dX3_readWords_7 : decode cX3_readWords 7 = .ok (.iload_n 2, 1) := by decide +kernel
theorem dX3_readWords_8 : decode cX3_readWords 8 = .ok (.if_icmp .gt 94, 3) := by decide +kernel
theorem dX3_readWords_11 : decode cX3_readWords 11 = .ok (.iload 4, 2) := by decide +kernel
theorem dX3_readWords_13 : decode cX3_readWords 13 = .ok (.iload_n 2, 1) := by decide +kernel
theorem dX3_readWords_14 : decode cX3_readWords 14 = .ok (.if_icmp .eq 31, 3) := by decide +kernel
theorem dX3_readWords_17 : decode cX3_readWords 17 = .ok (.aload_n 0, 1) := by decide +kernel
theorem dX3_readWords_18 : decode cX3_readWords 18 = .ok (.getfield 12, 3) := by decide +kernel
theorem dX3_readWords_21 : decode cX3_readWords 21 = .ok (.iload 4, 2) := by decide +kernel
theorem dX3_readWords_23 : decode cX3_readWords 23 = .ok (.invokevirtual 50, 3) := by decide +kernel
theorem dX3_readWords_26 : decode cX3_readWords 26 = .ok (.bipush 32, 2) := by decide +kernel
theorem dX3_readWords_28 : decode cX3_readWords 28 = .ok (.if_icmp .eq 17, 3) := by decide +kernel
theorem dX3_readWords_31 : decode cX3_readWords 31 = .ok (.aload_n 0, 1) := by decide +kernel
theorem dX3_readWords_32 : decode cX3_readWords 32 = .ok (.getfield 12, 3) := by decide +kernel
theorem dX3_readWords_35 : decode cX3_readWords 35 = .ok (.iload 4, 2) := by decide +kernel
theorem dX3_readWords_37 : decode cX3_readWords 37 = .ok (.invokevirtual 50, 3) := by decide +kernel
theorem dX3_readWords_40 : decode cX3_readWords 40 = .ok (.bipush 44, 2) := by decide +kernel
theorem dX3_readWords_42 : decode cX3_readWords 42 = .ok (.if_icmp .ne 54, 3) := by decide +kernel
theorem dX3_readWords_45 : decode cX3_readWords 45 = .ok (.iload 4, 2) := by decide +kernel
theorem dX3_readWords_47 : decode cX3_readWords 47 = .ok (.iload_n 3, 1) := by decide +kernel
theorem dX3_readWords_48 : decode cX3_readWords 48 = .ok (.if_icmp .le 43, 3) := by decide +kernel
theorem dX3_readWords_51 : decode cX3_readWords 51 = .ok (.aload_n 0, 1) := by decide +kernel
theorem dX3_readWords_52 : decode cX3_readWords 52 = .ok (.getfield 25, 3) := by decide +kernel
theorem dX3_readWords_55 : decode cX3_readWords 55 = .ok (.bipush 40, 2) := by decide +kernel
theorem dX3_readWords_57 : decode cX3_readWords 57 = .ok (.if_icmp .ge 34, 3) := by decide +kernel
theorem dX3_readWords_60 : decode cX3_readWords 60 = .ok (.aload_n 0, 1) := by decide +kernel
theorem dX3_readWords_61 : decode cX3_readWords 61 = .ok (.getfield 18, 3) := by decide +kernel
theorem dX3_readWords_64 : decode cX3_readWords 64 = .ok (.aload_n 0, 1) := by decide +kernel
theorem dX3_readWords_65 : decode cX3_readWords 65 = .ok (.getfield 25, 3) := by decide +kernel
theorem dX3_readWords_68 : decode cX3_readWords 68 = .ok (.iload_n 3, 1) := by decide +kernel
theorem dX3_readWords_69 : decode cX3_readWords 69 = .ok (.iastore, 1) := by decide +kernel
theorem dX3_readWords_70 : decode cX3_readWords 70 = .ok (.aload_n 0, 1) := by decide +kernel
theorem dX3_readWords_71 : decode cX3_readWords 71 = .ok (.getfield 22, 3) := by decide +kernel
theorem dX3_readWords_74 : decode cX3_readWords 74 = .ok (.aload_n 0, 1) := by decide +kernel
theorem dX3_readWords_75 : decode cX3_readWords 75 = .ok (.getfield 25, 3) := by decide +kernel
theorem dX3_readWords_78 : decode cX3_readWords 78 = .ok (.iload 4, 2) := by decide +kernel
theorem dX3_readWords_80 : decode cX3_readWords 80 = .ok (.iastore, 1) := by decide +kernel
theorem dX3_readWords_81 : decode cX3_readWords 81 = .ok (.aload_n 0, 1) := by decide +kernel
theorem dX3_readWords_82 : decode cX3_readWords 82 = .ok (.dup, 1) := by decide +kernel
theorem dX3_readWords_83 : decode cX3_readWords 83 = .ok (.getfield 25, 3) := by decide +kernel
theorem dX3_readWords_86 : decode cX3_readWords 86 = .ok (.iconst 1, 1) := by decide +kernel
theorem dX3_readWords_87 : decode cX3_readWords 87 = .ok (.iadd, 1) := by decide +kernel
theorem dX3_readWords_88 : decode cX3_readWords 88 = .ok (.putfield 25, 3) := by decide +kernel
theorem dX3_readWords_91 : decode cX3_readWords 91 = .ok (.iload 4, 2) := by decide +kernel
theorem dX3_readWords_93 : decode cX3_readWords 93 = .ok (.iconst 1, 1) := by decide +kernel
theorem dX3_readWords_94 : decode cX3_readWords 94 = .ok (.iadd, 1) := by decide +kernel
theorem dX3_readWords_95 : decode cX3_readWords 95 = .ok (.istore_n 3, 1) := by decide +kernel
theorem dX3_readWords_96 : decode cX3_readWords 96 = .ok (.iinc 4 1, 3) := by decide +kernel
theorem dX3_readWords_99 : decode cX3_readWords 99 = .ok (.goto (-94), 3) := by decide +kernel
theorem dX3_readWords_102 : decode cX3_readWords 102 = .ok (.return_, 1) := by decide +kernel
theorem dX3_nextPerson_0 : decode cX3_nextPerson 0 = .ok (.aload_n 0, 1) := by decide +kernel
theorem dX3_nextPerson_1 : decode cX3_nextPerson 1 = .ok (.getfield 43, 3) := by decide +kernel
theorem dX3_nextPerson_4 : decode cX3_nextPerson 4 = .ok (.aload_n 0, 1) := by decide +kernel
theorem dX3_nextPerson_5 : decode cX3_nextPerson 5 = .ok (.getfield 32, 3) := by decide +kernel
theorem dX3_nextPerson_8 : decode cX3_nextPerson 8 = .ok (.invokevirtual 77, 3) := by decide +kernel
theorem dX3_nextPerson_11 : decode cX3_nextPerson 11 = .ok (.if_icmp .lt 18, 3) := by decide +kernel
theorem dX3_nextPerson_14 : decode cX3_nextPerson 14 = .ok (.aload_n 0, 1) := by decide +kernel
theorem dX3_nextPerson_15 : decode cX3_nextPerson 15 = .ok (.getfield 32, 3) := by decide +kernel
theorem dX3_nextPerson_18 : decode cX3_nextPerson 18 = .ok (.new 36, 3) := by decide +kernel
theorem dX3_nextPerson_21 : decode cX3_nextPerson 21 = .ok (.dup, 1) := by decide +kernel
theorem dX3_nextPerson_22 : decode cX3_nextPerson 22 = .ok (.invokespecial 38, 3) := by decide +kernel
theorem dX3_nextPerson_25 : decode cX3_nextPerson 25 = .ok (.invokevirtual 78, 3) := by decide +kernel
theorem dX3_nextPerson_28 : decode cX3_nextPerson 28 = .ok (.pop, 1) := by decide +kernel
theorem dX3_nextPerson_29 : decode cX3_nextPerson 29 = .ok (.aload_n 0, 1) := by decide +kernel
theorem dX3_nextPerson_30 : decode cX3_nextPerson 30 = .ok (.dup, 1) := by decide +kernel
theorem dX3_nextPerson_31 : decode cX3_nextPerson 31 = .ok (.getfield 43, 3) := by decide +kernel
theorem dX3_nextPerson_34 : decode cX3_nextPerson 34 = .ok (.iconst 1, 1) := by decide +kernel
theorem dX3_nextPerson_35 : decode cX3_nextPerson 35 = .ok (.iadd, 1) := by decide +kernel
theorem dX3_nextPerson_36 : decode cX3_nextPerson 36 = .ok (.putfield 43, 3) := by decide +kernel
theorem dX3_nextPerson_39 : decode cX3_nextPerson 39 = .ok (.aload_n 0, 1) := by decide +kernel
theorem dX3_nextPerson_40 : decode cX3_nextPerson 40 = .ok (.getfield 32, 3) := by decide +kernel
theorem dX3_nextPerson_43 : decode cX3_nextPerson 43 = .ok (.aload_n 0, 1) := by decide +kernel
theorem dX3_nextPerson_44 : decode cX3_nextPerson 44 = .ok (.getfield 43, 3) := by decide +kernel
theorem dX3_nextPerson_47 : decode cX3_nextPerson 47 = .ok (.iconst 1, 1) := by decide +kernel
theorem dX3_nextPerson_48 : decode cX3_nextPerson 48 = .ok (.isub, 1) := by decide +kernel
theorem dX3_nextPerson_49 : decode cX3_nextPerson 49 = .ok (.invokevirtual 82, 3) := by decide +kernel
theorem dX3_nextPerson_52 : decode cX3_nextPerson 52 = .ok (.checkcast 36, 3) := by decide +kernel
theorem dX3_nextPerson_55 : decode cX3_nextPerson 55 = .ok (.areturn, 1) := by decide +kernel
theorem dX3_partAtComma_0 : decode cX3_partAtComma 0 = .ok (.iload_n 2, 1) := by decide +kernel
theorem dX3_partAtComma_1 : decode cX3_partAtComma 1 = .ok (.istore 4, 2) := by decide +kernel
theorem dX3_partAtComma_3 : decode cX3_partAtComma 3 = .ok (.iload 4, 2) := by decide +kernel
theorem dX3_partAtComma_5 : decode cX3_partAtComma 5 = .ok (.iload_n 3, 1) := by decide +kernel
theorem dX3_partAtComma_6 : decode cX3_partAtComma 6 = .ok (.iconst 1, 1) := by decide +kernel
theorem dX3_partAtComma_7 : decode cX3_partAtComma 7 = .ok (.isub, 1) := by decide +kernel
theorem dX3_partAtComma_8 : decode cX3_partAtComma 8 = .ok (.if_icmp .ge 18, 3) := by decide +kernel
theorem dX3_partAtComma_11 : decode cX3_partAtComma 11 = .ok (.aload_n 0, 1) := by decide +kernel
theorem dX3_partAtComma_12 : decode cX3_partAtComma 12 = .ok (.iload 4, 2) := by decide +kernel
theorem dX3_partAtComma_14 : decode cX3_partAtComma 14 = .ok (.invokevirtual 86, 3) := by decide +kernel
theorem dX3_partAtComma_17 : decode cX3_partAtComma 17 = .ok (.ifCond .eq 9, 3) := by decide +kernel
theorem dX3_partAtComma_20 : decode cX3_partAtComma 20 = .ok (.iinc 4 1, 3) := by decide +kernel
theorem dX3_partAtComma_23 : decode cX3_partAtComma 23 = .ok (.goto (-20), 3) := by decide +kernel
theorem dX3_partAtComma_26 : decode cX3_partAtComma 26 = .ok (.aload_n 1, 1) := by decide +kernel
theorem dX3_partAtComma_27 : decode cX3_partAtComma 27 = .ok (.iload_n 2, 1) := by decide +kernel
theorem dX3_partAtComma_28 : decode cX3_partAtComma 28 = .ok (.putfield 90, 3) := by decide +kernel
theorem dX3_partAtComma_31 : decode cX3_partAtComma 31 = .ok (.aload_n 1, 1) := by decide +kernel
theorem dX3_partAtComma_32 : decode cX3_partAtComma 32 = .ok (.iload 4, 2) := by decide +kernel
theorem dX3_partAtComma_34 : decode cX3_partAtComma 34 = .ok (.putfield 93, 3) := by decide +kernel
theorem dX3_partAtComma_37 : decode cX3_partAtComma 37 = .ok (.aload_n 1, 1) := by decide +kernel
theorem dX3_partAtComma_38 : decode cX3_partAtComma 38 = .ok (.iload_n 3, 1) := by decide +kernel
theorem dX3_partAtComma_39 : decode cX3_partAtComma 39 = .ok (.putfield 96, 3) := by decide +kernel
theorem dX3_partAtComma_42 : decode cX3_partAtComma 42 = .ok (.aload_n 1, 1) := by decide +kernel
theorem dX3_partAtComma_43 : decode cX3_partAtComma 43 = .ok (.iload_n 3, 1) := by decide +kernel
theorem dX3_partAtComma_44 : decode cX3_partAtComma 44 = .ok (.putfield 99, 3) := by decide +kernel
theorem dX3_partAtComma_47 : decode cX3_partAtComma 47 = .ok (.aload_n 1, 1) := by decide +kernel
theorem dX3_partAtComma_48 : decode cX3_partAtComma 48 = .ok (.aload_n 0, 1) := by decide +kernel
theorem dX3_partAtComma_49 : decode cX3_partAtComma 49 = .ok (.getfield 25, 3) := by decide +kernel
theorem dX3_partAtComma_52 : decode cX3_partAtComma 52 = .ok (.putfield 102, 3) := by decide +kernel
theorem dX3_partAtComma_55 : decode cX3_partAtComma 55 = .ok (.return_, 1) := by decide +kernel
theorem dX3_partAtParticles_0 : decode cX3_partAtParticles 0 = .ok (.aload_n 0, 1) := by decide +kernel
theorem dX3_partAtParticles_1 : decode cX3_partAtParticles 1 = .ok (.getfield 25, 3) := by decide +kernel
theorem dX3_partAtParticles_4 : decode cX3_partAtParticles 4 = .ok (.iconst 1, 1) := by decide +kernel
theorem dX3_partAtParticles_5 : decode cX3_partAtParticles 5 = .ok (.isub, 1) := by decide +kernel
theorem dX3_partAtParticles_6 : decode cX3_partAtParticles 6 = .ok (.istore_n 3, 1) := by decide +kernel
theorem dX3_partAtParticles_7 : decode cX3_partAtParticles 7 = .ok (.iload_n 2, 1) := by decide +kernel
theorem dX3_partAtParticles_8 : decode cX3_partAtParticles 8 = .ok (.istore 4, 2) := by decide +kernel
theorem dX3_partAtParticles_10 : decode cX3_partAtParticles 10 = .ok (.iload 4, 2) := by decide +kernel
theorem dX3_partAtParticles_12 : decode cX3_partAtParticles 12 = .ok (.iload_n 3, 1) := by decide +kernel
theorem dX3_partAtParticles_13 : decode cX3_partAtParticles 13 = .ok (.if_icmp .ge 18, 3) := by decide +kernel
theorem dX3_partAtParticles_16 : decode cX3_partAtParticles 16 = .ok (.aload_n 0, 1) := by decide +kernel
theorem dX3_partAtParticles_17 : decode cX3_partAtParticles 17 = .ok (.iload 4, 2) := by decide +kernel
theorem dX3_partAtParticles_19 : decode cX3_partAtParticles 19 = .ok (.invokevirtual 86, 3) := by decide +kernel
theorem dX3_partAtParticles_22 : decode cX3_partAtParticles 22 = .ok (.ifCond .ne 9, 3) := by decide +kernel
theorem dX3_partAtParticles_25 : decode cX3_partAtParticles 25 = .ok (.iinc 4 1, 3) := by decide +kernel
theorem dX3_partAtParticles_28 : decode cX3_partAtParticles 28 = .ok (.goto (-18), 3) := by decide +kernel
theorem dX3_partAtParticles_31 : decode cX3_partAtParticles 31 = .ok (.iload_n 3, 1) := by decide +kernel
theorem dX3_partAtParticles_32 : decode cX3_partAtParticles 32 = .ok (.istore 5, 2) := by decide +kernel
theorem dX3_partAtParticles_34 : decode cX3_partAtParticles 34 = .ok (.iload 5, 2) := by decide +kernel
theorem dX3_partAtParticles_36 : decode cX3_partAtParticles 36 = .ok (.iload 4, 2) := by decide +kernel
theorem dX3_partAtParticles_38 : decode cX3_partAtParticles 38 = .ok (.if_icmp .le 20, 3) := by decide +kernel
theorem dX3_partAtParticles_41 : decode cX3_partAtParticles 41 = .ok (.aload_n 0, 1) := by decide +kernel
theorem dX3_partAtParticles_42 : decode cX3_partAtParticles 42 = .ok (.iload 5, 2) := by decide +kernel
theorem dX3_partAtParticles_44 : decode cX3_partAtParticles 44 = .ok (.iconst 1, 1) := by decide +kernel
theorem dX3_partAtParticles_45 : decode cX3_partAtParticles 45 = .ok (.isub, 1) := by decide +kernel
theorem dX3_partAtParticles_46 : decode cX3_partAtParticles 46 = .ok (.invokevirtual 86, 3) := by decide +kernel
theorem dX3_partAtParticles_49 : decode cX3_partAtParticles 49 = .ok (.ifCond .ne 9, 3) := by decide +kernel
theorem dX3_partAtParticles_52 : decode cX3_partAtParticles 52 = .ok (.iinc 5 (-1), 3) := by decide +kernel
theorem dX3_partAtParticles_55 : decode cX3_partAtParticles 55 = .ok (.goto (-21), 3) := by decide +kernel
theorem dX3_partAtParticles_58 : decode cX3_partAtParticles 58 = .ok (.aload_n 1, 1) := by decide +kernel
theorem dX3_partAtParticles_59 : decode cX3_partAtParticles 59 = .ok (.iload_n 2, 1) := by decide +kernel
theorem dX3_partAtParticles_60 : decode cX3_partAtParticles 60 = .ok (.putfield 99, 3) := by decide +kernel
theorem dX3_partAtParticles_63 : decode cX3_partAtParticles 63 = .ok (.aload_n 1, 1) := by decide +kernel
theorem dX3_partAtParticles_64 : decode cX3_partAtParticles 64 = .ok (.iload 4, 2) := by decide +kernel
theorem dX3_partAtParticles_66 : decode cX3_partAtParticles 66 = .ok (.putfield 102, 3) := by decide +kernel
theorem dX3_partAtParticles_69 : decode cX3_partAtParticles 69 = .ok (.aload_n 1, 1) := by decide +kernel
theorem dX3_partAtParticles_70 : decode cX3_partAtParticles 70 = .ok (.iload 4, 2) := by decide +kernel
theorem dX3_partAtParticles_72 : decode cX3_partAtParticles 72 = .ok (.putfield 90, 3) := by decide +kernel
theorem dX3_partAtParticles_75 : decode cX3_partAtParticles 75 = .ok (.aload_n 1, 1) := by decide +kernel
theorem dX3_partAtParticles_76 : decode cX3_partAtParticles 76 = .ok (.iload 5, 2) := by decide +kernel
theorem dX3_partAtParticles_78 : decode cX3_partAtParticles 78 = .ok (.putfield 93, 3) := by decide +kernel
theorem dX3_partAtParticles_81 : decode cX3_partAtParticles 81 = .ok (.aload_n 1, 1) := by decide +kernel
theorem dX3_partAtParticles_82 : decode cX3_partAtParticles 82 = .ok (.aload_n 0, 1) := by decide +kernel
theorem dX3_partAtParticles_83 : decode cX3_partAtParticles 83 = .ok (.getfield 25, 3) := by decide +kernel
theorem dX3_partAtParticles_86 : decode cX3_partAtParticles 86 = .ok (.putfield 96, 3) := by decide +kernel
theorem dX3_partAtParticles_89 : decode cX3_partAtParticles 89 = .ok (.return_, 1) := by decide +kernel
theorem dX3_beginsSmall_0 : decode cX3_beginsSmall 0 = .ok (.aload_n 0, 1) := by decide +kernel
theorem dX3_beginsSmall_1 : decode cX3_beginsSmall 1 = .ok (.getfield 12, 3) := by decide +kernel
theorem dX3_beginsSmall_4 : decode cX3_beginsSmall 4 = .ok (.aload_n 0, 1) := by decide +kernel
theorem dX3_beginsSmall_5 : decode cX3_beginsSmall 5 = .ok (.iload_n 1, 1) := by decide +kernel
theorem dX3_beginsSmall_6 : decode cX3_beginsSmall 6 = .ok (.invokevirtual 105, 3) := by decide +kernel
theorem dX3_beginsSmall_9 : decode cX3_beginsSmall 9 = .ok (.invokevirtual 50, 3) := by decide +kernel
theorem dX3_beginsSmall_12 : decode cX3_beginsSmall 12 = .ok (.invokestatic 108, 3) := by decide +kernel
theorem dX3_beginsSmall_15 : decode cX3_beginsSmall 15 = .ok (.ireturn, 1) := by decide +kernel
theorem dX3_wordStart_0 : decode cX3_wordStart 0 = .ok (.iload_n 1, 1) := by decide +kernel
theorem dX3_wordStart_1 : decode cX3_wordStart 1 = .ok (.ifCond .lt 20, 3) := by decide +kernel
theorem dX3_wordStart_4 : decode cX3_wordStart 4 = .ok (.iload_n 1, 1) := by decide +kernel
theorem dX3_wordStart_5 : decode cX3_wordStart 5 = .ok (.aload_n 0, 1) := by decide +kernel
theorem dX3_wordStart_6 : decode cX3_wordStart 6 = .ok (.getfield 25, 3) := by decide +kernel
theorem dX3_wordStart_9 : decode cX3_wordStart 9 = .ok (.if_icmp .ge 12, 3) := by decide +kernel
theorem dX3_wordStart_12 : decode cX3_wordStart 12 = .ok (.aload_n 0, 1) := by decide +kernel
theorem dX3_wordStart_13 : decode cX3_wordStart 13 = .ok (.getfield 18, 3) := by decide +kernel
theorem dX3_wordStart_16 : decode cX3_wordStart 16 = .ok (.iload_n 1, 1) := by decide +kernel
theorem dX3_wordStart_17 : decode cX3_wordStart 17 = .ok (.iaload, 1) := by decide +kernel
theorem dX3_wordStart_18 : decode cX3_wordStart 18 = .ok (.goto 4, 3) := by decide +kernel
theorem dX3_wordStart_21 : decode cX3_wordStart 21 = .ok (.iconst 0, 1) := by decide +kernel
theorem dX3_wordStart_22 : decode cX3_wordStart 22 = .ok (.ireturn, 1) := by decide +kernel
theorem dX3_personAt_0 : decode cX3_personAt 0 = .ok (.iload_n 1, 1) := by decide +kernel
theorem dX3_personAt_1 : decode cX3_personAt 1 = .ok (.ifCond .lt 28, 3) := by decide +kernel
theorem dX3_personAt_4 : decode cX3_personAt 4 = .ok (.iload_n 1, 1) := by decide +kernel
theorem dX3_personAt_5 : decode cX3_personAt 5 = .ok (.aload_n 0, 1) := by decide +kernel
theorem dX3_personAt_6 : decode cX3_personAt 6 = .ok (.getfield 32, 3) := by decide +kernel
theorem dX3_personAt_9 : decode cX3_personAt 9 = .ok (.invokevirtual 77, 3) := by decide +kernel
theorem dX3_personAt_12 : decode cX3_personAt 12 = .ok (.if_icmp .ge 17, 3) := by decide +kernel
theorem dX3_personAt_15 : decode cX3_personAt 15 = .ok (.aload_n 0, 1) := by decide +kernel
theorem dX3_personAt_16 : decode cX3_personAt 16 = .ok (.getfield 32, 3) := by decide +kernel
theorem dX3_personAt_19 : decode cX3_personAt 19 = .ok (.iload_n 1, 1) := by decide +kernel
theorem dX3_personAt_20 : decode cX3_personAt 20 = .ok (.invokevirtual 82, 3) := by decide +kernel
theorem dX3_personAt_23 : decode cX3_personAt 23 = .ok (.checkcast 36, 3) := by decide +kernel
theorem dX3_personAt_26 : decode cX3_personAt 26 = .ok (.goto 7, 3) := by decide +kernel
theorem dX3_personAt_29 : decode cX3_personAt 29 = .ok (.aload_n 0, 1) := by decide +kernel
theorem dX3_personAt_30 : decode cX3_personAt 30 = .ok (.getfield 39, 3) := by decide +kernel
theorem dX3_personAt_33 : decode cX3_personAt 33 = .ok (.areturn, 1) := by decide +kernel
theorem dX3_hasGiven_0 : decode cX3_hasGiven 0 = .ok (.aload_n 0, 1) := by decide +kernel
theorem dX3_hasGiven_1 : decode cX3_hasGiven 1 = .ok (.iload_n 1, 1) := by decide +kernel
theorem dX3_hasGiven_2 : decode cX3_hasGiven 2 = .ok (.invokevirtual 111, 3) := by decide +kernel
theorem dX3_hasGiven_5 : decode cX3_hasGiven 5 = .ok (.invokevirtual 115, 3) := by decide +kernel
theorem dX3_hasGiven_8 : decode cX3_hasGiven 8 = .ok (.ireturn, 1) := by decide +kernel
theorem dX3_addName_0 : decode cX3_addName 0 = .ok (.aload_n 0, 1) := by decide +kernel
theorem dX3_addName_1 : decode cX3_addName 1 = .ok (.aload_n 0, 1) := by decide +kernel
theorem dX3_addName_2 : decode cX3_addName 2 = .ok (.iload_n 1, 1) := by decide +kernel
theorem dX3_addName_3 : decode cX3_addName 3 = .ok (.invokevirtual 111, 3) := by decide +kernel
theorem dX3_addName_6 : decode cX3_addName 6 = .ok (.getfield 90, 3) := by decide +kernel
theorem dX3_addName_9 : decode cX3_addName 9 = .ok (.aload_n 0, 1) := by decide +kernel
theorem dX3_addName_10 : decode cX3_addName 10 = .ok (.iload_n 1, 1) := by decide +kernel
theorem dX3_addName_11 : decode cX3_addName 11 = .ok (.invokevirtual 111, 3) := by decide +kernel
theorem dX3_addName_14 : decode cX3_addName 14 = .ok (.getfield 96, 3) := by decide +kernel
theorem dX3_addName_17 : decode cX3_addName 17 = .ok (.aload_n 2, 1) := by decide +kernel
theorem dX3_addName_18 : decode cX3_addName 18 = .ok (.invokevirtual 119, 3) := by decide +kernel
theorem dX3_addName_21 : decode cX3_addName 21 = .ok (.return_, 1) := by decide +kernel
theorem dX3_addFamily_0 : decode cX3_addFamily 0 = .ok (.aload_n 0, 1) := by decide +kernel
theorem dX3_addFamily_1 : decode cX3_addFamily 1 = .ok (.aload_n 0, 1) := by decide +kernel
theorem dX3_addFamily_2 : decode cX3_addFamily 2 = .ok (.iload_n 1, 1) := by decide +kernel
theorem dX3_addFamily_3 : decode cX3_addFamily 3 = .ok (.invokevirtual 111, 3) := by decide +kernel
theorem dX3_addFamily_6 : decode cX3_addFamily 6 = .ok (.getfield 93, 3) := by decide +kernel
theorem dX3_addFamily_9 : decode cX3_addFamily 9 = .ok (.aload_n 0, 1) := by decide +kernel
theorem dX3_addFamily_10 : decode cX3_addFamily 10 = .ok (.iload_n 1, 1) := by decide +kernel
theorem dX3_addFamily_11 : decode cX3_addFamily 11 = .ok (.invokevirtual 111, 3) := by decide +kernel
theorem dX3_addFamily_14 : decode cX3_addFamily 14 = .ok (.getfield 96, 3) := by decide +kernel
theorem dX3_addFamily_17 : decode cX3_addFamily 17 = .ok (.aload_n 2, 1) := by decide +kernel
theorem dX3_addFamily_18 : decode cX3_addFamily 18 = .ok (.invokevirtual 119, 3) := by decide +kernel
theorem dX3_addFamily_21 : decode cX3_addFamily 21 = .ok (.return_, 1) := by decide +kernel
theorem dX3_addInitials_0 : decode cX3_addInitials 0 = .ok (.aload_n 0, 1) := by decide +kernel
theorem dX3_addInitials_1 : decode cX3_addInitials 1 = .ok (.iload_n 1, 1) := by decide +kernel
theorem dX3_addInitials_2 : decode cX3_addInitials 2 = .ok (.invokevirtual 111, 3) := by decide +kernel
theorem dX3_addInitials_5 : decode cX3_addInitials 5 = .ok (.astore_n 3, 1) := by decide +kernel
theorem dX3_addInitials_6 : decode cX3_addInitials 6 = .ok (.aload_n 3, 1) := by decide +kernel
theorem dX3_addInitials_7 : decode cX3_addInitials 7 = .ok (.getfield 99, 3) := by decide +kernel
theorem dX3_addInitials_10 : decode cX3_addInitials 10 = .ok (.istore 4, 2) := by decide +kernel
theorem dX3_addInitials_12 : decode cX3_addInitials 12 = .ok (.iload 4, 2) := by decide +kernel
theorem dX3_addInitials_14 : decode cX3_addInitials 14 = .ok (.aload_n 3, 1) := by decide +kernel
theorem dX3_addInitials_15 : decode cX3_addInitials 15 = .ok (.getfield 102, 3) := by decide +kernel
theorem dX3_addInitials_18 : decode cX3_addInitials 18 = .ok (.if_icmp .ge 47, 3) := by decide +kernel
theorem dX3_addInitials_21 : decode cX3_addInitials 21 = .ok (.iload 4, 2) := by decide +kernel
theorem dX3_addInitials_23 : decode cX3_addInitials 23 = .ok (.aload_n 3, 1) := by decide +kernel
theorem dX3_addInitials_24 : decode cX3_addInitials 24 = .ok (.getfield 99, 3) := by decide +kernel
theorem dX3_addInitials_27 : decode cX3_addInitials 27 = .ok (.if_icmp .le 9, 3) := by decide +kernel
theorem dX3_addInitials_30 : decode cX3_addInitials 30 = .ok (.aload_n 2, 1) := by decide +kernel
theorem dX3_addInitials_31 : decode cX3_addInitials 31 = .ok (.bipush 32, 2) := by decide +kernel
theorem dX3_addInitials_33 : decode cX3_addInitials 33 = .ok (.invokevirtual 123, 3) := by decide +kernel
theorem dX3_addInitials_36 : decode cX3_addInitials 36 = .ok (.aload_n 2, 1) := by decide +kernel
theorem dX3_addInitials_37 : decode cX3_addInitials 37 = .ok (.aload_n 0, 1) := by decide +kernel
theorem dX3_addInitials_38 : decode cX3_addInitials 38 = .ok (.getfield 12, 3) := by decide +kernel
theorem dX3_addInitials_41 : decode cX3_addInitials 41 = .ok (.aload_n 0, 1) := by decide +kernel
theorem dX3_addInitials_42 : decode cX3_addInitials 42 = .ok (.iload 4, 2) := by decide +kernel
theorem dX3_addInitials_44 : decode cX3_addInitials 44 = .ok (.invokevirtual 105, 3) := by decide +kernel
theorem dX3_addInitials_47 : decode cX3_addInitials 47 = .ok (.invokevirtual 50, 3) := by decide +kernel
theorem dX3_addInitials_50 : decode cX3_addInitials 50 = .ok (.invokevirtual 123, 3) := by decide +kernel
theorem dX3_addInitials_53 : decode cX3_addInitials 53 = .ok (.aload_n 2, 1) := by decide +kernel
theorem dX3_addInitials_54 : decode cX3_addInitials 54 = .ok (.bipush 46, 2) := by decide +kernel
theorem dX3_addInitials_56 : decode cX3_addInitials 56 = .ok (.invokevirtual 123, 3) := by decide +kernel
theorem dX3_addInitials_59 : decode cX3_addInitials 59 = .ok (.iinc 4 1, 3) := by decide +kernel
theorem dX3_addInitials_62 : decode cX3_addInitials 62 = .ok (.goto (-50), 3) := by decide +kernel
theorem dX3_addInitials_65 : decode cX3_addInitials 65 = .ok (.return_, 1) := by decide +kernel
theorem dX3_addWords_0 : decode cX3_addWords 0 = .ok (.iload_n 1, 1) := by decide +kernel
theorem dX3_addWords_1 : decode cX3_addWords 1 = .ok (.iconst 0, 1) := by decide +kernel
theorem dX3_addWords_2 : decode cX3_addWords 2 = .ok (.invokestatic 127, 3) := by decide +kernel
theorem dX3_addWords_5 : decode cX3_addWords 5 = .ok (.istore 4, 2) := by decide +kernel
theorem dX3_addWords_7 : decode cX3_addWords 7 = .ok (.iload 4, 2) := by decide +kernel
theorem dX3_addWords_9 : decode cX3_addWords 9 = .ok (.iload_n 2, 1) := by decide +kernel
theorem dX3_addWords_10 : decode cX3_addWords 10 = .ok (.if_icmp .ge 70, 3) := by decide +kernel
theorem dX3_addWords_13 : decode cX3_addWords 13 = .ok (.iload 4, 2) := by decide +kernel
theorem dX3_addWords_15 : decode cX3_addWords 15 = .ok (.aload_n 0, 1) := by decide +kernel
theorem dX3_addWords_16 : decode cX3_addWords 16 = .ok (.getfield 25, 3) := by decide +kernel
theorem dX3_addWords_19 : decode cX3_addWords 19 = .ok (.if_icmp .ge 61, 3) := by decide +kernel
theorem dX3_addWords_22 : decode cX3_addWords 22 = .ok (.iload 4, 2) := by decide +kernel
theorem dX3_addWords_24 : decode cX3_addWords 24 = .ok (.iload_n 1, 1) := by decide +kernel
theorem dX3_addWords_25 : decode cX3_addWords 25 = .ok (.if_icmp .le 9, 3) := by decide +kernel
theorem dX3_addWords_28 : decode cX3_addWords 28 = .ok (.aload_n 3, 1) := by decide +kernel
theorem dX3_addWords_29 : decode cX3_addWords 29 = .ok (.bipush 32, 2) := by decide +kernel
theorem dX3_addWords_31 : decode cX3_addWords 31 = .ok (.invokevirtual 123, 3) := by decide +kernel
theorem dX3_addWords_34 : decode cX3_addWords 34 = .ok (.aload_n 0, 1) := by decide +kernel
theorem dX3_addWords_35 : decode cX3_addWords 35 = .ok (.getfield 18, 3) := by decide +kernel
theorem dX3_addWords_38 : decode cX3_addWords 38 = .ok (.iload 4, 2) := by decide +kernel
theorem dX3_addWords_40 : decode cX3_addWords 40 = .ok (.iaload, 1) := by decide +kernel
theorem dX3_addWords_41 : decode cX3_addWords 41 = .ok (.istore 5, 2) := by decide +kernel
theorem dX3_addWords_43 : decode cX3_addWords 43 = .ok (.iload 5, 2) := by decide +kernel
theorem dX3_addWords_45 : decode cX3_addWords 45 = .ok (.aload_n 0, 1) := by decide +kernel
theorem dX3_addWords_46 : decode cX3_addWords 46 = .ok (.getfield 22, 3) := by decide +kernel
theorem dX3_addWords_49 : decode cX3_addWords 49 = .ok (.iload 4, 2) := by decide +kernel
theorem dX3_addWords_51 : decode cX3_addWords 51 = .ok (.iaload, 1) := by decide +kernel
theorem dX3_addWords_52 : decode cX3_addWords 52 = .ok (.if_icmp .ge 22, 3) := by decide +kernel
theorem dX3_addWords_55 : decode cX3_addWords 55 = .ok (.aload_n 3, 1) := by decide +kernel
theorem dX3_addWords_56 : decode cX3_addWords 56 = .ok (.aload_n 0, 1) := by decide +kernel
theorem dX3_addWords_57 : decode cX3_addWords 57 = .ok (.getfield 12, 3) := by decide +kernel
theorem dX3_addWords_60 : decode cX3_addWords 60 = .ok (.iload 5, 2) := by decide +kernel
theorem dX3_addWords_62 : decode cX3_addWords 62 = .ok (.invokevirtual 50, 3) := by decide +kernel
theorem dX3_addWords_65 : decode cX3_addWords 65 = .ok (.invokevirtual 123, 3) := by decide +kernel
theorem dX3_addWords_68 : decode cX3_addWords 68 = .ok (.iinc 5 1, 3) := by decide +kernel
theorem dX3_addWords_71 : decode cX3_addWords 71 = .ok (.goto (-28), 3) := by decide +kernel
theorem dX3_addWords_74 : decode cX3_addWords 74 = .ok (.iinc 4 1, 3) := by decide +kernel
theorem dX3_addWords_77 : decode cX3_addWords 77 = .ok (.goto (-70), 3) := by decide +kernel
theorem dX3_addWords_80 : decode cX3_addWords 80 = .ok (.return_, 1) := by decide +kernel
theorem dX3_addOrder_0 : decode cX3_addOrder 0 = .ok (.iconst 0, 1) := by decide +kernel
theorem dX3_addOrder_1 : decode cX3_addOrder 1 = .ok (.istore_n 2, 1) := by decide +kernel
theorem dX3_addOrder_2 : decode cX3_addOrder 2 = .ok (.iload_n 2, 1) := by decide +kernel
theorem dX3_addOrder_3 : decode cX3_addOrder 3 = .ok (.aload_n 0, 1) := by decide +kernel
theorem dX3_addOrder_4 : decode cX3_addOrder 4 = .ok (.getfield 43, 3) := by decide +kernel
theorem dX3_addOrder_7 : decode cX3_addOrder 7 = .ok (.if_icmp .ge 69, 3) := by decide +kernel
theorem dX3_addOrder_10 : decode cX3_addOrder 10 = .ok (.aload_n 0, 1) := by decide +kernel
theorem dX3_addOrder_11 : decode cX3_addOrder 11 = .ok (.iload_n 2, 1) := by decide +kernel
theorem dX3_addOrder_12 : decode cX3_addOrder 12 = .ok (.invokevirtual 111, 3) := by decide +kernel
theorem dX3_addOrder_15 : decode cX3_addOrder 15 = .ok (.astore_n 3, 1) := by decide +kernel
theorem dX3_addOrder_16 : decode cX3_addOrder 16 = .ok (.aload_n 0, 1) := by decide +kernel
theorem dX3_addOrder_17 : decode cX3_addOrder 17 = .ok (.aload_n 3, 1) := by decide +kernel
theorem dX3_addOrder_18 : decode cX3_addOrder 18 = .ok (.getfield 93, 3) := by decide +kernel
theorem dX3_addOrder_21 : decode cX3_addOrder 21 = .ok (.aload_n 3, 1) := by decide +kernel
theorem dX3_addOrder_22 : decode cX3_addOrder 22 = .ok (.getfield 96, 3) := by decide +kernel
theorem dX3_addOrder_25 : decode cX3_addOrder 25 = .ok (.aload_n 1, 1) := by decide +kernel
theorem dX3_addOrder_26 : decode cX3_addOrder 26 = .ok (.invokevirtual 119, 3) := by decide +kernel
theorem dX3_addOrder_29 : decode cX3_addOrder 29 = .ok (.aload_n 1, 1) := by decide +kernel
theorem dX3_addOrder_30 : decode cX3_addOrder 30 = .ok (.iconst 1, 1) := by decide +kernel
theorem dX3_addOrder_31 : decode cX3_addOrder 31 = .ok (.invokevirtual 123, 3) := by decide +kernel
theorem dX3_addOrder_34 : decode cX3_addOrder 34 = .ok (.aload_n 0, 1) := by decide +kernel
theorem dX3_addOrder_35 : decode cX3_addOrder 35 = .ok (.aload_n 3, 1) := by decide +kernel
theorem dX3_addOrder_36 : decode cX3_addOrder 36 = .ok (.getfield 99, 3) := by decide +kernel
theorem dX3_addOrder_39 : decode cX3_addOrder 39 = .ok (.aload_n 3, 1) := by decide +kernel
theorem dX3_addOrder_40 : decode cX3_addOrder 40 = .ok (.getfield 102, 3) := by decide +kernel
theorem dX3_addOrder_43 : decode cX3_addOrder 43 = .ok (.aload_n 1, 1) := by decide +kernel
theorem dX3_addOrder_44 : decode cX3_addOrder 44 = .ok (.invokevirtual 119, 3) := by decide +kernel
theorem dX3_addOrder_47 : decode cX3_addOrder 47 = .ok (.aload_n 1, 1) := by decide +kernel
theorem dX3_addOrder_48 : decode cX3_addOrder 48 = .ok (.iconst 1, 1) := by decide +kernel
theorem dX3_addOrder_49 : decode cX3_addOrder 49 = .ok (.invokevirtual 123, 3) := by decide +kernel
theorem dX3_addOrder_52 : decode cX3_addOrder 52 = .ok (.aload_n 0, 1) := by decide +kernel
theorem dX3_addOrder_53 : decode cX3_addOrder 53 = .ok (.aload_n 3, 1) := by decide +kernel
theorem dX3_addOrder_54 : decode cX3_addOrder 54 = .ok (.getfield 90, 3) := by decide +kernel
theorem dX3_addOrder_57 : decode cX3_addOrder 57 = .ok (.aload_n 3, 1) := by decide +kernel
theorem dX3_addOrder_58 : decode cX3_addOrder 58 = .ok (.getfield 93, 3) := by decide +kernel
theorem dX3_addOrder_61 : decode cX3_addOrder 61 = .ok (.aload_n 1, 1) := by decide +kernel
theorem dX3_addOrder_62 : decode cX3_addOrder 62 = .ok (.invokevirtual 119, 3) := by decide +kernel
theorem dX3_addOrder_65 : decode cX3_addOrder 65 = .ok (.aload_n 1, 1) := by decide +kernel
theorem dX3_addOrder_66 : decode cX3_addOrder 66 = .ok (.iconst 1, 1) := by decide +kernel
theorem dX3_addOrder_67 : decode cX3_addOrder 67 = .ok (.invokevirtual 123, 3) := by decide +kernel
theorem dX3_addOrder_70 : decode cX3_addOrder 70 = .ok (.iinc 2 1, 3) := by decide +kernel
theorem dX3_addOrder_73 : decode cX3_addOrder 73 = .ok (.goto (-71), 3) := by decide +kernel
theorem dX3_addOrder_76 : decode cX3_addOrder 76 = .ok (.aload_n 1, 1) := by decide +kernel
theorem dX3_addOrder_77 : decode cX3_addOrder 77 = .ok (.iconst 0, 1) := by decide +kernel
theorem dX3_addOrder_78 : decode cX3_addOrder 78 = .ok (.invokevirtual 123, 3) := by decide +kernel
theorem dX3_addOrder_81 : decode cX3_addOrder 81 = .ok (.return_, 1) := by decide +kernel
theorem dX3_addPiece_0 : decode cX3_addPiece 0 = .ok (.aload_n 0, 1) := by decide +kernel
theorem dX3_addPiece_1 : decode cX3_addPiece 1 = .ok (.getfield 43, 3) := by decide +kernel
theorem dX3_addPiece_4 : decode cX3_addPiece 4 = .ok (.iconst 3, 1) := by decide +kernel
theorem dX3_addPiece_5 : decode cX3_addPiece 5 = .ok (.if_icmp .le 7, 3) := by decide +kernel
theorem dX3_addPiece_8 : decode cX3_addPiece 8 = .ok (.iconst 1, 1) := by decide +kernel
theorem dX3_addPiece_9 : decode cX3_addPiece 9 = .ok (.goto 7, 3) := by decide +kernel
theorem dX3_addPiece_12 : decode cX3_addPiece 12 = .ok (.aload_n 0, 1) := by decide +kernel
theorem dX3_addPiece_13 : decode cX3_addPiece 13 = .ok (.getfield 43, 3) := by decide +kernel
theorem dX3_addPiece_16 : decode cX3_addPiece 16 = .ok (.istore_n 2, 1) := by decide +kernel
theorem dX3_addPiece_17 : decode cX3_addPiece 17 = .ok (.iconst 0, 1) := by decide +kernel
theorem dX3_addPiece_18 : decode cX3_addPiece 18 = .ok (.istore_n 3, 1) := by decide +kernel
theorem dX3_addPiece_19 : decode cX3_addPiece 19 = .ok (.iload_n 3, 1) := by decide +kernel
theorem dX3_addPiece_20 : decode cX3_addPiece 20 = .ok (.iload_n 2, 1) := by decide +kernel
theorem dX3_addPiece_21 : decode cX3_addPiece 21 = .ok (.if_icmp .ge 57, 3) := by decide +kernel
theorem dX3_addPiece_24 : decode cX3_addPiece 24 = .ok (.iload_n 3, 1) := by decide +kernel
theorem dX3_addPiece_25 : decode cX3_addPiece 25 = .ok (.ifCond .le 21, 3) := by decide +kernel
theorem dX3_addPiece_28 : decode cX3_addPiece 28 = .ok (.aload_n 1, 1) := by decide +kernel
theorem dX3_addPiece_29 : decode cX3_addPiece 29 = .ok (.iload_n 3, 1) := by decide +kernel
theorem dX3_addPiece_30 : decode cX3_addPiece 30 = .ok (.iload_n 2, 1) := by decide +kernel
theorem dX3_addPiece_31 : decode cX3_addPiece 31 = .ok (.iconst 1, 1) := by decide +kernel
theorem dX3_addPiece_32 : decode cX3_addPiece 32 = .ok (.isub, 1) := by decide +kernel
theorem dX3_addPiece_33 : decode cX3_addPiece 33 = .ok (.if_icmp .ne 8, 3) := by decide +kernel
theorem dX3_addPiece_36 : decode cX3_addPiece 36 = .ok (.ldc 133, 2) := by decide +kernel
theorem dX3_addPiece_38 : decode cX3_addPiece 38 = .ok (.goto 5, 3) := by decide +kernel
theorem dX3_addPiece_41 : decode cX3_addPiece 41 = .ok (.ldc 135, 2) := by decide +kernel
theorem dX3_addPiece_43 : decode cX3_addPiece 43 = .ok (.invokevirtual 137, 3) := by decide +kernel
theorem dX3_addPiece_46 : decode cX3_addPiece 46 = .ok (.aload_n 0, 1) := by decide +kernel
theorem dX3_addPiece_47 : decode cX3_addPiece 47 = .ok (.iload_n 3, 1) := by decide +kernel
theorem dX3_addPiece_48 : decode cX3_addPiece 48 = .ok (.aload_n 1, 1) := by decide +kernel
theorem dX3_addPiece_49 : decode cX3_addPiece 49 = .ok (.invokevirtual 141, 3) := by decide +kernel
theorem dX3_addPiece_52 : decode cX3_addPiece 52 = .ok (.aload_n 0, 1) := by decide +kernel
theorem dX3_addPiece_53 : decode cX3_addPiece 53 = .ok (.iload_n 3, 1) := by decide +kernel
theorem dX3_addPiece_54 : decode cX3_addPiece 54 = .ok (.invokevirtual 145, 3) := by decide +kernel
theorem dX3_addPiece_57 : decode cX3_addPiece 57 = .ok (.ifCond .eq 15, 3) := by decide +kernel
theorem dX3_addPiece_60 : decode cX3_addPiece 60 = .ok (.aload_n 1, 1) := by decide +kernel
theorem dX3_addPiece_61 : decode cX3_addPiece 61 = .ok (.ldc 135, 2) := by decide +kernel
theorem dX3_addPiece_63 : decode cX3_addPiece 63 = .ok (.invokevirtual 137, 3) := by decide +kernel
theorem dX3_addPiece_66 : decode cX3_addPiece 66 = .ok (.aload_n 0, 1) := by decide +kernel
theorem dX3_addPiece_67 : decode cX3_addPiece 67 = .ok (.iload_n 3, 1) := by decide +kernel
theorem dX3_addPiece_68 : decode cX3_addPiece 68 = .ok (.aload_n 1, 1) := by decide +kernel
theorem dX3_addPiece_69 : decode cX3_addPiece 69 = .ok (.invokevirtual 147, 3) := by decide +kernel
theorem dX3_addPiece_72 : decode cX3_addPiece 72 = .ok (.iinc 3 1, 3) := by decide +kernel
theorem dX3_addPiece_75 : decode cX3_addPiece 75 = .ok (.goto (-56), 3) := by decide +kernel
theorem dX3_addPiece_78 : decode cX3_addPiece 78 = .ok (.iload_n 2, 1) := by decide +kernel
theorem dX3_addPiece_79 : decode cX3_addPiece 79 = .ok (.aload_n 0, 1) := by decide +kernel
theorem dX3_addPiece_80 : decode cX3_addPiece 80 = .ok (.getfield 43, 3) := by decide +kernel
theorem dX3_addPiece_83 : decode cX3_addPiece 83 = .ok (.if_icmp .ge 9, 3) := by decide +kernel
theorem dX3_addPiece_86 : decode cX3_addPiece 86 = .ok (.aload_n 1, 1) := by decide +kernel
theorem dX3_addPiece_87 : decode cX3_addPiece 87 = .ok (.ldc 150, 2) := by decide +kernel
theorem dX3_addPiece_89 : decode cX3_addPiece 89 = .ok (.invokevirtual 137, 3) := by decide +kernel
theorem dX3_addPiece_92 : decode cX3_addPiece 92 = .ok (.return_, 1) := by decide +kernel
theorem dX3_addFamilySigns_0 : decode cX3_addFamilySigns 0 = .ok (.iconst 0, 1) := by decide +kernel
theorem dX3_addFamilySigns_1 : decode cX3_addFamilySigns 1 = .ok (.istore_n 2, 1) := by decide +kernel
theorem dX3_addFamilySigns_2 : decode cX3_addFamilySigns 2 = .ok (.iload_n 2, 1) := by decide +kernel
theorem dX3_addFamilySigns_3 : decode cX3_addFamilySigns 3 = .ok (.aload_n 0, 1) := by decide +kernel
theorem dX3_addFamilySigns_4 : decode cX3_addFamilySigns 4 = .ok (.getfield 43, 3) := by decide +kernel
theorem dX3_addFamilySigns_7 : decode cX3_addFamilySigns 7 = .ok (.if_icmp .ge 50, 3) := by decide +kernel
theorem dX3_addFamilySigns_10 : decode cX3_addFamilySigns 10 = .ok (.iload_n 2, 1) := by decide +kernel
theorem dX3_addFamilySigns_11 : decode cX3_addFamilySigns 11 = .ok (.iconst 4, 1) := by decide +kernel
theorem dX3_addFamilySigns_12 : decode cX3_addFamilySigns 12 = .ok (.if_icmp .ge 45, 3) := by decide +kernel
theorem dX3_addFamilySigns_15 : decode cX3_addFamilySigns 15 = .ok (.aload_n 0, 1) := by decide +kernel
theorem dX3_addFamilySigns_16 : decode cX3_addFamilySigns 16 = .ok (.iload_n 2, 1) := by decide +kernel
theorem dX3_addFamilySigns_17 : decode cX3_addFamilySigns 17 = .ok (.invokevirtual 111, 3) := by decide +kernel
theorem dX3_addFamilySigns_20 : decode cX3_addFamilySigns 20 = .ok (.astore_n 3, 1) := by decide +kernel
theorem dX3_addFamilySigns_21 : decode cX3_addFamilySigns 21 = .ok (.aload_n 3, 1) := by decide +kernel
theorem dX3_addFamilySigns_22 : decode cX3_addFamilySigns 22 = .ok (.getfield 93, 3) := by decide +kernel
theorem dX3_addFamilySigns_25 : decode cX3_addFamilySigns 25 = .ok (.aload_n 3, 1) := by decide +kernel
theorem dX3_addFamilySigns_26 : decode cX3_addFamilySigns 26 = .ok (.getfield 96, 3) := by decide +kernel
theorem dX3_addFamilySigns_29 : decode cX3_addFamilySigns 29 = .ok (.if_icmp .ge 22, 3) := by decide +kernel
theorem dX3_addFamilySigns_32 : decode cX3_addFamilySigns 32 = .ok (.aload_n 1, 1) := by decide +kernel
theorem dX3_addFamilySigns_33 : decode cX3_addFamilySigns 33 = .ok (.aload_n 0, 1) := by decide +kernel
theorem dX3_addFamilySigns_34 : decode cX3_addFamilySigns 34 = .ok (.getfield 12, 3) := by decide +kernel
theorem dX3_addFamilySigns_37 : decode cX3_addFamilySigns 37 = .ok (.aload_n 0, 1) := by decide +kernel
theorem dX3_addFamilySigns_38 : decode cX3_addFamilySigns 38 = .ok (.aload_n 3, 1) := by decide +kernel
theorem dX3_addFamilySigns_39 : decode cX3_addFamilySigns 39 = .ok (.getfield 93, 3) := by decide +kernel
theorem dX3_addFamilySigns_42 : decode cX3_addFamilySigns 42 = .ok (.invokevirtual 105, 3) := by decide +kernel
theorem dX3_addFamilySigns_45 : decode cX3_addFamilySigns 45 = .ok (.invokevirtual 50, 3) := by decide +kernel
theorem dX3_addFamilySigns_48 : decode cX3_addFamilySigns 48 = .ok (.invokevirtual 123, 3) := by decide +kernel
theorem dX3_addFamilySigns_51 : decode cX3_addFamilySigns 51 = .ok (.iinc 2 1, 3) := by decide +kernel
theorem dX3_addFamilySigns_54 : decode cX3_addFamilySigns 54 = .ok (.goto (-52), 3) := by decide +kernel
theorem dX3_addFamilySigns_57 : decode cX3_addFamilySigns 57 = .ok (.aload_n 0, 1) := by decide +kernel
theorem dX3_addFamilySigns_58 : decode cX3_addFamilySigns 58 = .ok (.getfield 43, 3) := by decide +kernel
theorem dX3_addFamilySigns_61 : decode cX3_addFamilySigns 61 = .ok (.iconst 4, 1) := by decide +kernel
theorem dX3_addFamilySigns_62 : decode cX3_addFamilySigns 62 = .ok (.if_icmp .le 9, 3) := by decide +kernel
theorem dX3_addFamilySigns_65 : decode cX3_addFamilySigns 65 = .ok (.aload_n 1, 1) := by decide +kernel
theorem dX3_addFamilySigns_66 : decode cX3_addFamilySigns 66 = .ok (.bipush 43, 2) := by decide +kernel
theorem dX3_addFamilySigns_68 : decode cX3_addFamilySigns 68 = .ok (.invokevirtual 123, 3) := by decide +kernel
theorem dX3_addFamilySigns_71 : decode cX3_addFamilySigns 71 = .ok (.return_, 1) := by decide +kernel
theorem dX4_init_0 : decode cX4_init 0 = .ok (.aload_n 0, 1) := by decide +kernel
theorem dX4_init_1 : decode cX4_init 1 = .ok (.invokespecial 3, 3) := by decide +kernel
theorem dX4_init_4 : decode cX4_init 4 = .ok (.aload_n 0, 1) := by decide +kernel
end
section
theorem dX4_init_5 : decode cX4_init 5 = .ok (.new 9, 3) := by decide +kernel
theorem dX4_init_8 : decode cX4_init 8 = .ok (.dup, 1) := by decide +kernel
theorem dX4_init_9 : decode cX4_init 9 = .ok (.invokespecial 11, 3) := by decide +kernel
theorem dX4_init_12 : decode cX4_init 12 = .ok (.putfield 12, 3) := by decide +kernel
theorem dX4_init_15 : decode cX4_init 15 = .ok (.aload_n 0, 1) := by decide +kernel
theorem dX4_init_16 : decode cX4_init 16 = .ok (.new 18, 3) := by decide +kernel
theorem dX4_init_19 : decode cX4_init 19 = .ok (.dup, 1) := by decide +kernel
theorem dX4_init_20 : decode cX4_init 20 = .ok (.invokespecial 20, 3) := by decide +kernel
theorem dX4_init_23 : decode cX4_init 23 = .ok (.putfield 21, 3) := by decide +kernel
theorem dX4_init_26 : decode cX4_init 26 = .ok (.aload_n 0, 1) := by decide +kernel
theorem dX4_init_27 : decode cX4_init 27 = .ok (.new 18, 3) := by decide +kernel
theorem dX4_init_30 : decode cX4_init 30 = .ok (.dup, 1) := by decide +kernel
theorem dX4_init_31 : decode cX4_init 31 = .ok (.invokespecial 20, 3) := by decide +kernel
theorem dX4_init_34 : decode cX4_init 34 = .ok (.putfield 25, 3) := by decide +kernel
theorem dX4_init_37 : decode cX4_init 37 = .ok (.aload_n 0, 1) := by decide +kernel
theorem dX4_init_38 : decode cX4_init 38 = .ok (.new 18, 3) := by decide +kernel
theorem dX4_init_41 : decode cX4_init 41 = .ok (.dup, 1) := by decide +kernel
theorem dX4_init_42 : decode cX4_init 42 = .ok (.invokespecial 20, 3) := by decide +kernel
theorem dX4_init_45 : decode cX4_init 45 = .ok (.putfield 28, 3) := by decide +kernel
theorem dX4_init_48 : decode cX4_init 48 = .ok (.aload_n 0, 1) := by decide +kernel
theorem dX4_init_49 : decode cX4_init 49 = .ok (.new 18, 3) := by decide +kernel
theorem dX4_init_52 : decode cX4_init 52 = .ok (.dup, 1) := by decide +kernel
theorem dX4_init_53 : decode cX4_init 53 = .ok (.invokespecial 20, 3) := by decide +kernel
theorem dX4_init_56 : decode cX4_init 56 = .ok (.putfield 31, 3) := by decide +kernel
theorem dX4_init_59 : decode cX4_init 59 = .ok (.aload_n 0, 1) := by decide +kernel
theorem dX4_init_60 : decode cX4_init 60 = .ok (.iconst 0, 1) := by decide +kernel
theorem dX4_init_61 : decode cX4_init 61 = .ok (.putfield 34, 3) := by decide +kernel
theorem dX4_init_64 : decode cX4_init 64 = .ok (.aload_n 0, 1) := by decide +kernel
theorem dX4_init_65 : decode cX4_init 65 = .ok (.new 18, 3) := by decide +kernel
theorem dX4_init_68 : decode cX4_init 68 = .ok (.dup, 1) := by decide +kernel
theorem dX4_init_69 : decode cX4_init 69 = .ok (.invokespecial 20, 3) := by decide +kernel
theorem dX4_init_72 : decode cX4_init 72 = .ok (.putfield 38, 3) := by decide +kernel
theorem dX4_init_75 : decode cX4_init 75 = .ok (.aload_n 0, 1) := by decide +kernel
theorem dX4_init_76 : decode cX4_init 76 = .ok (.aload_n 1, 1) := by decide +kernel
theorem dX4_init_77 : decode cX4_init 77 = .ok (.putfield 41, 3) := by decide +kernel
theorem dX4_init_80 : decode cX4_init 80 = .ok (.return_, 1) := by decide +kernel
theorem dX4_tellOf_0 : decode cX4_tellOf 0 = .ok (.aload_n 0, 1) := by decide +kernel
theorem dX4_tellOf_1 : decode cX4_tellOf 1 = .ok (.aload_n 1, 1) := by decide +kernel
theorem dX4_tellOf_2 : decode cX4_tellOf 2 = .ok (.putfield 41, 3) := by decide +kernel
theorem dX4_tellOf_5 : decode cX4_tellOf 5 = .ok (.aload_n 0, 1) := by decide +kernel
theorem dX4_tellOf_6 : decode cX4_tellOf 6 = .ok (.getfield 12, 3) := by decide +kernel
theorem dX4_tellOf_9 : decode cX4_tellOf 9 = .ok (.aload_n 1, 1) := by decide +kernel
theorem dX4_tellOf_10 : decode cX4_tellOf 10 = .ok (.iconst 0, 1) := by decide +kernel
theorem dX4_tellOf_11 : decode cX4_tellOf 11 = .ok (.invokevirtual 45, 3) := by decide +kernel
theorem dX4_tellOf_14 : decode cX4_tellOf 14 = .ok (.invokevirtual 51, 3) := by decide +kernel
theorem dX4_tellOf_17 : decode cX4_tellOf 17 = .ok (.aload_n 0, 1) := by decide +kernel
theorem dX4_tellOf_18 : decode cX4_tellOf 18 = .ok (.getfield 25, 3) := by decide +kernel
theorem dX4_tellOf_21 : decode cX4_tellOf 21 = .ok (.invokevirtual 55, 3) := by decide +kernel
theorem dX4_tellOf_24 : decode cX4_tellOf 24 = .ok (.aload_n 0, 1) := by decide +kernel
theorem dX4_tellOf_25 : decode cX4_tellOf 25 = .ok (.getfield 28, 3) := by decide +kernel
theorem dX4_tellOf_28 : decode cX4_tellOf 28 = .ok (.invokevirtual 55, 3) := by decide +kernel
theorem dX4_tellOf_31 : decode cX4_tellOf 31 = .ok (.aload_n 0, 1) := by decide +kernel
theorem dX4_tellOf_32 : decode cX4_tellOf 32 = .ok (.getfield 12, 3) := by decide +kernel
theorem dX4_tellOf_35 : decode cX4_tellOf 35 = .ok (.invokevirtual 58, 3) := by decide +kernel
theorem dX4_tellOf_38 : decode cX4_tellOf 38 = .ok (.ifCond .le 34, 3) := by decide +kernel
theorem dX4_tellOf_41 : decode cX4_tellOf 41 = .ok (.aload_n 0, 1) := by decide +kernel
theorem dX4_tellOf_42 : decode cX4_tellOf 42 = .ok (.getfield 12, 3) := by decide +kernel
theorem dX4_tellOf_45 : decode cX4_tellOf 45 = .ok (.iconst 0, 1) := by decide +kernel
theorem dX4_tellOf_46 : decode cX4_tellOf 46 = .ok (.aload_n 0, 1) := by decide +kernel
theorem dX4_tellOf_47 : decode cX4_tellOf 47 = .ok (.getfield 25, 3) := by decide +kernel
theorem dX4_tellOf_50 : decode cX4_tellOf 50 = .ok (.invokevirtual 62, 3) := by decide +kernel
theorem dX4_tellOf_53 : decode cX4_tellOf 53 = .ok (.aload_n 0, 1) := by decide +kernel
theorem dX4_tellOf_54 : decode cX4_tellOf 54 = .ok (.getfield 25, 3) := by decide +kernel
theorem dX4_tellOf_57 : decode cX4_tellOf 57 = .ok (.invokevirtual 66, 3) := by decide +kernel
theorem dX4_tellOf_60 : decode cX4_tellOf 60 = .ok (.aload_n 0, 1) := by decide +kernel
theorem dX4_tellOf_61 : decode cX4_tellOf 61 = .ok (.getfield 12, 3) := by decide +kernel
theorem dX4_tellOf_64 : decode cX4_tellOf 64 = .ok (.iconst 0, 1) := by decide +kernel
theorem dX4_tellOf_65 : decode cX4_tellOf 65 = .ok (.aload_n 0, 1) := by decide +kernel
theorem dX4_tellOf_66 : decode cX4_tellOf 66 = .ok (.getfield 28, 3) := by decide +kernel
theorem dX4_tellOf_69 : decode cX4_tellOf 69 = .ok (.invokevirtual 69, 3) := by decide +kernel
theorem dX4_tellOf_72 : decode cX4_tellOf 72 = .ok (.return_, 1) := by decide +kernel
theorem dX4_setOrder_0 : decode cX4_setOrder 0 = .ok (.aload_n 0, 1) := by decide +kernel
theorem dX4_setOrder_1 : decode cX4_setOrder 1 = .ok (.getfield 21, 3) := by decide +kernel
theorem dX4_setOrder_4 : decode cX4_setOrder 4 = .ok (.invokevirtual 55, 3) := by decide +kernel
theorem dX4_setOrder_7 : decode cX4_setOrder 7 = .ok (.iload_n 1, 1) := by decide +kernel
theorem dX4_setOrder_8 : decode cX4_setOrder 8 = .ok (.iconst 2, 1) := by decide +kernel
theorem dX4_setOrder_9 : decode cX4_setOrder 9 = .ok (.if_icmp .ne 21, 3) := by decide +kernel
theorem dX4_setOrder_12 : decode cX4_setOrder 12 = .ok (.aload_n 0, 1) := by decide +kernel
theorem dX4_setOrder_13 : decode cX4_setOrder 13 = .ok (.invokevirtual 72, 3) := by decide +kernel
theorem dX4_setOrder_16 : decode cX4_setOrder 16 = .ok (.aload_n 0, 1) := by decide +kernel
theorem dX4_setOrder_17 : decode cX4_setOrder 17 = .ok (.getfield 12, 3) := by decide +kernel
theorem dX4_setOrder_20 : decode cX4_setOrder 20 = .ok (.aload_n 0, 1) := by decide +kernel
theorem dX4_setOrder_21 : decode cX4_setOrder 21 = .ok (.getfield 21, 3) := by decide +kernel
theorem dX4_setOrder_24 : decode cX4_setOrder 24 = .ok (.invokevirtual 75, 3) := by decide +kernel
theorem dX4_setOrder_27 : decode cX4_setOrder 27 = .ok (.goto 18, 3) := by decide +kernel
theorem dX4_setOrder_30 : decode cX4_setOrder 30 = .ok (.aload_n 0, 1) := by decide +kernel
theorem dX4_setOrder_31 : decode cX4_setOrder 31 = .ok (.getfield 12, 3) := by decide +kernel
theorem dX4_setOrder_34 : decode cX4_setOrder 34 = .ok (.aload_n 0, 1) := by decide +kernel
theorem dX4_setOrder_35 : decode cX4_setOrder 35 = .ok (.getfield 21, 3) := by decide +kernel
theorem dX4_setOrder_38 : decode cX4_setOrder 38 = .ok (.invokevirtual 75, 3) := by decide +kernel
theorem dX4_setOrder_41 : decode cX4_setOrder 41 = .ok (.aload_n 0, 1) := by decide +kernel
theorem dX4_setOrder_42 : decode cX4_setOrder 42 = .ok (.invokevirtual 72, 3) := by decide +kernel
theorem dX4_setOrder_45 : decode cX4_setOrder 45 = .ok (.aload_n 0, 1) := by decide +kernel
theorem dX4_setOrder_46 : decode cX4_setOrder 46 = .ok (.getfield 21, 3) := by decide +kernel
theorem dX4_setOrder_49 : decode cX4_setOrder 49 = .ok (.aload_n 0, 1) := by decide +kernel
theorem dX4_setOrder_50 : decode cX4_setOrder 50 = .ok (.getfield 41, 3) := by decide +kernel
theorem dX4_setOrder_53 : decode cX4_setOrder 53 = .ok (.iconst 1, 1) := by decide +kernel
theorem dX4_setOrder_54 : decode cX4_setOrder 54 = .ok (.invokevirtual 45, 3) := by decide +kernel
theorem dX4_setOrder_57 : decode cX4_setOrder 57 = .ok (.invokevirtual 78, 3) := by decide +kernel
theorem dX4_setOrder_60 : decode cX4_setOrder 60 = .ok (.aload_n 0, 1) := by decide +kernel
theorem dX4_setOrder_61 : decode cX4_setOrder 61 = .ok (.getfield 21, 3) := by decide +kernel
theorem dX4_setOrder_64 : decode cX4_setOrder 64 = .ok (.invokevirtual 66, 3) := by decide +kernel
theorem dX4_setOrder_67 : decode cX4_setOrder 67 = .ok (.return_, 1) := by decide +kernel
theorem dX4_addYearOrder_0 : decode cX4_addYearOrder 0 = .ok (.aload_n 0, 1) := by decide +kernel
theorem dX4_addYearOrder_1 : decode cX4_addYearOrder 1 = .ok (.getfield 21, 3) := by decide +kernel
theorem dX4_addYearOrder_4 : decode cX4_addYearOrder 4 = .ok (.aload_n 0, 1) := by decide +kernel
theorem dX4_addYearOrder_5 : decode cX4_addYearOrder 5 = .ok (.getfield 41, 3) := by decide +kernel
theorem dX4_addYearOrder_8 : decode cX4_addYearOrder 8 = .ok (.iconst 2, 1) := by decide +kernel
theorem dX4_addYearOrder_9 : decode cX4_addYearOrder 9 = .ok (.invokevirtual 45, 3) := by decide +kernel
theorem dX4_addYearOrder_12 : decode cX4_addYearOrder 12 = .ok (.invokevirtual 78, 3) := by decide +kernel
theorem dX4_addYearOrder_15 : decode cX4_addYearOrder 15 = .ok (.aload_n 0, 1) := by decide +kernel
theorem dX4_addYearOrder_16 : decode cX4_addYearOrder 16 = .ok (.getfield 21, 3) := by decide +kernel
theorem dX4_addYearOrder_19 : decode cX4_addYearOrder 19 = .ok (.iconst 0, 1) := by decide +kernel
theorem dX4_addYearOrder_20 : decode cX4_addYearOrder 20 = .ok (.invokevirtual 81, 3) := by decide +kernel
theorem dX4_addYearOrder_23 : decode cX4_addYearOrder 23 = .ok (.return_, 1) := by decide +kernel
theorem dX4_isMistakenFor_0 : decode cX4_isMistakenFor 0 = .ok (.aload_n 0, 1) := by decide +kernel
theorem dX4_isMistakenFor_1 : decode cX4_isMistakenFor 1 = .ok (.getfield 12, 3) := by decide +kernel
theorem dX4_isMistakenFor_4 : decode cX4_isMistakenFor 4 = .ok (.invokevirtual 58, 3) := by decide +kernel
theorem dX4_isMistakenFor_7 : decode cX4_isMistakenFor 7 = .ok (.ifCond .le 45, 3) := by decide +kernel
theorem dX4_isMistakenFor_10 : decode cX4_isMistakenFor 10 = .ok (.aload_n 1, 1) := by decide +kernel
theorem dX4_isMistakenFor_11 : decode cX4_isMistakenFor 11 = .ok (.getfield 12, 3) := by decide +kernel
theorem dX4_isMistakenFor_14 : decode cX4_isMistakenFor 14 = .ok (.invokevirtual 58, 3) := by decide +kernel
theorem dX4_isMistakenFor_17 : decode cX4_isMistakenFor 17 = .ok (.ifCond .le 35, 3) := by decide +kernel
theorem dX4_isMistakenFor_20 : decode cX4_isMistakenFor 20 = .ok (.aload_n 0, 1) := by decide +kernel
theorem dX4_isMistakenFor_21 : decode cX4_isMistakenFor 21 = .ok (.getfield 28, 3) := by decide +kernel
theorem dX4_isMistakenFor_24 : decode cX4_isMistakenFor 24 = .ok (.aload_n 1, 1) := by decide +kernel
theorem dX4_isMistakenFor_25 : decode cX4_isMistakenFor 25 = .ok (.getfield 28, 3) := by decide +kernel
theorem dX4_isMistakenFor_28 : decode cX4_isMistakenFor 28 = .ok (.invokevirtual 85, 3) := by decide +kernel
theorem dX4_isMistakenFor_31 : decode cX4_isMistakenFor 31 = .ok (.ifCond .ne 21, 3) := by decide +kernel
theorem dX4_isMistakenFor_34 : decode cX4_isMistakenFor 34 = .ok (.aload_n 0, 1) := by decide +kernel
theorem dX4_isMistakenFor_35 : decode cX4_isMistakenFor 35 = .ok (.getfield 25, 3) := by decide +kernel
theorem dX4_isMistakenFor_38 : decode cX4_isMistakenFor 38 = .ok (.aload_n 1, 1) := by decide +kernel
theorem dX4_isMistakenFor_39 : decode cX4_isMistakenFor 39 = .ok (.getfield 25, 3) := by decide +kernel
theorem dX4_isMistakenFor_42 : decode cX4_isMistakenFor 42 = .ok (.invokevirtual 85, 3) := by decide +kernel
theorem dX4_isMistakenFor_45 : decode cX4_isMistakenFor 45 = .ok (.ifCond .eq 7, 3) := by decide +kernel
theorem dX4_isMistakenFor_48 : decode cX4_isMistakenFor 48 = .ok (.iconst 1, 1) := by decide +kernel
theorem dX4_isMistakenFor_49 : decode cX4_isMistakenFor 49 = .ok (.goto 4, 3) := by decide +kernel
theorem dX4_isMistakenFor_52 : decode cX4_isMistakenFor 52 = .ok (.iconst 0, 1) := by decide +kernel
theorem dX4_isMistakenFor_53 : decode cX4_isMistakenFor 53 = .ok (.ireturn, 1) := by decide +kernel
theorem dX4_setBase_0 : decode cX4_setBase 0 = .ok (.aload_n 0, 1) := by decide +kernel
theorem dX4_setBase_1 : decode cX4_setBase 1 = .ok (.getfield 31, 3) := by decide +kernel
theorem dX4_setBase_4 : decode cX4_setBase 4 = .ok (.invokevirtual 55, 3) := by decide +kernel
theorem dX4_setBase_7 : decode cX4_setBase 7 = .ok (.iload_n 1, 1) := by decide +kernel
theorem dX4_setBase_8 : decode cX4_setBase 8 = .ok (.iconst 1, 1) := by decide +kernel
theorem dX4_setBase_9 : decode cX4_setBase 9 = .ok (.if_icmp .ne 10, 3) := by decide +kernel
theorem dX4_setBase_12 : decode cX4_setBase 12 = .ok (.aload_n 0, 1) := by decide +kernel
theorem dX4_setBase_13 : decode cX4_setBase 13 = .ok (.invokevirtual 89, 3) := by decide +kernel
theorem dX4_setBase_16 : decode cX4_setBase 16 = .ok (.goto 13, 3) := by decide +kernel
theorem dX4_setBase_19 : decode cX4_setBase 19 = .ok (.iload_n 1, 1) := by decide +kernel
theorem dX4_setBase_20 : decode cX4_setBase 20 = .ok (.iconst 2, 1) := by decide +kernel
theorem dX4_setBase_21 : decode cX4_setBase 21 = .ok (.if_icmp .ne 8, 3) := by decide +kernel
theorem dX4_setBase_24 : decode cX4_setBase 24 = .ok (.aload_n 0, 1) := by decide +kernel
theorem dX4_setBase_25 : decode cX4_setBase 25 = .ok (.iload_n 2, 1) := by decide +kernel
theorem dX4_setBase_26 : decode cX4_setBase 26 = .ok (.invokevirtual 92, 3) := by decide +kernel
theorem dX4_setBase_29 : decode cX4_setBase 29 = .ok (.return_, 1) := by decide +kernel
theorem dX4_addShortBase_0 : decode cX4_addShortBase 0 = .ok (.aload_n 0, 1) := by decide +kernel
theorem dX4_addShortBase_1 : decode cX4_addShortBase 1 = .ok (.getfield 12, 3) := by decide +kernel
theorem dX4_addShortBase_4 : decode cX4_addShortBase 4 = .ok (.invokevirtual 58, 3) := by decide +kernel
theorem dX4_addShortBase_7 : decode cX4_addShortBase 7 = .ok (.ifCond .ne 22, 3) := by decide +kernel
theorem dX4_addShortBase_10 : decode cX4_addShortBase 10 = .ok (.aload_n 0, 1) := by decide +kernel
theorem dX4_addShortBase_11 : decode cX4_addShortBase 11 = .ok (.getfield 31, 3) := by decide +kernel
theorem dX4_addShortBase_14 : decode cX4_addShortBase 14 = .ok (.aload_n 0, 1) := by decide +kernel
theorem dX4_addShortBase_15 : decode cX4_addShortBase 15 = .ok (.getfield 41, 3) := by decide +kernel
theorem dX4_addShortBase_18 : decode cX4_addShortBase 18 = .ok (.getfield 96, 3) := by decide +kernel
theorem dX4_addShortBase_21 : decode cX4_addShortBase 21 = .ok (.iconst 0, 1) := by decide +kernel
theorem dX4_addShortBase_22 : decode cX4_addShortBase 22 = .ok (.iconst 3, 1) := by decide +kernel
theorem dX4_addShortBase_23 : decode cX4_addShortBase 23 = .ok (.invokevirtual 99, 3) := by decide +kernel
theorem dX4_addShortBase_26 : decode cX4_addShortBase 26 = .ok (.goto 48, 3) := by decide +kernel
theorem dX4_addShortBase_29 : decode cX4_addShortBase 29 = .ok (.aload_n 0, 1) := by decide +kernel
theorem dX4_addShortBase_30 : decode cX4_addShortBase 30 = .ok (.getfield 12, 3) := by decide +kernel
theorem dX4_addShortBase_33 : decode cX4_addShortBase 33 = .ok (.invokevirtual 58, 3) := by decide +kernel
theorem dX4_addShortBase_36 : decode cX4_addShortBase 36 = .ok (.iconst 1, 1) := by decide +kernel
theorem dX4_addShortBase_37 : decode cX4_addShortBase 37 = .ok (.if_icmp .ne 26, 3) := by decide +kernel
theorem dX4_addShortBase_40 : decode cX4_addShortBase 40 = .ok (.aload_n 0, 1) := by decide +kernel
theorem dX4_addShortBase_41 : decode cX4_addShortBase 41 = .ok (.getfield 12, 3) := by decide +kernel
theorem dX4_addShortBase_44 : decode cX4_addShortBase 44 = .ok (.iconst 0, 1) := by decide +kernel
theorem dX4_addShortBase_45 : decode cX4_addShortBase 45 = .ok (.aload_n 0, 1) := by decide +kernel
theorem dX4_addShortBase_46 : decode cX4_addShortBase 46 = .ok (.getfield 31, 3) := by decide +kernel
theorem dX4_addShortBase_49 : decode cX4_addShortBase 49 = .ok (.invokevirtual 62, 3) := by decide +kernel
theorem dX4_addShortBase_52 : decode cX4_addShortBase 52 = .ok (.aload_n 0, 1) := by decide +kernel
theorem dX4_addShortBase_53 : decode cX4_addShortBase 53 = .ok (.getfield 31, 3) := by decide +kernel
theorem dX4_addShortBase_56 : decode cX4_addShortBase 56 = .ok (.iconst 3, 1) := by decide +kernel
theorem dX4_addShortBase_57 : decode cX4_addShortBase 57 = .ok (.invokevirtual 103, 3) := by decide +kernel
theorem dX4_addShortBase_60 : decode cX4_addShortBase 60 = .ok (.goto 14, 3) := by decide +kernel
theorem dX4_addShortBase_63 : decode cX4_addShortBase 63 = .ok (.aload_n 0, 1) := by decide +kernel
theorem dX4_addShortBase_64 : decode cX4_addShortBase 64 = .ok (.getfield 12, 3) := by decide +kernel
theorem dX4_addShortBase_67 : decode cX4_addShortBase 67 = .ok (.aload_n 0, 1) := by decide +kernel
theorem dX4_addShortBase_68 : decode cX4_addShortBase 68 = .ok (.getfield 31, 3) := by decide +kernel
theorem dX4_addShortBase_71 : decode cX4_addShortBase 71 = .ok (.invokevirtual 106, 3) := by decide +kernel
theorem dX4_addShortBase_74 : decode cX4_addShortBase 74 = .ok (.aload_n 0, 1) := by decide +kernel
theorem dX4_addShortBase_75 : decode cX4_addShortBase 75 = .ok (.getfield 41, 3) := by decide +kernel
theorem dX4_addShortBase_78 : decode cX4_addShortBase 78 = .ok (.iconst 2, 1) := by decide +kernel
theorem dX4_addShortBase_79 : decode cX4_addShortBase 79 = .ok (.invokevirtual 45, 3) := by decide +kernel
theorem dX4_addShortBase_82 : decode cX4_addShortBase 82 = .ok (.astore_n 1, 1) := by decide +kernel
theorem dX4_addShortBase_83 : decode cX4_addShortBase 83 = .ok (.aload_n 0, 1) := by decide +kernel
theorem dX4_addShortBase_84 : decode cX4_addShortBase 84 = .ok (.getfield 31, 3) := by decide +kernel
theorem dX4_addShortBase_87 : decode cX4_addShortBase 87 = .ok (.aload_n 1, 1) := by decide +kernel
theorem dX4_addShortBase_88 : decode cX4_addShortBase 88 = .ok (.aload_n 1, 1) := by decide +kernel
theorem dX4_addShortBase_89 : decode cX4_addShortBase 89 = .ok (.invokevirtual 109, 3) := by decide +kernel
theorem dX4_addShortBase_92 : decode cX4_addShortBase 92 = .ok (.iconst 2, 1) := by decide +kernel
theorem dX4_addShortBase_93 : decode cX4_addShortBase 93 = .ok (.isub, 1) := by decide +kernel
theorem dX4_addShortBase_94 : decode cX4_addShortBase 94 = .ok (.aload_n 1, 1) := by decide +kernel
theorem dX4_addShortBase_95 : decode cX4_addShortBase 95 = .ok (.invokevirtual 109, 3) := by decide +kernel
theorem dX4_addShortBase_98 : decode cX4_addShortBase 98 = .ok (.invokevirtual 99, 3) := by decide +kernel
theorem dX4_addShortBase_101 : decode cX4_addShortBase 101 = .ok (.return_, 1) := by decide +kernel
theorem dX4_addLongBase_0 : decode cX4_addLongBase 0 = .ok (.aload_n 0, 1) := by decide +kernel
theorem dX4_addLongBase_1 : decode cX4_addLongBase 1 = .ok (.getfield 12, 3) := by decide +kernel
theorem dX4_addLongBase_4 : decode cX4_addLongBase 4 = .ok (.invokevirtual 58, 3) := by decide +kernel
theorem dX4_addLongBase_7 : decode cX4_addLongBase 7 = .ok (.ifCond .ne 20, 3) := by decide +kernel
theorem dX4_addLongBase_10 : decode cX4_addLongBase 10 = .ok (.aload_n 0, 1) := by decide +kernel
theorem dX4_addLongBase_11 : decode cX4_addLongBase 11 = .ok (.getfield 31, 3) := by decide +kernel
theorem dX4_addLongBase_14 : decode cX4_addLongBase 14 = .ok (.aload_n 0, 1) := by decide +kernel
theorem dX4_addLongBase_15 : decode cX4_addLongBase 15 = .ok (.getfield 41, 3) := by decide +kernel
theorem dX4_addLongBase_18 : decode cX4_addLongBase 18 = .ok (.getfield 96, 3) := by decide +kernel
theorem dX4_addLongBase_21 : decode cX4_addLongBase 21 = .ok (.invokevirtual 78, 3) := by decide +kernel
theorem dX4_addLongBase_24 : decode cX4_addLongBase 24 = .ok (.goto 50, 3) := by decide +kernel
theorem dX4_addLongBase_27 : decode cX4_addLongBase 27 = .ok (.iload_n 1, 1) := by decide +kernel
theorem dX4_addLongBase_28 : decode cX4_addLongBase 28 = .ok (.ifCond .eq 34, 3) := by decide +kernel
theorem dX4_addLongBase_31 : decode cX4_addLongBase 31 = .ok (.aload_n 0, 1) := by decide +kernel
theorem dX4_addLongBase_32 : decode cX4_addLongBase 32 = .ok (.getfield 12, 3) := by decide +kernel
theorem dX4_addLongBase_35 : decode cX4_addLongBase 35 = .ok (.iconst 0, 1) := by decide +kernel
theorem dX4_addLongBase_36 : decode cX4_addLongBase 36 = .ok (.invokevirtual 110, 3) := by decide +kernel
theorem dX4_addLongBase_39 : decode cX4_addLongBase 39 = .ok (.ifCond .eq 23, 3) := by decide +kernel
theorem dX4_addLongBase_42 : decode cX4_addLongBase 42 = .ok (.aload_n 0, 1) := by decide +kernel
theorem dX4_addLongBase_43 : decode cX4_addLongBase 43 = .ok (.getfield 31, 3) := by decide +kernel
theorem dX4_addLongBase_46 : decode cX4_addLongBase 46 = .ok (.aload_n 0, 1) := by decide +kernel
theorem dX4_addLongBase_47 : decode cX4_addLongBase 47 = .ok (.getfield 28, 3) := by decide +kernel
theorem dX4_addLongBase_50 : decode cX4_addLongBase 50 = .ok (.invokevirtual 78, 3) := by decide +kernel
theorem dX4_addLongBase_53 : decode cX4_addLongBase 53 = .ok (.aload_n 0, 1) := by decide +kernel
theorem dX4_addLongBase_54 : decode cX4_addLongBase 54 = .ok (.getfield 31, 3) := by decide +kernel
theorem dX4_addLongBase_57 : decode cX4_addLongBase 57 = .ok (.bipush 32, 2) := by decide +kernel
theorem dX4_addLongBase_59 : decode cX4_addLongBase 59 = .ok (.invokevirtual 81, 3) := by decide +kernel
theorem dX4_addLongBase_62 : decode cX4_addLongBase 62 = .ok (.aload_n 0, 1) := by decide +kernel
theorem dX4_addLongBase_63 : decode cX4_addLongBase 63 = .ok (.getfield 12, 3) := by decide +kernel
theorem dX4_addLongBase_66 : decode cX4_addLongBase 66 = .ok (.iconst 0, 1) := by decide +kernel
theorem dX4_addLongBase_67 : decode cX4_addLongBase 67 = .ok (.aload_n 0, 1) := by decide +kernel
theorem dX4_addLongBase_68 : decode cX4_addLongBase 68 = .ok (.getfield 31, 3) := by decide +kernel
theorem dX4_addLongBase_71 : decode cX4_addLongBase 71 = .ok (.invokevirtual 114, 3) := by decide +kernel
theorem dX4_addLongBase_74 : decode cX4_addLongBase 74 = .ok (.aload_n 0, 1) := by decide +kernel
theorem dX4_addLongBase_75 : decode cX4_addLongBase 75 = .ok (.getfield 12, 3) := by decide +kernel
theorem dX4_addLongBase_78 : decode cX4_addLongBase 78 = .ok (.invokevirtual 58, 3) := by decide +kernel
theorem dX4_addLongBase_81 : decode cX4_addLongBase 81 = .ok (.iconst 2, 1) := by decide +kernel
theorem dX4_addLongBase_82 : decode cX4_addLongBase 82 = .ok (.if_icmp .ne 27, 3) := by decide +kernel
theorem dX4_addLongBase_85 : decode cX4_addLongBase 85 = .ok (.aload_n 0, 1) := by decide +kernel
theorem dX4_addLongBase_86 : decode cX4_addLongBase 86 = .ok (.getfield 31, 3) := by decide +kernel
theorem dX4_addLongBase_89 : decode cX4_addLongBase 89 = .ok (.ldc 117, 2) := by decide +kernel
theorem dX4_addLongBase_91 : decode cX4_addLongBase 91 = .ok (.invokevirtual 119, 3) := by decide +kernel
theorem dX4_addLongBase_94 : decode cX4_addLongBase 94 = .ok (.aload_n 0, 1) := by decide +kernel
theorem dX4_addLongBase_95 : decode cX4_addLongBase 95 = .ok (.getfield 12, 3) := by decide +kernel
theorem dX4_addLongBase_98 : decode cX4_addLongBase 98 = .ok (.iconst 1, 1) := by decide +kernel
theorem dX4_addLongBase_99 : decode cX4_addLongBase 99 = .ok (.aload_n 0, 1) := by decide +kernel
theorem dX4_addLongBase_100 : decode cX4_addLongBase 100 = .ok (.getfield 31, 3) := by decide +kernel
theorem dX4_addLongBase_103 : decode cX4_addLongBase 103 = .ok (.invokevirtual 114, 3) := by decide +kernel
theorem dX4_addLongBase_106 : decode cX4_addLongBase 106 = .ok (.goto 23, 3) := by decide +kernel
theorem dX4_addLongBase_109 : decode cX4_addLongBase 109 = .ok (.aload_n 0, 1) := by decide +kernel
theorem dX4_addLongBase_110 : decode cX4_addLongBase 110 = .ok (.getfield 12, 3) := by decide +kernel
theorem dX4_addLongBase_113 : decode cX4_addLongBase 113 = .ok (.invokevirtual 58, 3) := by decide +kernel
theorem dX4_addLongBase_116 : decode cX4_addLongBase 116 = .ok (.iconst 2, 1) := by decide +kernel
theorem dX4_addLongBase_117 : decode cX4_addLongBase 117 = .ok (.if_icmp .le 12, 3) := by decide +kernel
theorem dX4_addLongBase_120 : decode cX4_addLongBase 120 = .ok (.aload_n 0, 1) := by decide +kernel
theorem dX4_addLongBase_121 : decode cX4_addLongBase 121 = .ok (.getfield 31, 3) := by decide +kernel
theorem dX4_addLongBase_124 : decode cX4_addLongBase 124 = .ok (.ldc 123, 2) := by decide +kernel
theorem dX4_addLongBase_126 : decode cX4_addLongBase 126 = .ok (.invokevirtual 119, 3) := by decide +kernel
theorem dX4_addLongBase_129 : decode cX4_addLongBase 129 = .ok (.aload_n 0, 1) := by decide +kernel
theorem dX4_addLongBase_130 : decode cX4_addLongBase 130 = .ok (.getfield 41, 3) := by decide +kernel
theorem dX4_addLongBase_133 : decode cX4_addLongBase 133 = .ok (.iconst 2, 1) := by decide +kernel
theorem dX4_addLongBase_134 : decode cX4_addLongBase 134 = .ok (.invokevirtual 125, 3) := by decide +kernel
theorem dX4_addLongBase_137 : decode cX4_addLongBase 137 = .ok (.ifCond .eq 27, 3) := by decide +kernel
theorem dX4_addLongBase_140 : decode cX4_addLongBase 140 = .ok (.aload_n 0, 1) := by decide +kernel
theorem dX4_addLongBase_141 : decode cX4_addLongBase 141 = .ok (.getfield 31, 3) := by decide +kernel
theorem dX4_addLongBase_144 : decode cX4_addLongBase 144 = .ok (.bipush 32, 2) := by decide +kernel
theorem dX4_addLongBase_146 : decode cX4_addLongBase 146 = .ok (.invokevirtual 81, 3) := by decide +kernel
theorem dX4_addLongBase_149 : decode cX4_addLongBase 149 = .ok (.aload_n 0, 1) := by decide +kernel
theorem dX4_addLongBase_150 : decode cX4_addLongBase 150 = .ok (.getfield 31, 3) := by decide +kernel
theorem dX4_addLongBase_153 : decode cX4_addLongBase 153 = .ok (.aload_n 0, 1) := by decide +kernel
theorem dX4_addLongBase_154 : decode cX4_addLongBase 154 = .ok (.getfield 41, 3) := by decide +kernel
theorem dX4_addLongBase_157 : decode cX4_addLongBase 157 = .ok (.iconst 2, 1) := by decide +kernel
theorem dX4_addLongBase_158 : decode cX4_addLongBase 158 = .ok (.invokevirtual 45, 3) := by decide +kernel
theorem dX4_addLongBase_161 : decode cX4_addLongBase 161 = .ok (.invokevirtual 78, 3) := by decide +kernel
theorem dX4_addLongBase_164 : decode cX4_addLongBase 164 = .ok (.return_, 1) := by decide +kernel
theorem dX4_writeText_0 : decode cX4_writeText 0 = .ok (.aload_n 0, 1) := by decide +kernel
theorem dX4_writeText_1 : decode cX4_writeText 1 = .ok (.getfield 38, 3) := by decide +kernel
theorem dX4_writeText_4 : decode cX4_writeText 4 = .ok (.invokevirtual 55, 3) := by decide +kernel
theorem dX4_writeText_7 : decode cX4_writeText 7 = .ok (.aload_n 0, 1) := by decide +kernel
theorem dX4_writeText_8 : decode cX4_writeText 8 = .ok (.iload_n 1, 1) := by decide +kernel
theorem dX4_writeText_9 : decode cX4_writeText 9 = .ok (.iload_n 2, 1) := by decide +kernel
theorem dX4_writeText_10 : decode cX4_writeText 10 = .ok (.invokevirtual 128, 3) := by decide +kernel
theorem dX4_writeText_13 : decode cX4_writeText 13 = .ok (.aload_n 0, 1) := by decide +kernel
theorem dX4_writeText_14 : decode cX4_writeText 14 = .ok (.getfield 38, 3) := by decide +kernel
theorem dX4_writeText_17 : decode cX4_writeText 17 = .ok (.invokevirtual 109, 3) := by decide +kernel
theorem dX4_writeText_20 : decode cX4_writeText 20 = .ok (.istore_n 3, 1) := by decide +kernel
theorem dX4_writeText_21 : decode cX4_writeText 21 = .ok (.aload_n 0, 1) := by decide +kernel
theorem dX4_writeText_22 : decode cX4_writeText 22 = .ok (.getfield 12, 3) := by decide +kernel
theorem dX4_writeText_25 : decode cX4_writeText 25 = .ok (.invokevirtual 58, 3) := by decide +kernel
theorem dX4_writeText_28 : decode cX4_writeText 28 = .ok (.ifCond .le 19, 3) := by decide +kernel
theorem dX4_writeText_31 : decode cX4_writeText 31 = .ok (.aload_n 0, 1) := by decide +kernel
theorem dX4_writeText_32 : decode cX4_writeText 32 = .ok (.iload_n 3, 1) := by decide +kernel
theorem dX4_writeText_33 : decode cX4_writeText 33 = .ok (.invokevirtual 132, 3) := by decide +kernel
theorem dX4_writeText_36 : decode cX4_writeText 36 = .ok (.aload_n 0, 1) := by decide +kernel
theorem dX4_writeText_37 : decode cX4_writeText 37 = .ok (.getfield 12, 3) := by decide +kernel
theorem dX4_writeText_40 : decode cX4_writeText 40 = .ok (.aload_n 0, 1) := by decide +kernel
theorem dX4_writeText_41 : decode cX4_writeText 41 = .ok (.getfield 38, 3) := by decide +kernel
theorem dX4_writeText_44 : decode cX4_writeText 44 = .ok (.invokevirtual 135, 3) := by decide +kernel
theorem dX4_writeText_47 : decode cX4_writeText 47 = .ok (.aload_n 0, 1) := by decide +kernel
theorem dX4_writeText_48 : decode cX4_writeText 48 = .ok (.iconst 1, 1) := by decide +kernel
theorem dX4_writeText_49 : decode cX4_writeText 49 = .ok (.ldc 138, 2) := by decide +kernel
theorem dX4_writeText_51 : decode cX4_writeText 51 = .ok (.iload_n 3, 1) := by decide +kernel
theorem dX4_writeText_52 : decode cX4_writeText 52 = .ok (.invokevirtual 140, 3) := by decide +kernel
theorem dX4_writeText_55 : decode cX4_writeText 55 = .ok (.aload_n 0, 1) := by decide +kernel
theorem dX4_writeText_56 : decode cX4_writeText 56 = .ok (.iload_n 3, 1) := by decide +kernel
theorem dX4_writeText_57 : decode cX4_writeText 57 = .ok (.invokevirtual 144, 3) := by decide +kernel
theorem dX4_writeText_60 : decode cX4_writeText 60 = .ok (.aload_n 0, 1) := by decide +kernel
theorem dX4_writeText_61 : decode cX4_writeText 61 = .ok (.iconst 2, 1) := by decide +kernel
theorem dX4_writeText_62 : decode cX4_writeText 62 = .ok (.ldc 138, 2) := by decide +kernel
theorem dX4_writeText_64 : decode cX4_writeText 64 = .ok (.iload_n 3, 1) := by decide +kernel
theorem dX4_writeText_65 : decode cX4_writeText 65 = .ok (.invokevirtual 140, 3) := by decide +kernel
theorem dX4_writeText_68 : decode cX4_writeText 68 = .ok (.aload_n 0, 1) := by decide +kernel
theorem dX4_writeText_69 : decode cX4_writeText 69 = .ok (.getfield 38, 3) := by decide +kernel
theorem dX4_writeText_72 : decode cX4_writeText 72 = .ok (.invokevirtual 109, 3) := by decide +kernel
theorem dX4_writeText_75 : decode cX4_writeText 75 = .ok (.iload_n 3, 1) := by decide +kernel
theorem dX4_writeText_76 : decode cX4_writeText 76 = .ok (.if_icmp .le 12, 3) := by decide +kernel
theorem dX4_writeText_79 : decode cX4_writeText 79 = .ok (.aload_n 0, 1) := by decide +kernel
theorem dX4_writeText_80 : decode cX4_writeText 80 = .ok (.getfield 38, 3) := by decide +kernel
theorem dX4_writeText_83 : decode cX4_writeText 83 = .ok (.bipush 46, 2) := by decide +kernel
theorem dX4_writeText_85 : decode cX4_writeText 85 = .ok (.invokevirtual 81, 3) := by decide +kernel
theorem dX4_writeText_88 : decode cX4_writeText 88 = .ok (.return_, 1) := by decide +kernel
theorem dX4_addLabel_0 : decode cX4_addLabel 0 = .ok (.aload_n 0, 1) := by decide +kernel
theorem dX4_addLabel_1 : decode cX4_addLabel 1 = .ok (.getfield 38, 3) := by decide +kernel
theorem dX4_addLabel_4 : decode cX4_addLabel 4 = .ok (.iload_n 1, 1) := by decide +kernel
theorem dX4_addLabel_5 : decode cX4_addLabel 5 = .ok (.iconst 2, 1) := by decide +kernel
theorem dX4_addLabel_6 : decode cX4_addLabel 6 = .ok (.if_icmp .ne 8, 3) := by decide +kernel
theorem dX4_addLabel_9 : decode cX4_addLabel 9 = .ok (.bipush 40, 2) := by decide +kernel
theorem dX4_addLabel_11 : decode cX4_addLabel 11 = .ok (.goto 5, 3) := by decide +kernel
theorem dX4_addLabel_14 : decode cX4_addLabel 14 = .ok (.bipush 91, 2) := by decide +kernel
theorem dX4_addLabel_16 : decode cX4_addLabel 16 = .ok (.invokevirtual 81, 3) := by decide +kernel
theorem dX4_addLabel_19 : decode cX4_addLabel 19 = .ok (.iload_n 1, 1) := by decide +kernel
theorem dX4_addLabel_20 : decode cX4_addLabel 20 = .ok (.iconst 1, 1) := by decide +kernel
theorem dX4_addLabel_21 : decode cX4_addLabel 21 = .ok (.if_icmp .eq 8, 3) := by decide +kernel
theorem dX4_addLabel_24 : decode cX4_addLabel 24 = .ok (.iload_n 1, 1) := by decide +kernel
theorem dX4_addLabel_25 : decode cX4_addLabel 25 = .ok (.iconst 2, 1) := by decide +kernel
theorem dX4_addLabel_26 : decode cX4_addLabel 26 = .ok (.if_icmp .ne 40, 3) := by decide +kernel
theorem dX4_addLabel_29 : decode cX4_addLabel 29 = .ok (.aload_n 0, 1) := by decide +kernel
theorem dX4_addLabel_30 : decode cX4_addLabel 30 = .ok (.getfield 38, 3) := by decide +kernel
theorem dX4_addLabel_33 : decode cX4_addLabel 33 = .ok (.aload_n 0, 1) := by decide +kernel
theorem dX4_addLabel_34 : decode cX4_addLabel 34 = .ok (.getfield 31, 3) := by decide +kernel
theorem dX4_addLabel_37 : decode cX4_addLabel 37 = .ok (.invokevirtual 78, 3) := by decide +kernel
theorem dX4_addLabel_40 : decode cX4_addLabel 40 = .ok (.aload_n 0, 1) := by decide +kernel
theorem dX4_addLabel_41 : decode cX4_addLabel 41 = .ok (.getfield 34, 3) := by decide +kernel
theorem dX4_addLabel_44 : decode cX4_addLabel 44 = .ok (.ifCond .le 32, 3) := by decide +kernel
theorem dX4_addLabel_47 : decode cX4_addLabel 47 = .ok (.aload_n 0, 1) := by decide +kernel
theorem dX4_addLabel_48 : decode cX4_addLabel 48 = .ok (.getfield 38, 3) := by decide +kernel
theorem dX4_addLabel_51 : decode cX4_addLabel 51 = .ok (.bipush 97, 2) := by decide +kernel
theorem dX4_addLabel_53 : decode cX4_addLabel 53 = .ok (.aload_n 0, 1) := by decide +kernel
theorem dX4_addLabel_54 : decode cX4_addLabel 54 = .ok (.getfield 34, 3) := by decide +kernel
theorem dX4_addLabel_57 : decode cX4_addLabel 57 = .ok (.iadd, 1) := by decide +kernel
theorem dX4_addLabel_58 : decode cX4_addLabel 58 = .ok (.iconst 1, 1) := by decide +kernel
theorem dX4_addLabel_59 : decode cX4_addLabel 59 = .ok (.isub, 1) := by decide +kernel
theorem dX4_addLabel_60 : decode cX4_addLabel 60 = .ok (.invokevirtual 81, 3) := by decide +kernel
theorem dX4_addLabel_63 : decode cX4_addLabel 63 = .ok (.goto 13, 3) := by decide +kernel
theorem dX4_addLabel_66 : decode cX4_addLabel 66 = .ok (.aload_n 0, 1) := by decide +kernel
theorem dX4_addLabel_67 : decode cX4_addLabel 67 = .ok (.getfield 38, 3) := by decide +kernel
theorem dX4_addLabel_70 : decode cX4_addLabel 70 = .ok (.iload_n 2, 1) := by decide +kernel
theorem dX4_addLabel_71 : decode cX4_addLabel 71 = .ok (.iconst 1, 1) := by decide +kernel
theorem dX4_addLabel_72 : decode cX4_addLabel 72 = .ok (.iadd, 1) := by decide +kernel
theorem dX4_addLabel_73 : decode cX4_addLabel 73 = .ok (.invokevirtual 147, 3) := by decide +kernel
theorem dX4_addLabel_76 : decode cX4_addLabel 76 = .ok (.aload_n 0, 1) := by decide +kernel
theorem dX4_addLabel_77 : decode cX4_addLabel 77 = .ok (.getfield 38, 3) := by decide +kernel
theorem dX4_addLabel_80 : decode cX4_addLabel 80 = .ok (.iload_n 1, 1) := by decide +kernel
theorem dX4_addLabel_81 : decode cX4_addLabel 81 = .ok (.iconst 2, 1) := by decide +kernel
theorem dX4_addLabel_82 : decode cX4_addLabel 82 = .ok (.if_icmp .ne 8, 3) := by decide +kernel
theorem dX4_addLabel_85 : decode cX4_addLabel 85 = .ok (.bipush 41, 2) := by decide +kernel
theorem dX4_addLabel_87 : decode cX4_addLabel 87 = .ok (.goto 5, 3) := by decide +kernel
theorem dX4_addLabel_90 : decode cX4_addLabel 90 = .ok (.bipush 93, 2) := by decide +kernel
theorem dX4_addLabel_92 : decode cX4_addLabel 92 = .ok (.invokevirtual 81, 3) := by decide +kernel
theorem dX4_addLabel_95 : decode cX4_addLabel 95 = .ok (.return_, 1) := by decide +kernel
theorem dX4_beginPiece_0 : decode cX4_beginPiece 0 = .ok (.aload_n 0, 1) := by decide +kernel
theorem dX4_beginPiece_1 : decode cX4_beginPiece 1 = .ok (.getfield 38, 3) := by decide +kernel
theorem dX4_beginPiece_4 : decode cX4_beginPiece 4 = .ok (.aload_n 0, 1) := by decide +kernel
theorem dX4_beginPiece_5 : decode cX4_beginPiece 5 = .ok (.getfield 38, 3) := by decide +kernel
theorem dX4_beginPiece_8 : decode cX4_beginPiece 8 = .ok (.invokevirtual 109, 3) := by decide +kernel
theorem dX4_beginPiece_11 : decode cX4_beginPiece 11 = .ok (.iload_n 1, 1) := by decide +kernel
theorem dX4_beginPiece_12 : decode cX4_beginPiece 12 = .ok (.if_icmp .le 8, 3) := by decide +kernel
theorem dX4_beginPiece_15 : decode cX4_beginPiece 15 = .ok (.ldc 150, 2) := by decide +kernel
theorem dX4_beginPiece_17 : decode cX4_beginPiece 17 = .ok (.goto 5, 3) := by decide +kernel
theorem dX4_beginPiece_20 : decode cX4_beginPiece 20 = .ok (.ldc 152, 2) := by decide +kernel
theorem dX4_beginPiece_22 : decode cX4_beginPiece 22 = .ok (.invokevirtual 119, 3) := by decide +kernel
theorem dX4_beginPiece_25 : decode cX4_beginPiece 25 = .ok (.return_, 1) := by decide +kernel
theorem dX4_addValuePiece_0 : decode cX4_addValuePiece 0 = .ok (.aload_n 0, 1) := by decide +kernel
theorem dX4_addValuePiece_1 : decode cX4_addValuePiece 1 = .ok (.getfield 41, 3) := by decide +kernel
theorem dX4_addValuePiece_4 : decode cX4_addValuePiece 4 = .ok (.iload_n 1, 1) := by decide +kernel
theorem dX4_addValuePiece_5 : decode cX4_addValuePiece 5 = .ok (.invokevirtual 125, 3) := by decide +kernel
theorem dX4_addValuePiece_8 : decode cX4_addValuePiece 8 = .ok (.ifCond .eq 31, 3) := by decide +kernel
theorem dX4_addValuePiece_11 : decode cX4_addValuePiece 11 = .ok (.aload_n 0, 1) := by decide +kernel
theorem dX4_addValuePiece_12 : decode cX4_addValuePiece 12 = .ok (.iload_n 3, 1) := by decide +kernel
theorem dX4_addValuePiece_13 : decode cX4_addValuePiece 13 = .ok (.invokevirtual 132, 3) := by decide +kernel
theorem dX4_addValuePiece_16 : decode cX4_addValuePiece 16 = .ok (.aload_n 0, 1) := by decide +kernel
theorem dX4_addValuePiece_17 : decode cX4_addValuePiece 17 = .ok (.getfield 38, 3) := by decide +kernel
theorem dX4_addValuePiece_20 : decode cX4_addValuePiece 20 = .ok (.aload_n 2, 1) := by decide +kernel
theorem dX4_addValuePiece_21 : decode cX4_addValuePiece 21 = .ok (.invokevirtual 119, 3) := by decide +kernel
theorem dX4_addValuePiece_24 : decode cX4_addValuePiece 24 = .ok (.aload_n 0, 1) := by decide +kernel
theorem dX4_addValuePiece_25 : decode cX4_addValuePiece 25 = .ok (.getfield 38, 3) := by decide +kernel
theorem dX4_addValuePiece_28 : decode cX4_addValuePiece 28 = .ok (.aload_n 0, 1) := by decide +kernel
theorem dX4_addValuePiece_29 : decode cX4_addValuePiece 29 = .ok (.getfield 41, 3) := by decide +kernel
theorem dX4_addValuePiece_32 : decode cX4_addValuePiece 32 = .ok (.iload_n 1, 1) := by decide +kernel
theorem dX4_addValuePiece_33 : decode cX4_addValuePiece 33 = .ok (.invokevirtual 45, 3) := by decide +kernel
theorem dX4_addValuePiece_36 : decode cX4_addValuePiece 36 = .ok (.invokevirtual 78, 3) := by decide +kernel
theorem dX4_addValuePiece_39 : decode cX4_addValuePiece 39 = .ok (.return_, 1) := by decide +kernel
theorem dX4_addSource_0 : decode cX4_addSource 0 = .ok (.aload_n 0, 1) := by decide +kernel
theorem dX4_addSource_1 : decode cX4_addSource 1 = .ok (.getfield 41, 3) := by decide +kernel
theorem dX4_addSource_4 : decode cX4_addSource 4 = .ok (.getfield 154, 3) := by decide +kernel
theorem dX4_addSource_7 : decode cX4_addSource 7 = .ok (.ifCond .ne 21, 3) := by decide +kernel
theorem dX4_addSource_10 : decode cX4_addSource 10 = .ok (.aload_n 0, 1) := by decide +kernel
theorem dX4_addSource_11 : decode cX4_addSource 11 = .ok (.iconst 3, 1) := by decide +kernel
theorem dX4_addSource_12 : decode cX4_addSource 12 = .ok (.ldc 138, 2) := by decide +kernel
theorem dX4_addSource_14 : decode cX4_addSource 14 = .ok (.iload_n 1, 1) := by decide +kernel
theorem dX4_addSource_15 : decode cX4_addSource 15 = .ok (.invokevirtual 140, 3) := by decide +kernel
theorem dX4_addSource_18 : decode cX4_addSource 18 = .ok (.aload_n 0, 1) := by decide +kernel
theorem dX4_addSource_19 : decode cX4_addSource 19 = .ok (.iconst 3, 1) := by decide +kernel
theorem dX4_addSource_20 : decode cX4_addSource 20 = .ok (.ldc 157, 2) := by decide +kernel
theorem dX4_addSource_22 : decode cX4_addSource 22 = .ok (.invokevirtual 159, 3) := by decide +kernel
theorem dX4_addSource_25 : decode cX4_addSource 25 = .ok (.goto 58, 3) := by decide +kernel
theorem dX4_addSource_28 : decode cX4_addSource 28 = .ok (.aload_n 0, 1) := by decide +kernel
theorem dX4_addSource_29 : decode cX4_addSource 29 = .ok (.getfield 41, 3) := by decide +kernel
theorem dX4_addSource_32 : decode cX4_addSource 32 = .ok (.getfield 154, 3) := by decide +kernel
theorem dX4_addSource_35 : decode cX4_addSource 35 = .ok (.iconst 2, 1) := by decide +kernel
theorem dX4_addSource_36 : decode cX4_addSource 36 = .ok (.if_icmp .ne 23, 3) := by decide +kernel
theorem dX4_addSource_39 : decode cX4_addSource 39 = .ok (.aload_n 0, 1) := by decide +kernel
theorem dX4_addSource_40 : decode cX4_addSource 40 = .ok (.bipush 6, 2) := by decide +kernel
theorem dX4_addSource_42 : decode cX4_addSource 42 = .ok (.ldc 163, 2) := by decide +kernel
theorem dX4_addSource_44 : decode cX4_addSource 44 = .ok (.iload_n 1, 1) := by decide +kernel
theorem dX4_addSource_45 : decode cX4_addSource 45 = .ok (.invokevirtual 140, 3) := by decide +kernel
theorem dX4_addSource_48 : decode cX4_addSource 48 = .ok (.aload_n 0, 1) := by decide +kernel
theorem dX4_addSource_49 : decode cX4_addSource 49 = .ok (.bipush 6, 2) := by decide +kernel
theorem dX4_addSource_51 : decode cX4_addSource 51 = .ok (.ldc 165, 2) := by decide +kernel
theorem dX4_addSource_53 : decode cX4_addSource 53 = .ok (.invokevirtual 159, 3) := by decide +kernel
theorem dX4_addSource_56 : decode cX4_addSource 56 = .ok (.goto 27, 3) := by decide +kernel
theorem dX4_addSource_59 : decode cX4_addSource 59 = .ok (.aload_n 0, 1) := by decide +kernel
theorem dX4_addSource_60 : decode cX4_addSource 60 = .ok (.aload_n 0, 1) := by decide +kernel
theorem dX4_addSource_61 : decode cX4_addSource 61 = .ok (.getfield 41, 3) := by decide +kernel
theorem dX4_addSource_64 : decode cX4_addSource 64 = .ok (.getfield 154, 3) := by decide +kernel
theorem dX4_addSource_67 : decode cX4_addSource 67 = .ok (.iconst 4, 1) := by decide +kernel
theorem dX4_addSource_68 : decode cX4_addSource 68 = .ok (.if_icmp .ne 8, 3) := by decide +kernel
theorem dX4_addSource_71 : decode cX4_addSource 71 = .ok (.bipush 7, 2) := by decide +kernel
theorem dX4_addSource_73 : decode cX4_addSource 73 = .ok (.goto 4, 3) := by decide +kernel
theorem dX4_addSource_76 : decode cX4_addSource 76 = .ok (.iconst 4, 1) := by decide +kernel
theorem dX4_addSource_77 : decode cX4_addSource 77 = .ok (.ldc 138, 2) := by decide +kernel
theorem dX4_addSource_79 : decode cX4_addSource 79 = .ok (.iload_n 1, 1) := by decide +kernel
theorem dX4_addSource_80 : decode cX4_addSource 80 = .ok (.invokevirtual 140, 3) := by decide +kernel
theorem dX4_addSource_83 : decode cX4_addSource 83 = .ok (.return_, 1) := by decide +kernel
theorem dX4_addPages_0 : decode cX4_addPages 0 = .ok (.aload_n 0, 1) := by decide +kernel
theorem dX4_addPages_1 : decode cX4_addPages 1 = .ok (.getfield 41, 3) := by decide +kernel
theorem dX4_addPages_4 : decode cX4_addPages 4 = .ok (.iload_n 1, 1) := by decide +kernel
theorem dX4_addPages_5 : decode cX4_addPages 5 = .ok (.invokevirtual 125, 3) := by decide +kernel
theorem dX4_addPages_8 : decode cX4_addPages 8 = .ok (.ifCond .eq 37, 3) := by decide +kernel
theorem dX4_addPages_11 : decode cX4_addPages 11 = .ok (.aload_n 0, 1) := by decide +kernel
theorem dX4_addPages_12 : decode cX4_addPages 12 = .ok (.getfield 41, 3) := by decide +kernel
theorem dX4_addPages_15 : decode cX4_addPages 15 = .ok (.iconst 5, 1) := by decide +kernel
theorem dX4_addPages_16 : decode cX4_addPages 16 = .ok (.invokevirtual 125, 3) := by decide +kernel
theorem dX4_addPages_19 : decode cX4_addPages 19 = .ok (.ifCond .eq 26, 3) := by decide +kernel
theorem dX4_addPages_22 : decode cX4_addPages 22 = .ok (.aload_n 0, 1) := by decide +kernel
theorem dX4_addPages_23 : decode cX4_addPages 23 = .ok (.getfield 38, 3) := by decide +kernel
theorem dX4_addPages_26 : decode cX4_addPages 26 = .ok (.aload_n 2, 1) := by decide +kernel
theorem dX4_addPages_27 : decode cX4_addPages 27 = .ok (.invokevirtual 119, 3) := by decide +kernel
theorem dX4_addPages_30 : decode cX4_addPages 30 = .ok (.aload_n 0, 1) := by decide +kernel
theorem dX4_addPages_31 : decode cX4_addPages 31 = .ok (.getfield 38, 3) := by decide +kernel
theorem dX4_addPages_34 : decode cX4_addPages 34 = .ok (.aload_n 0, 1) := by decide +kernel
theorem dX4_addPages_35 : decode cX4_addPages 35 = .ok (.getfield 41, 3) := by decide +kernel
theorem dX4_addPages_38 : decode cX4_addPages 38 = .ok (.iconst 5, 1) := by decide +kernel
theorem dX4_addPages_39 : decode cX4_addPages 39 = .ok (.invokevirtual 45, 3) := by decide +kernel
theorem dX4_addPages_42 : decode cX4_addPages 42 = .ok (.invokevirtual 78, 3) := by decide +kernel
theorem dX4_addPages_45 : decode cX4_addPages 45 = .ok (.return_, 1) := by decide +kernel
theorem dX5_init_0 : decode cX5_init 0 = .ok (.aload_n 0, 1) := by decide +kernel
theorem dX5_init_1 : decode cX5_init 1 = .ok (.invokespecial 1, 3) := by decide +kernel
theorem dX5_init_4 : decode cX5_init 4 = .ok (.aload_n 0, 1) := by decide +kernel
theorem dX5_init_5 : decode cX5_init 5 = .ok (.bipush 8, 2) := by decide +kernel
theorem dX5_init_7 : decode cX5_init 7 = .ok (.newarray .char, 2) := by decide +kernel
theorem dX5_init_9 : decode cX5_init 9 = .ok (.putfield 9, 3) := by decide +kernel
theorem dX5_init_12 : decode cX5_init 12 = .ok (.aload_n 0, 1) := by decide +kernel
theorem dX5_init_13 : decode cX5_init 13 = .ok (.iconst 0, 1) := by decide +kernel
theorem dX5_init_14 : decode cX5_init 14 = .ok (.putfield 13, 3) := by decide +kernel
theorem dX5_init_17 : decode cX5_init 17 = .ok (.return_, 1) := by decide +kernel
theorem dX5_clear_0 : decode cX5_clear 0 = .ok (.aload_n 0, 1) := by decide +kernel
theorem dX5_clear_1 : decode cX5_clear 1 = .ok (.iconst 0, 1) := by decide +kernel
theorem dX5_clear_2 : decode cX5_clear 2 = .ok (.putfield 13, 3) := by decide +kernel
theorem dX5_clear_5 : decode cX5_clear 5 = .ok (.return_, 1) := by decide +kernel
theorem dX5_size_0 : decode cX5_size 0 = .ok (.aload_n 0, 1) := by decide +kernel
theorem dX5_size_1 : decode cX5_size 1 = .ok (.getfield 13, 3) := by decide +kernel
theorem dX5_size_4 : decode cX5_size 4 = .ok (.ireturn, 1) := by decide +kernel
theorem dX5_isEmpty_0 : decode cX5_isEmpty 0 = .ok (.aload_n 0, 1) := by decide +kernel
theorem dX5_isEmpty_1 : decode cX5_isEmpty 1 = .ok (.getfield 13, 3) := by decide +kernel
theorem dX5_isEmpty_4 : decode cX5_isEmpty 4 = .ok (.ifCond .ne 7, 3) := by decide +kernel
theorem dX5_isEmpty_7 : decode cX5_isEmpty 7 = .ok (.iconst 1, 1) := by decide +kernel
theorem dX5_isEmpty_8 : decode cX5_isEmpty 8 = .ok (.goto 4, 3) := by decide +kernel
theorem dX5_isEmpty_11 : decode cX5_isEmpty 11 = .ok (.iconst 0, 1) := by decide +kernel
theorem dX5_isEmpty_12 : decode cX5_isEmpty 12 = .ok (.ireturn, 1) := by decide +kernel
theorem dX5_signAt_0 : decode cX5_signAt 0 = .ok (.iload_n 1, 1) := by decide +kernel
theorem dX5_signAt_1 : decode cX5_signAt 1 = .ok (.ifCond .lt 20, 3) := by decide +kernel
theorem dX5_signAt_4 : decode cX5_signAt 4 = .ok (.iload_n 1, 1) := by decide +kernel
theorem dX5_signAt_5 : decode cX5_signAt 5 = .ok (.aload_n 0, 1) := by decide +kernel
theorem dX5_signAt_6 : decode cX5_signAt 6 = .ok (.getfield 13, 3) := by decide +kernel
theorem dX5_signAt_9 : decode cX5_signAt 9 = .ok (.if_icmp .ge 12, 3) := by decide +kernel
theorem dX5_signAt_12 : decode cX5_signAt 12 = .ok (.aload_n 0, 1) := by decide +kernel
theorem dX5_signAt_13 : decode cX5_signAt 13 = .ok (.getfield 9, 3) := by decide +kernel
theorem dX5_signAt_16 : decode cX5_signAt 16 = .ok (.iload_n 1, 1) := by decide +kernel
theorem dX5_signAt_17 : decode cX5_signAt 17 = .ok (.caload, 1) := by decide +kernel
theorem dX5_signAt_18 : decode cX5_signAt 18 = .ok (.goto 4, 3) := by decide +kernel
theorem dX5_signAt_21 : decode cX5_signAt 21 = .ok (.iconst 0, 1) := by decide +kernel
theorem dX5_signAt_22 : decode cX5_signAt 22 = .ok (.ireturn, 1) := by decide +kernel
theorem dX5_addSign_0 : decode cX5_addSign 0 = .ok (.aload_n 0, 1) := by decide +kernel
theorem dX5_addSign_1 : decode cX5_addSign 1 = .ok (.getfield 13, 3) := by decide +kernel
theorem dX5_addSign_4 : decode cX5_addSign 4 = .ok (.aload_n 0, 1) := by decide +kernel
theorem dX5_addSign_5 : decode cX5_addSign 5 = .ok (.getfield 9, 3) := by decide +kernel
theorem dX5_addSign_8 : decode cX5_addSign 8 = .ok (.arraylength, 1) := by decide +kernel
theorem dX5_addSign_9 : decode cX5_addSign 9 = .ok (.if_icmp .lt 32, 3) := by decide +kernel
theorem dX5_addSign_12 : decode cX5_addSign 12 = .ok (.iconst 2, 1) := by decide +kernel
theorem dX5_addSign_13 : decode cX5_addSign 13 = .ok (.aload_n 0, 1) := by decide +kernel
theorem dX5_addSign_14 : decode cX5_addSign 14 = .ok (.getfield 9, 3) := by decide +kernel
theorem dX5_addSign_17 : decode cX5_addSign 17 = .ok (.arraylength, 1) := by decide +kernel
theorem dX5_addSign_18 : decode cX5_addSign 18 = .ok (.imul, 1) := by decide +kernel
theorem dX5_addSign_19 : decode cX5_addSign 19 = .ok (.newarray .char, 2) := by decide +kernel
theorem dX5_addSign_21 : decode cX5_addSign 21 = .ok (.astore_n 2, 1) := by decide +kernel
theorem dX5_addSign_22 : decode cX5_addSign 22 = .ok (.aload_n 0, 1) := by decide +kernel
theorem dX5_addSign_23 : decode cX5_addSign 23 = .ok (.getfield 9, 3) := by decide +kernel
theorem dX5_addSign_26 : decode cX5_addSign 26 = .ok (.iconst 0, 1) := by decide +kernel
theorem dX5_addSign_27 : decode cX5_addSign 27 = .ok (.aload_n 2, 1) := by decide +kernel
theorem dX5_addSign_28 : decode cX5_addSign 28 = .ok (.iconst 0, 1) := by decide +kernel
theorem dX5_addSign_29 : decode cX5_addSign 29 = .ok (.aload_n 0, 1) := by decide +kernel
theorem dX5_addSign_30 : decode cX5_addSign 30 = .ok (.getfield 13, 3) := by decide +kernel
theorem dX5_addSign_33 : decode cX5_addSign 33 = .ok (.invokestatic 17, 3) := by decide +kernel
theorem dX5_addSign_36 : decode cX5_addSign 36 = .ok (.aload_n 0, 1) := by decide +kernel
theorem dX5_addSign_37 : decode cX5_addSign 37 = .ok (.aload_n 2, 1) := by decide +kernel
theorem dX5_addSign_38 : decode cX5_addSign 38 = .ok (.putfield 9, 3) := by decide +kernel
theorem dX5_addSign_41 : decode cX5_addSign 41 = .ok (.aload_n 0, 1) := by decide +kernel
theorem dX5_addSign_42 : decode cX5_addSign 42 = .ok (.getfield 9, 3) := by decide +kernel
theorem dX5_addSign_45 : decode cX5_addSign 45 = .ok (.aload_n 0, 1) := by decide +kernel
theorem dX5_addSign_46 : decode cX5_addSign 46 = .ok (.getfield 13, 3) := by decide +kernel
theorem dX5_addSign_49 : decode cX5_addSign 49 = .ok (.iload_n 1, 1) := by decide +kernel
theorem dX5_addSign_50 : decode cX5_addSign 50 = .ok (.i2c, 1) := by decide +kernel
theorem dX5_addSign_51 : decode cX5_addSign 51 = .ok (.castore, 1) := by decide +kernel
theorem dX5_addSign_52 : decode cX5_addSign 52 = .ok (.aload_n 0, 1) := by decide +kernel
theorem dX5_addSign_53 : decode cX5_addSign 53 = .ok (.dup, 1) := by decide +kernel
theorem dX5_addSign_54 : decode cX5_addSign 54 = .ok (.getfield 13, 3) := by decide +kernel
theorem dX5_addSign_57 : decode cX5_addSign 57 = .ok (.iconst 1, 1) := by decide +kernel
theorem dX5_addSign_58 : decode cX5_addSign 58 = .ok (.iadd, 1) := by decide +kernel
theorem dX5_addSign_59 : decode cX5_addSign 59 = .ok (.putfield 13, 3) := by decide +kernel
theorem dX5_addSign_62 : decode cX5_addSign 62 = .ok (.return_, 1) := by decide +kernel
theorem dX5_cut_0 : decode cX5_cut 0 = .ok (.iload_n 1, 1) := by decide +kernel
theorem dX5_cut_1 : decode cX5_cut 1 = .ok (.ifCond .lt 16, 3) := by decide +kernel
theorem dX5_cut_4 : decode cX5_cut 4 = .ok (.iload_n 1, 1) := by decide +kernel
theorem dX5_cut_5 : decode cX5_cut 5 = .ok (.aload_n 0, 1) := by decide +kernel
theorem dX5_cut_6 : decode cX5_cut 6 = .ok (.getfield 13, 3) := by decide +kernel
theorem dX5_cut_9 : decode cX5_cut 9 = .ok (.if_icmp .ge 8, 3) := by decide +kernel
theorem dX5_cut_12 : decode cX5_cut 12 = .ok (.aload_n 0, 1) := by decide +kernel
theorem dX5_cut_13 : decode cX5_cut 13 = .ok (.iload_n 1, 1) := by decide +kernel
theorem dX5_cut_14 : decode cX5_cut 14 = .ok (.putfield 13, 3) := by decide +kernel
theorem dX5_cut_17 : decode cX5_cut 17 = .ok (.return_, 1) := by decide +kernel
theorem dX5_addString_0 : decode cX5_addString 0 = .ok (.iconst 0, 1) := by decide +kernel
theorem dX5_addString_1 : decode cX5_addString 1 = .ok (.istore_n 2, 1) := by decide +kernel
theorem dX5_addString_2 : decode cX5_addString 2 = .ok (.iload_n 2, 1) := by decide +kernel
theorem dX5_addString_3 : decode cX5_addString 3 = .ok (.aload_n 1, 1) := by decide +kernel
theorem dX5_addString_4 : decode cX5_addString 4 = .ok (.invokevirtual 23, 3) := by decide +kernel
theorem dX5_addString_7 : decode cX5_addString 7 = .ok (.if_icmp .ge 18, 3) := by decide +kernel
theorem dX5_addString_10 : decode cX5_addString 10 = .ok (.aload_n 0, 1) := by decide +kernel
theorem dX5_addString_11 : decode cX5_addString 11 = .ok (.aload_n 1, 1) := by decide +kernel
theorem dX5_addString_12 : decode cX5_addString 12 = .ok (.iload_n 2, 1) := by decide +kernel
theorem dX5_addString_13 : decode cX5_addString 13 = .ok (.invokevirtual 28, 3) := by decide +kernel
theorem dX5_addString_16 : decode cX5_addString 16 = .ok (.invokevirtual 32, 3) := by decide +kernel
theorem dX5_addString_19 : decode cX5_addString 19 = .ok (.iinc 2 1, 3) := by decide +kernel
theorem dX5_addString_22 : decode cX5_addString 22 = .ok (.goto (-20), 3) := by decide +kernel
theorem dX5_addString_25 : decode cX5_addString 25 = .ok (.return_, 1) := by decide +kernel
theorem dX5_addText_0 : decode cX5_addText 0 = .ok (.aload_n 0, 1) := by decide +kernel
theorem dX5_addText_1 : decode cX5_addText 1 = .ok (.aload_n 1, 1) := by decide +kernel
theorem dX5_addText_2 : decode cX5_addText 2 = .ok (.iconst 0, 1) := by decide +kernel
theorem dX5_addText_3 : decode cX5_addText 3 = .ok (.aload_n 1, 1) := by decide +kernel
theorem dX5_addText_4 : decode cX5_addText 4 = .ok (.getfield 13, 3) := by decide +kernel
theorem dX5_addText_7 : decode cX5_addText 7 = .ok (.invokevirtual 36, 3) := by decide +kernel
theorem dX5_addText_10 : decode cX5_addText 10 = .ok (.return_, 1) := by decide +kernel
theorem dX5_addPart_0 : decode cX5_addPart 0 = .ok (.iload_n 2, 1) := by decide +kernel
theorem dX5_addPart_1 : decode cX5_addPart 1 = .ok (.iconst 0, 1) := by decide +kernel
theorem dX5_addPart_2 : decode cX5_addPart 2 = .ok (.invokestatic 40, 3) := by decide +kernel
theorem dX5_addPart_5 : decode cX5_addPart 5 = .ok (.istore 4, 2) := by decide +kernel
theorem dX5_addPart_7 : decode cX5_addPart 7 = .ok (.iload 4, 2) := by decide +kernel
theorem dX5_addPart_9 : decode cX5_addPart 9 = .ok (.iload_n 3, 1) := by decide +kernel
theorem dX5_addPart_10 : decode cX5_addPart 10 = .ok (.if_icmp .ge 29, 3) := by decide +kernel
theorem dX5_addPart_13 : decode cX5_addPart 13 = .ok (.iload 4, 2) := by decide +kernel
theorem dX5_addPart_15 : decode cX5_addPart 15 = .ok (.aload_n 1, 1) := by decide +kernel
theorem dX5_addPart_16 : decode cX5_addPart 16 = .ok (.getfield 13, 3) := by decide +kernel
theorem dX5_addPart_19 : decode cX5_addPart 19 = .ok (.if_icmp .ge 20, 3) := by decide +kernel
theorem dX5_addPart_22 : decode cX5_addPart 22 = .ok (.aload_n 0, 1) := by decide +kernel
theorem dX5_addPart_23 : decode cX5_addPart 23 = .ok (.aload_n 1, 1) := by decide +kernel
theorem dX5_addPart_24 : decode cX5_addPart 24 = .ok (.getfield 9, 3) := by decide +kernel
theorem dX5_addPart_27 : decode cX5_addPart 27 = .ok (.iload 4, 2) := by decide +kernel
theorem dX5_addPart_29 : decode cX5_addPart 29 = .ok (.caload, 1) := by decide +kernel
theorem dX5_addPart_30 : decode cX5_addPart 30 = .ok (.invokevirtual 32, 3) := by decide +kernel
theorem dX5_addPart_33 : decode cX5_addPart 33 = .ok (.iinc 4 1, 3) := by decide +kernel
theorem dX5_addPart_36 : decode cX5_addPart 36 = .ok (.goto (-29), 3) := by decide +kernel
theorem dX5_addPart_39 : decode cX5_addPart 39 = .ok (.return_, 1) := by decide +kernel
theorem dX5_addNumber_0 : decode cX5_addNumber 0 = .ok (.iload_n 1, 1) := by decide +kernel
theorem dX5_addNumber_1 : decode cX5_addNumber 1 = .ok (.bipush 10, 2) := by decide +kernel
theorem dX5_addNumber_3 : decode cX5_addNumber 3 = .ok (.if_icmp .lt 14, 3) := by decide +kernel
theorem dX5_addNumber_6 : decode cX5_addNumber 6 = .ok (.aload_n 0, 1) := by decide +kernel
theorem dX5_addNumber_7 : decode cX5_addNumber 7 = .ok (.bipush 48, 2) := by decide +kernel
theorem dX5_addNumber_9 : decode cX5_addNumber 9 = .ok (.iload_n 1, 1) := by decide +kernel
theorem dX5_addNumber_10 : decode cX5_addNumber 10 = .ok (.bipush 10, 2) := by decide +kernel
theorem dX5_addNumber_12 : decode cX5_addNumber 12 = .ok (.idiv, 1) := by decide +kernel
theorem dX5_addNumber_13 : decode cX5_addNumber 13 = .ok (.iadd, 1) := by decide +kernel
theorem dX5_addNumber_14 : decode cX5_addNumber 14 = .ok (.invokevirtual 32, 3) := by decide +kernel
theorem dX5_addNumber_17 : decode cX5_addNumber 17 = .ok (.aload_n 0, 1) := by decide +kernel
theorem dX5_addNumber_18 : decode cX5_addNumber 18 = .ok (.bipush 48, 2) := by decide +kernel
theorem dX5_addNumber_20 : decode cX5_addNumber 20 = .ok (.iload_n 1, 1) := by decide +kernel
theorem dX5_addNumber_21 : decode cX5_addNumber 21 = .ok (.bipush 10, 2) := by decide +kernel
theorem dX5_addNumber_23 : decode cX5_addNumber 23 = .ok (.irem, 1) := by decide +kernel
theorem dX5_addNumber_24 : decode cX5_addNumber 24 = .ok (.iadd, 1) := by decide +kernel
theorem dX5_addNumber_25 : decode cX5_addNumber 25 = .ok (.invokevirtual 32, 3) := by decide +kernel
theorem dX5_addNumber_28 : decode cX5_addNumber 28 = .ok (.return_, 1) := by decide +kernel
theorem dX5_fold_0 : decode cX5_fold 0 = .ok (.iconst 0, 1) := by decide +kernel
theorem dX5_fold_1 : decode cX5_fold 1 = .ok (.istore_n 1, 1) := by decide +kernel
theorem dX5_fold_2 : decode cX5_fold 2 = .ok (.iload_n 1, 1) := by decide +kernel
theorem dX5_fold_3 : decode cX5_fold 3 = .ok (.aload_n 0, 1) := by decide +kernel
theorem dX5_fold_4 : decode cX5_fold 4 = .ok (.getfield 13, 3) := by decide +kernel
theorem dX5_fold_7 : decode cX5_fold 7 = .ok (.if_icmp .ge 25, 3) := by decide +kernel
theorem dX5_fold_10 : decode cX5_fold 10 = .ok (.aload_n 0, 1) := by decide +kernel
theorem dX5_fold_11 : decode cX5_fold 11 = .ok (.getfield 9, 3) := by decide +kernel
theorem dX5_fold_14 : decode cX5_fold 14 = .ok (.iload_n 1, 1) := by decide +kernel
theorem dX5_fold_15 : decode cX5_fold 15 = .ok (.aload_n 0, 1) := by decide +kernel
theorem dX5_fold_16 : decode cX5_fold 16 = .ok (.getfield 9, 3) := by decide +kernel
theorem dX5_fold_19 : decode cX5_fold 19 = .ok (.iload_n 1, 1) := by decide +kernel
theorem dX5_fold_20 : decode cX5_fold 20 = .ok (.caload, 1) := by decide +kernel
theorem dX5_fold_21 : decode cX5_fold 21 = .ok (.invokestatic 46, 3) := by decide +kernel
theorem dX5_fold_24 : decode cX5_fold 24 = .ok (.i2c, 1) := by decide +kernel
theorem dX5_fold_25 : decode cX5_fold 25 = .ok (.castore, 1) := by decide +kernel
theorem dX5_fold_26 : decode cX5_fold 26 = .ok (.iinc 1 1, 3) := by decide +kernel
theorem dX5_fold_29 : decode cX5_fold 29 = .ok (.goto (-27), 3) := by decide +kernel
theorem dX5_fold_32 : decode cX5_fold 32 = .ok (.return_, 1) := by decide +kernel
theorem dX5_comparedTo_0 : decode cX5_comparedTo 0 = .ok (.aload_n 0, 1) := by decide +kernel
theorem dX5_comparedTo_1 : decode cX5_comparedTo 1 = .ok (.getfield 13, 3) := by decide +kernel
theorem dX5_comparedTo_4 : decode cX5_comparedTo 4 = .ok (.aload_n 1, 1) := by decide +kernel
theorem dX5_comparedTo_5 : decode cX5_comparedTo 5 = .ok (.getfield 13, 3) := by decide +kernel
theorem dX5_comparedTo_8 : decode cX5_comparedTo 8 = .ok (.invokestatic 52, 3) := by decide +kernel
theorem dX5_comparedTo_11 : decode cX5_comparedTo 11 = .ok (.istore_n 2, 1) := by decide +kernel
theorem dX5_comparedTo_12 : decode cX5_comparedTo 12 = .ok (.iconst 0, 1) := by decide +kernel
theorem dX5_comparedTo_13 : decode cX5_comparedTo 13 = .ok (.istore_n 3, 1) := by decide +kernel
theorem dX5_comparedTo_14 : decode cX5_comparedTo 14 = .ok (.iload_n 3, 1) := by decide +kernel
theorem dX5_comparedTo_15 : decode cX5_comparedTo 15 = .ok (.iload_n 2, 1) := by decide +kernel
theorem dX5_comparedTo_16 : decode cX5_comparedTo 16 = .ok (.if_icmp .ge 38, 3) := by decide +kernel
theorem dX5_comparedTo_19 : decode cX5_comparedTo 19 = .ok (.aload_n 0, 1) := by decide +kernel
theorem dX5_comparedTo_20 : decode cX5_comparedTo 20 = .ok (.getfield 9, 3) := by decide +kernel
theorem dX5_comparedTo_23 : decode cX5_comparedTo 23 = .ok (.iload_n 3, 1) := by decide +kernel
theorem dX5_comparedTo_24 : decode cX5_comparedTo 24 = .ok (.caload, 1) := by decide +kernel
theorem dX5_comparedTo_25 : decode cX5_comparedTo 25 = .ok (.aload_n 1, 1) := by decide +kernel
theorem dX5_comparedTo_26 : decode cX5_comparedTo 26 = .ok (.getfield 9, 3) := by decide +kernel
theorem dX5_comparedTo_29 : decode cX5_comparedTo 29 = .ok (.iload_n 3, 1) := by decide +kernel
theorem dX5_comparedTo_30 : decode cX5_comparedTo 30 = .ok (.caload, 1) := by decide +kernel
theorem dX5_comparedTo_31 : decode cX5_comparedTo 31 = .ok (.if_icmp .eq 17, 3) := by decide +kernel
theorem dX5_comparedTo_34 : decode cX5_comparedTo 34 = .ok (.aload_n 0, 1) := by decide +kernel
theorem dX5_comparedTo_35 : decode cX5_comparedTo 35 = .ok (.getfield 9, 3) := by decide +kernel
theorem dX5_comparedTo_38 : decode cX5_comparedTo 38 = .ok (.iload_n 3, 1) := by decide +kernel
theorem dX5_comparedTo_39 : decode cX5_comparedTo 39 = .ok (.caload, 1) := by decide +kernel
theorem dX5_comparedTo_40 : decode cX5_comparedTo 40 = .ok (.aload_n 1, 1) := by decide +kernel
theorem dX5_comparedTo_41 : decode cX5_comparedTo 41 = .ok (.getfield 9, 3) := by decide +kernel
theorem dX5_comparedTo_44 : decode cX5_comparedTo 44 = .ok (.iload_n 3, 1) := by decide +kernel
theorem dX5_comparedTo_45 : decode cX5_comparedTo 45 = .ok (.caload, 1) := by decide +kernel
theorem dX5_comparedTo_46 : decode cX5_comparedTo 46 = .ok (.isub, 1) := by decide +kernel
theorem dX5_comparedTo_47 : decode cX5_comparedTo 47 = .ok (.ireturn, 1) := by decide +kernel
theorem dX5_comparedTo_48 : decode cX5_comparedTo 48 = .ok (.iinc 3 1, 3) := by decide +kernel
theorem dX5_comparedTo_51 : decode cX5_comparedTo 51 = .ok (.goto (-37), 3) := by decide +kernel
theorem dX5_comparedTo_54 : decode cX5_comparedTo 54 = .ok (.aload_n 0, 1) := by decide +kernel
theorem dX5_comparedTo_55 : decode cX5_comparedTo 55 = .ok (.getfield 13, 3) := by decide +kernel
theorem dX5_comparedTo_58 : decode cX5_comparedTo 58 = .ok (.aload_n 1, 1) := by decide +kernel
theorem dX5_comparedTo_59 : decode cX5_comparedTo 59 = .ok (.getfield 13, 3) := by decide +kernel
theorem dX5_comparedTo_62 : decode cX5_comparedTo 62 = .ok (.isub, 1) := by decide +kernel
theorem dX5_comparedTo_63 : decode cX5_comparedTo 63 = .ok (.ireturn, 1) := by decide +kernel
theorem dX5_sameAs_0 : decode cX5_sameAs 0 = .ok (.aload_n 0, 1) := by decide +kernel
theorem dX5_sameAs_1 : decode cX5_sameAs 1 = .ok (.getfield 13, 3) := by decide +kernel
theorem dX5_sameAs_4 : decode cX5_sameAs 4 = .ok (.aload_n 1, 1) := by decide +kernel
theorem dX5_sameAs_5 : decode cX5_sameAs 5 = .ok (.getfield 13, 3) := by decide +kernel
theorem dX5_sameAs_8 : decode cX5_sameAs 8 = .ok (.if_icmp .ne 15, 3) := by decide +kernel
theorem dX5_sameAs_11 : decode cX5_sameAs 11 = .ok (.aload_n 0, 1) := by decide +kernel
theorem dX5_sameAs_12 : decode cX5_sameAs 12 = .ok (.aload_n 1, 1) := by decide +kernel
theorem dX5_sameAs_13 : decode cX5_sameAs 13 = .ok (.invokevirtual 55, 3) := by decide +kernel
theorem dX5_sameAs_16 : decode cX5_sameAs 16 = .ok (.ifCond .ne 7, 3) := by decide +kernel
theorem dX5_sameAs_19 : decode cX5_sameAs 19 = .ok (.iconst 1, 1) := by decide +kernel
theorem dX5_sameAs_20 : decode cX5_sameAs 20 = .ok (.goto 4, 3) := by decide +kernel
theorem dX5_sameAs_23 : decode cX5_sameAs 23 = .ok (.iconst 0, 1) := by decide +kernel
theorem dX5_sameAs_24 : decode cX5_sameAs 24 = .ok (.ireturn, 1) := by decide +kernel
theorem dX6_init_0 : decode cX6_init 0 = .ok (.aload_n 0, 1) := by decide +kernel
theorem dX6_init_1 : decode cX6_init 1 = .ok (.invokespecial 3, 3) := by decide +kernel
theorem dX6_init_4 : decode cX6_init 4 = .ok (.aload_n 0, 1) := by decide +kernel
theorem dX6_init_5 : decode cX6_init 5 = .ok (.new 9, 3) := by decide +kernel
theorem dX6_init_8 : decode cX6_init 8 = .ok (.dup, 1) := by decide +kernel
theorem dX6_init_9 : decode cX6_init 9 = .ok (.invokespecial 11, 3) := by decide +kernel
theorem dX6_init_12 : decode cX6_init 12 = .ok (.putfield 12, 3) := by decide +kernel
theorem dX6_init_15 : decode cX6_init 15 = .ok (.aload_n 0, 1) := by decide +kernel
theorem dX6_init_16 : decode cX6_init 16 = .ok (.new 9, 3) := by decide +kernel
theorem dX6_init_19 : decode cX6_init 19 = .ok (.dup, 1) := by decide +kernel
theorem dX6_init_20 : decode cX6_init 20 = .ok (.invokespecial 11, 3) := by decide +kernel
theorem dX6_init_23 : decode cX6_init 23 = .ok (.putfield 16, 3) := by decide +kernel
theorem dX6_init_26 : decode cX6_init 26 = .ok (.aload_n 0, 1) := by decide +kernel
theorem dX6_init_27 : decode cX6_init 27 = .ok (.iconst 0, 1) := by decide +kernel
theorem dX6_init_28 : decode cX6_init 28 = .ok (.putfield 19, 3) := by decide +kernel
theorem dX6_init_31 : decode cX6_init 31 = .ok (.aload_n 0, 1) := by decide +kernel
theorem dX6_init_32 : decode cX6_init 32 = .ok (.iconst 0, 1) := by decide +kernel
theorem dX6_init_33 : decode cX6_init 33 = .ok (.putfield 23, 3) := by decide +kernel
theorem dX6_init_36 : decode cX6_init 36 = .ok (.aload_n 0, 1) := by decide +kernel
theorem dX6_init_37 : decode cX6_init 37 = .ok (.new 26, 3) := by decide +kernel
theorem dX6_init_40 : decode cX6_init 40 = .ok (.dup, 1) := by decide +kernel
theorem dX6_init_41 : decode cX6_init 41 = .ok (.invokespecial 28, 3) := by decide +kernel
theorem dX6_init_44 : decode cX6_init 44 = .ok (.putfield 29, 3) := by decide +kernel
theorem dX6_init_47 : decode cX6_init 47 = .ok (.aload_n 0, 1) := by decide +kernel
theorem dX6_init_48 : decode cX6_init 48 = .ok (.new 33, 3) := by decide +kernel
theorem dX6_init_51 : decode cX6_init 51 = .ok (.dup, 1) := by decide +kernel
theorem dX6_init_52 : decode cX6_init 52 = .ok (.invokespecial 35, 3) := by decide +kernel
theorem dX6_init_55 : decode cX6_init 55 = .ok (.putfield 36, 3) := by decide +kernel
theorem dX6_init_58 : decode cX6_init 58 = .ok (.aload_n 0, 1) := by decide +kernel
theorem dX6_init_59 : decode cX6_init 59 = .ok (.new 40, 3) := by decide +kernel
theorem dX6_init_62 : decode cX6_init 62 = .ok (.dup, 1) := by decide +kernel
theorem dX6_init_63 : decode cX6_init 63 = .ok (.invokespecial 42, 3) := by decide +kernel
theorem dX6_init_66 : decode cX6_init 66 = .ok (.putfield 43, 3) := by decide +kernel
theorem dX6_init_69 : decode cX6_init 69 = .ok (.aload_n 0, 1) := by decide +kernel
theorem dX6_init_70 : decode cX6_init 70 = .ok (.new 33, 3) := by decide +kernel
theorem dX6_init_73 : decode cX6_init 73 = .ok (.dup, 1) := by decide +kernel
theorem dX6_init_74 : decode cX6_init 74 = .ok (.invokespecial 35, 3) := by decide +kernel
theorem dX6_init_77 : decode cX6_init 77 = .ok (.putfield 47, 3) := by decide +kernel
theorem dX6_init_80 : decode cX6_init 80 = .ok (.return_, 1) := by decide +kernel
theorem dX6_entry_0 : decode cX6_entry 0 = .ok (.aload_n 0, 1) := by decide +kernel
theorem dX6_entry_1 : decode cX6_entry 1 = .ok (.getfield 12, 3) := by decide +kernel
theorem dX6_entry_4 : decode cX6_entry 4 = .ok (.invokevirtual 50, 3) := by decide +kernel
theorem dX6_entry_7 : decode cX6_entry 7 = .ok (.istore_n 2, 1) := by decide +kernel
theorem dX6_entry_8 : decode cX6_entry 8 = .ok (.iload_n 2, 1) := by decide +kernel
theorem dX6_entry_9 : decode cX6_entry 9 = .ok (.bipush 24, 2) := by decide +kernel
theorem dX6_entry_11 : decode cX6_entry 11 = .ok (.if_icmp .lt 13, 3) := by decide +kernel
theorem dX6_entry_14 : decode cX6_entry 14 = .ok (.new 54, 3) := by decide +kernel
theorem dX6_entry_17 : decode cX6_entry 17 = .ok (.dup, 1) := by decide +kernel
theorem dX6_entry_18 : decode cX6_entry 18 = .ok (.ldc 56, 2) := by decide +kernel
theorem dX6_entry_20 : decode cX6_entry 20 = .ok (.invokespecial 58, 3) := by decide +kernel
theorem dX6_entry_23 : decode cX6_entry 23 = .ok (.athrow, 1) := by decide +kernel
theorem dX6_entry_24 : decode cX6_entry 24 = .ok (.aload_n 0, 1) := by decide +kernel
theorem dX6_entry_25 : decode cX6_entry 25 = .ok (.getfield 12, 3) := by decide +kernel
theorem dX6_entry_28 : decode cX6_entry 28 = .ok (.new 61, 3) := by decide +kernel
theorem dX6_entry_31 : decode cX6_entry 31 = .ok (.dup, 1) := by decide +kernel
theorem dX6_entry_32 : decode cX6_entry 32 = .ok (.iload_n 2, 1) := by decide +kernel
theorem dX6_entry_33 : decode cX6_entry 33 = .ok (.iload_n 1, 1) := by decide +kernel
theorem dX6_entry_34 : decode cX6_entry 34 = .ok (.invokespecial 63, 3) := by decide +kernel
theorem dX6_entry_37 : decode cX6_entry 37 = .ok (.invokevirtual 66, 3) := by decide +kernel
theorem dX6_entry_40 : decode cX6_entry 40 = .ok (.pop, 1) := by decide +kernel
theorem dX6_entry_41 : decode cX6_entry 41 = .ok (.iload_n 2, 1) := by decide +kernel
theorem dX6_entry_42 : decode cX6_entry 42 = .ok (.ireturn, 1) := by decide +kernel
theorem dX6_key_0 : decode cX6_key 0 = .ok (.aload_n 0, 1) := by decide +kernel
theorem dX6_key_1 : decode cX6_key 1 = .ok (.iload_n 1, 1) := by decide +kernel
theorem dX6_key_2 : decode cX6_key 2 = .ok (.invokevirtual 70, 3) := by decide +kernel
theorem dX6_key_5 : decode cX6_key 5 = .ok (.getfield 74, 3) := by decide +kernel
theorem dX6_key_8 : decode cX6_key 8 = .ok (.iload_n 2, 1) := by decide +kernel
theorem dX6_key_9 : decode cX6_key 9 = .ok (.bipush 16, 2) := by decide +kernel
theorem dX6_key_11 : decode cX6_key 11 = .ok (.invokestatic 77, 3) := by decide +kernel
theorem dX6_key_14 : decode cX6_key 14 = .ok (.return_, 1) := by decide +kernel
theorem dX6_field_0 : decode cX6_field 0 = .ok (.aload_n 0, 1) := by decide +kernel
theorem dX6_field_1 : decode cX6_field 1 = .ok (.iload_n 1, 1) := by decide +kernel
theorem dX6_field_2 : decode cX6_field 2 = .ok (.invokevirtual 70, 3) := by decide +kernel
theorem dX6_field_5 : decode cX6_field 5 = .ok (.astore 4, 2) := by decide +kernel
theorem dX6_field_7 : decode cX6_field 7 = .ok (.iload_n 2, 1) := by decide +kernel
theorem dX6_field_8 : decode cX6_field 8 = .ok (.ifCond .lt 9, 3) := by decide +kernel
theorem dX6_field_11 : decode cX6_field 11 = .ok (.iload_n 2, 1) := by decide +kernel
theorem dX6_field_12 : decode cX6_field 12 = .ok (.bipush 8, 2) := by decide +kernel
theorem dX6_field_14 : decode cX6_field 14 = .ok (.if_icmp .lt 13, 3) := by decide +kernel
theorem dX6_field_17 : decode cX6_field 17 = .ok (.new 81, 3) := by decide +kernel
theorem dX6_field_20 : decode cX6_field 20 = .ok (.dup, 1) := by decide +kernel
theorem dX6_field_21 : decode cX6_field 21 = .ok (.ldc 83, 2) := by decide +kernel
theorem dX6_field_23 : decode cX6_field 23 = .ok (.invokespecial 85, 3) := by decide +kernel
theorem dX6_field_26 : decode cX6_field 26 = .ok (.athrow, 1) := by decide +kernel
theorem dX6_field_27 : decode cX6_field 27 = .ok (.aload 4, 2) := by decide +kernel
theorem dX6_field_29 : decode cX6_field 29 = .ok (.iload_n 2, 1) := by decide +kernel
theorem dX6_field_30 : decode cX6_field 30 = .ok (.invokevirtual 86, 3) := by decide +kernel
theorem dX6_field_33 : decode cX6_field 33 = .ok (.iload_n 3, 1) := by decide +kernel
theorem dX6_field_34 : decode cX6_field 34 = .ok (.bipush 80, 2) := by decide +kernel
theorem dX6_field_36 : decode cX6_field 36 = .ok (.invokestatic 77, 3) := by decide +kernel
theorem dX6_field_39 : decode cX6_field 39 = .ok (.return_, 1) := by decide +kernel
theorem dX6_cite_0 : decode cX6_cite 0 = .ok (.aload_n 0, 1) := by decide +kernel
theorem dX6_cite_1 : decode cX6_cite 1 = .ok (.iload_n 1, 1) := by decide +kernel
theorem dX6_cite_2 : decode cX6_cite 2 = .ok (.invokevirtual 70, 3) := by decide +kernel
theorem dX6_cite_5 : decode cX6_cite 5 = .ok (.astore_n 2, 1) := by decide +kernel
theorem dX6_cite_6 : decode cX6_cite 6 = .ok (.aload_n 0, 1) := by decide +kernel
theorem dX6_cite_7 : decode cX6_cite 7 = .ok (.getfield 16, 3) := by decide +kernel
theorem dX6_cite_10 : decode cX6_cite 10 = .ok (.invokevirtual 50, 3) := by decide +kernel
theorem dX6_cite_13 : decode cX6_cite 13 = .ok (.bipush 60, 2) := by decide +kernel
theorem dX6_cite_15 : decode cX6_cite 15 = .ok (.if_icmp .lt 13, 3) := by decide +kernel
theorem dX6_cite_18 : decode cX6_cite 18 = .ok (.new 54, 3) := by decide +kernel
theorem dX6_cite_21 : decode cX6_cite 21 = .ok (.dup, 1) := by decide +kernel
theorem dX6_cite_22 : decode cX6_cite 22 = .ok (.ldc 90, 2) := by decide +kernel
theorem dX6_cite_24 : decode cX6_cite 24 = .ok (.invokespecial 58, 3) := by decide +kernel
theorem dX6_cite_27 : decode cX6_cite 27 = .ok (.athrow, 1) := by decide +kernel
theorem dX6_cite_28 : decode cX6_cite 28 = .ok (.aload_n 0, 1) := by decide +kernel
theorem dX6_cite_29 : decode cX6_cite 29 = .ok (.getfield 16, 3) := by decide +kernel
theorem dX6_cite_32 : decode cX6_cite 32 = .ok (.aload_n 2, 1) := by decide +kernel
theorem dX6_cite_33 : decode cX6_cite 33 = .ok (.invokevirtual 66, 3) := by decide +kernel
theorem dX6_cite_36 : decode cX6_cite 36 = .ok (.pop, 1) := by decide +kernel
theorem dX6_cite_37 : decode cX6_cite 37 = .ok (.aload_n 0, 1) := by decide +kernel
theorem dX6_cite_38 : decode cX6_cite 38 = .ok (.getfield 16, 3) := by decide +kernel
theorem dX6_cite_41 : decode cX6_cite 41 = .ok (.invokevirtual 50, 3) := by decide +kernel
theorem dX6_cite_44 : decode cX6_cite 44 = .ok (.ireturn, 1) := by decide +kernel
theorem dX6_cross_0 : decode cX6_cross 0 = .ok (.aload_n 0, 1) := by decide +kernel
theorem dX6_cross_1 : decode cX6_cross 1 = .ok (.iload_n 1, 1) := by decide +kernel
theorem dX6_cross_2 : decode cX6_cross 2 = .ok (.invokevirtual 70, 3) := by decide +kernel
theorem dX6_cross_5 : decode cX6_cross 5 = .ok (.astore_n 3, 1) := by decide +kernel
theorem dX6_cross_6 : decode cX6_cross 6 = .ok (.aload_n 0, 1) := by decide +kernel
theorem dX6_cross_7 : decode cX6_cross 7 = .ok (.iload_n 2, 1) := by decide +kernel
theorem dX6_cross_8 : decode cX6_cross 8 = .ok (.invokevirtual 70, 3) := by decide +kernel
theorem dX6_cross_11 : decode cX6_cross 11 = .ok (.astore 4, 2) := by decide +kernel
theorem dX6_cross_13 : decode cX6_cross 13 = .ok (.aload 4, 2) := by decide +kernel
theorem dX6_cross_15 : decode cX6_cross 15 = .ok (.aload_n 3, 1) := by decide +kernel
theorem dX6_cross_16 : decode cX6_cross 16 = .ok (.invokevirtual 92, 3) := by decide +kernel
theorem dX6_cross_19 : decode cX6_cross 19 = .ok (.ifCond .eq 5, 3) := by decide +kernel
theorem dX6_cross_22 : decode cX6_cross 22 = .ok (.iconst 0, 1) := by decide +kernel
theorem dX6_cross_23 : decode cX6_cross 23 = .ok (.ireturn, 1) := by decide +kernel
theorem dX6_cross_24 : decode cX6_cross 24 = .ok (.aload_n 3, 1) := by decide +kernel
theorem dX6_cross_25 : decode cX6_cross 25 = .ok (.aload 4, 2) := by decide +kernel
theorem dX6_cross_27 : decode cX6_cross 27 = .ok (.putfield 96, 3) := by decide +kernel
theorem dX6_cross_30 : decode cX6_cross 30 = .ok (.iconst 1, 1) := by decide +kernel
theorem dX6_cross_31 : decode cX6_cross 31 = .ok (.ireturn, 1) := by decide +kernel
theorem dX6_style_0 : decode cX6_style 0 = .ok (.iload_n 1, 1) := by decide +kernel
theorem dX6_style_1 : decode cX6_style 1 = .ok (.ifCond .lt 17, 3) := by decide +kernel
theorem dX6_style_4 : decode cX6_style 4 = .ok (.iload_n 1, 1) := by decide +kernel
theorem dX6_style_5 : decode cX6_style 5 = .ok (.iconst 2, 1) := by decide +kernel
theorem dX6_style_6 : decode cX6_style 6 = .ok (.if_icmp .gt 12, 3) := by decide +kernel
theorem dX6_style_9 : decode cX6_style 9 = .ok (.iload_n 2, 1) := by decide +kernel
theorem dX6_style_10 : decode cX6_style 10 = .ok (.ifCond .lt 8, 3) := by decide +kernel
theorem dX6_style_13 : decode cX6_style 13 = .ok (.iload_n 2, 1) := by decide +kernel
theorem dX6_style_14 : decode cX6_style 14 = .ok (.iconst 2, 1) := by decide +kernel
theorem dX6_style_15 : decode cX6_style 15 = .ok (.if_icmp .le 13, 3) := by decide +kernel
theorem dX6_style_18 : decode cX6_style 18 = .ok (.new 100, 3) := by decide +kernel
theorem dX6_style_21 : decode cX6_style 21 = .ok (.dup, 1) := by decide +kernel
theorem dX6_style_22 : decode cX6_style 22 = .ok (.ldc 102, 2) := by decide +kernel
theorem dX6_style_24 : decode cX6_style 24 = .ok (.invokespecial 104, 3) := by decide +kernel
theorem dX6_style_27 : decode cX6_style 27 = .ok (.athrow, 1) := by decide +kernel
theorem dX6_style_28 : decode cX6_style 28 = .ok (.bipush 10, 2) := by decide +kernel
theorem dX6_style_30 : decode cX6_style 30 = .ok (.aload_n 0, 1) := by decide +kernel
theorem dX6_style_31 : decode cX6_style 31 = .ok (.getfield 19, 3) := by decide +kernel
theorem dX6_style_34 : decode cX6_style 34 = .ok (.imul, 1) := by decide +kernel
theorem dX6_style_35 : decode cX6_style 35 = .ok (.aload_n 0, 1) := by decide +kernel
theorem dX6_style_36 : decode cX6_style 36 = .ok (.getfield 23, 3) := by decide +kernel
theorem dX6_style_39 : decode cX6_style 39 = .ok (.iadd, 1) := by decide +kernel
theorem dX6_style_40 : decode cX6_style 40 = .ok (.istore_n 3, 1) := by decide +kernel
theorem dX6_style_41 : decode cX6_style 41 = .ok (.aload_n 0, 1) := by decide +kernel
theorem dX6_style_42 : decode cX6_style 42 = .ok (.iload_n 1, 1) := by decide +kernel
theorem dX6_style_43 : decode cX6_style 43 = .ok (.putfield 19, 3) := by decide +kernel
theorem dX6_style_46 : decode cX6_style 46 = .ok (.aload_n 0, 1) := by decide +kernel
theorem dX6_style_47 : decode cX6_style 47 = .ok (.iload_n 2, 1) := by decide +kernel
theorem dX6_style_48 : decode cX6_style 48 = .ok (.putfield 23, 3) := by decide +kernel
theorem dX6_style_51 : decode cX6_style 51 = .ok (.iload_n 3, 1) := by decide +kernel
theorem dX6_style_52 : decode cX6_style 52 = .ok (.ireturn, 1) := by decide +kernel
theorem dX6_run_0 : decode cX6_run 0 = .ok (.aload_n 0, 1) := by decide +kernel
theorem dX6_run_1 : decode cX6_run 1 = .ok (.getfield 29, 3) := by decide +kernel
theorem dX6_run_4 : decode cX6_run 4 = .ok (.invokevirtual 105, 3) := by decide +kernel
theorem dX6_run_7 : decode cX6_run 7 = .ok (.iconst 0, 1) := by decide +kernel
theorem dX6_run_8 : decode cX6_run 8 = .ok (.istore_n 1, 1) := by decide +kernel
theorem dX6_run_9 : decode cX6_run 9 = .ok (.iload_n 1, 1) := by decide +kernel
theorem dX6_run_10 : decode cX6_run 10 = .ok (.aload_n 0, 1) := by decide +kernel
theorem dX6_run_11 : decode cX6_run 11 = .ok (.getfield 16, 3) := by decide +kernel
theorem dX6_run_14 : decode cX6_run 14 = .ok (.invokevirtual 50, 3) := by decide +kernel
theorem dX6_run_17 : decode cX6_run 17 = .ok (.if_icmp .ge 31, 3) := by decide +kernel
theorem dX6_run_20 : decode cX6_run 20 = .ok (.aload_n 0, 1) := by decide +kernel
theorem dX6_run_21 : decode cX6_run 21 = .ok (.getfield 29, 3) := by decide +kernel
theorem dX6_run_24 : decode cX6_run 24 = .ok (.aload_n 0, 1) := by decide +kernel
theorem dX6_run_25 : decode cX6_run 25 = .ok (.aload_n 0, 1) := by decide +kernel
theorem dX6_run_26 : decode cX6_run 26 = .ok (.getfield 16, 3) := by decide +kernel
theorem dX6_run_29 : decode cX6_run 29 = .ok (.iload_n 1, 1) := by decide +kernel
theorem dX6_run_30 : decode cX6_run 30 = .ok (.invokevirtual 108, 3) := by decide +kernel
theorem dX6_run_33 : decode cX6_run 33 = .ok (.checkcast 61, 3) := by decide +kernel
theorem dX6_run_36 : decode cX6_run 36 = .ok (.invokevirtual 112, 3) := by decide +kernel
theorem dX6_run_39 : decode cX6_run 39 = .ok (.invokevirtual 116, 3) := by decide +kernel
theorem dX6_run_42 : decode cX6_run 42 = .ok (.iinc 1 1, 3) := by decide +kernel
theorem dX6_run_45 : decode cX6_run 45 = .ok (.goto (-36), 3) := by decide +kernel
theorem dX6_run_48 : decode cX6_run 48 = .ok (.aload_n 0, 1) := by decide +kernel
theorem dX6_run_49 : decode cX6_run 49 = .ok (.getfield 29, 3) := by decide +kernel
theorem dX6_run_52 : decode cX6_run 52 = .ok (.aload_n 0, 1) := by decide +kernel
theorem dX6_run_53 : decode cX6_run 53 = .ok (.getfield 19, 3) := by decide +kernel
theorem dX6_run_56 : decode cX6_run 56 = .ok (.invokevirtual 120, 3) := by decide +kernel
theorem dX6_run_59 : decode cX6_run 59 = .ok (.aload_n 0, 1) := by decide +kernel
theorem dX6_run_60 : decode cX6_run 60 = .ok (.getfield 29, 3) := by decide +kernel
theorem dX6_run_63 : decode cX6_run 63 = .ok (.aload_n 0, 1) := by decide +kernel
theorem dX6_run_64 : decode cX6_run 64 = .ok (.getfield 23, 3) := by decide +kernel
theorem dX6_run_67 : decode cX6_run 67 = .ok (.invokevirtual 124, 3) := by decide +kernel
theorem dX6_run_70 : decode cX6_run 70 = .ok (.aload_n 0, 1) := by decide +kernel
theorem dX6_run_71 : decode cX6_run 71 = .ok (.getfield 29, 3) := by decide +kernel
theorem dX6_run_74 : decode cX6_run 74 = .ok (.invokevirtual 127, 3) := by decide +kernel
theorem dX6_run_77 : decode cX6_run 77 = .ok (.iconst 0, 1) := by decide +kernel
theorem dX6_run_78 : decode cX6_run 78 = .ok (.istore_n 1, 1) := by decide +kernel
theorem dX6_run_79 : decode cX6_run 79 = .ok (.iload_n 1, 1) := by decide +kernel
theorem dX6_run_80 : decode cX6_run 80 = .ok (.aload_n 0, 1) := by decide +kernel
theorem dX6_run_81 : decode cX6_run 81 = .ok (.getfield 29, 3) := by decide +kernel
theorem dX6_run_84 : decode cX6_run 84 = .ok (.invokevirtual 130, 3) := by decide +kernel
theorem dX6_run_87 : decode cX6_run 87 = .ok (.if_icmp .ge 25, 3) := by decide +kernel
theorem dX6_run_90 : decode cX6_run 90 = .ok (.aload_n 0, 1) := by decide +kernel
theorem dX6_run_91 : decode cX6_run 91 = .ok (.getfield 29, 3) := by decide +kernel
theorem dX6_run_94 : decode cX6_run 94 = .ok (.iload_n 1, 1) := by decide +kernel
theorem dX6_run_95 : decode cX6_run 95 = .ok (.invokevirtual 131, 3) := by decide +kernel
theorem dX6_run_98 : decode cX6_run 98 = .ok (.aload_n 0, 1) := by decide +kernel
theorem dX6_run_99 : decode cX6_run 99 = .ok (.getfield 23, 3) := by decide +kernel
theorem dX6_run_102 : decode cX6_run 102 = .ok (.iload_n 1, 1) := by decide +kernel
theorem dX6_run_103 : decode cX6_run 103 = .ok (.invokevirtual 134, 3) := by decide +kernel
theorem dX6_run_106 : decode cX6_run 106 = .ok (.iinc 1 1, 3) := by decide +kernel
theorem dX6_run_109 : decode cX6_run 109 = .ok (.goto (-30), 3) := by decide +kernel
theorem dX6_run_112 : decode cX6_run 112 = .ok (.aload_n 0, 1) := by decide +kernel
theorem dX6_run_113 : decode cX6_run 113 = .ok (.getfield 29, 3) := by decide +kernel
theorem dX6_run_116 : decode cX6_run 116 = .ok (.invokevirtual 139, 3) := by decide +kernel
theorem dX6_run_119 : decode cX6_run 119 = .ok (.aload_n 0, 1) := by decide +kernel
theorem dX6_run_120 : decode cX6_run 120 = .ok (.getfield 29, 3) := by decide +kernel
theorem dX6_run_123 : decode cX6_run 123 = .ok (.invokevirtual 130, 3) := by decide +kernel
theorem dX6_run_126 : decode cX6_run 126 = .ok (.ireturn, 1) := by decide +kernel
theorem dX6_row_0 : decode cX6_row 0 = .ok (.aload_n 0, 1) := by decide +kernel
theorem dX6_row_1 : decode cX6_row 1 = .ok (.iload_n 1, 1) := by decide +kernel
theorem dX6_row_2 : decode cX6_row 2 = .ok (.invokevirtual 142, 3) := by decide +kernel
theorem dX6_row_5 : decode cX6_row 5 = .ok (.getfield 145, 3) := by decide +kernel
theorem dX6_row_8 : decode cX6_row 8 = .ok (.getfield 148, 3) := by decide +kernel
theorem dX6_row_11 : decode cX6_row 11 = .ok (.ireturn, 1) := by decide +kernel
theorem dX6_letter_0 : decode cX6_letter 0 = .ok (.aload_n 0, 1) := by decide +kernel
theorem dX6_letter_1 : decode cX6_letter 1 = .ok (.iload_n 1, 1) := by decide +kernel
theorem dX6_letter_2 : decode cX6_letter 2 = .ok (.invokevirtual 142, 3) := by decide +kernel
theorem dX6_letter_5 : decode cX6_letter 5 = .ok (.getfield 151, 3) := by decide +kernel
theorem dX6_letter_8 : decode cX6_letter 8 = .ok (.ireturn, 1) := by decide +kernel
theorem dX6_initials_0 : decode cX6_initials 0 = .ok (.aload_n 0, 1) := by decide +kernel
theorem dX6_initials_1 : decode cX6_initials 1 = .ok (.getfield 43, 3) := by decide +kernel
theorem dX6_initials_4 : decode cX6_initials 4 = .ok (.aload_n 0, 1) := by decide +kernel
theorem dX6_initials_5 : decode cX6_initials 5 = .ok (.iload_n 1, 1) := by decide +kernel
theorem dX6_initials_6 : decode cX6_initials 6 = .ok (.invokevirtual 70, 3) := by decide +kernel
theorem dX6_initials_9 : decode cX6_initials 9 = .ok (.iconst 0, 1) := by decide +kernel
theorem dX6_initials_10 : decode cX6_initials 10 = .ok (.invokevirtual 154, 3) := by decide +kernel
theorem dX6_initials_13 : decode cX6_initials 13 = .ok (.invokevirtual 157, 3) := by decide +kernel
theorem dX6_initials_16 : decode cX6_initials 16 = .ok (.iload_n 2, 1) := by decide +kernel
theorem dX6_initials_17 : decode cX6_initials 17 = .ok (.ifCond .lt 14, 3) := by decide +kernel
theorem dX6_initials_20 : decode cX6_initials 20 = .ok (.iload_n 2, 1) := by decide +kernel
theorem dX6_initials_21 : decode cX6_initials 21 = .ok (.aload_n 0, 1) := by decide +kernel
theorem dX6_initials_22 : decode cX6_initials 22 = .ok (.getfield 43, 3) := by decide +kernel
theorem dX6_initials_25 : decode cX6_initials 25 = .ok (.invokevirtual 161, 3) := by decide +kernel
theorem dX6_initials_28 : decode cX6_initials 28 = .ok (.if_icmp .lt 13, 3) := by decide +kernel
theorem dX6_initials_31 : decode cX6_initials 31 = .ok (.new 81, 3) := by decide +kernel
theorem dX6_initials_34 : decode cX6_initials 34 = .ok (.dup, 1) := by decide +kernel
theorem dX6_initials_35 : decode cX6_initials 35 = .ok (.ldc 162, 2) := by decide +kernel
theorem dX6_initials_37 : decode cX6_initials 37 = .ok (.invokespecial 85, 3) := by decide +kernel
theorem dX6_initials_40 : decode cX6_initials 40 = .ok (.athrow, 1) := by decide +kernel
theorem dX6_initials_41 : decode cX6_initials 41 = .ok (.aload_n 0, 1) := by decide +kernel
theorem dX6_initials_42 : decode cX6_initials 42 = .ok (.getfield 47, 3) := by decide +kernel
theorem dX6_initials_45 : decode cX6_initials 45 = .ok (.invokevirtual 164, 3) := by decide +kernel
theorem dX6_initials_48 : decode cX6_initials 48 = .ok (.aload_n 0, 1) := by decide +kernel
theorem dX6_initials_49 : decode cX6_initials 49 = .ok (.getfield 43, 3) := by decide +kernel
theorem dX6_initials_52 : decode cX6_initials 52 = .ok (.iload_n 2, 1) := by decide +kernel
theorem dX6_initials_53 : decode cX6_initials 53 = .ok (.aload_n 0, 1) := by decide +kernel
theorem dX6_initials_54 : decode cX6_initials 54 = .ok (.getfield 47, 3) := by decide +kernel
theorem dX6_initials_57 : decode cX6_initials 57 = .ok (.invokevirtual 167, 3) := by decide +kernel
theorem dX6_initials_60 : decode cX6_initials 60 = .ok (.iload_n 3, 1) := by decide +kernel
theorem dX6_initials_61 : decode cX6_initials 61 = .ok (.iconst (-1), 1) := by decide +kernel
theorem dX6_initials_62 : decode cX6_initials 62 = .ok (.if_icmp .ne 13, 3) := by decide +kernel
theorem dX6_initials_65 : decode cX6_initials 65 = .ok (.aload_n 0, 1) := by decide +kernel
theorem dX6_initials_66 : decode cX6_initials 66 = .ok (.getfield 47, 3) := by decide +kernel
theorem dX6_initials_69 : decode cX6_initials 69 = .ok (.invokevirtual 171, 3) := by decide +kernel
theorem dX6_initials_72 : decode cX6_initials 72 = .ok (.goto 11, 3) := by decide +kernel
theorem dX6_initials_75 : decode cX6_initials 75 = .ok (.aload_n 0, 1) := by decide +kernel
theorem dX6_initials_76 : decode cX6_initials 76 = .ok (.getfield 47, 3) := by decide +kernel
theorem dX6_initials_79 : decode cX6_initials 79 = .ok (.iload_n 3, 1) := by decide +kernel
theorem dX6_initials_80 : decode cX6_initials 80 = .ok (.invokestatic 172, 3) := by decide +kernel
theorem dX6_initials_83 : decode cX6_initials 83 = .ok (.ireturn, 1) := by decide +kernel
theorem dX6_missing_0 : decode cX6_missing 0 = .ok (.iload_n 1, 1) := by decide +kernel
theorem dX6_missing_1 : decode cX6_missing 1 = .ok (.iconst (-1), 1) := by decide +kernel
theorem dX6_missing_2 : decode cX6_missing 2 = .ok (.if_icmp .ne 11, 3) := by decide +kernel
theorem dX6_missing_5 : decode cX6_missing 5 = .ok (.aload_n 0, 1) := by decide +kernel
theorem dX6_missing_6 : decode cX6_missing 6 = .ok (.getfield 29, 3) := by decide +kernel
theorem dX6_missing_9 : decode cX6_missing 9 = .ok (.getfield 176, 3) := by decide +kernel
theorem dX6_missing_12 : decode cX6_missing 12 = .ok (.ireturn, 1) := by decide +kernel
theorem dX6_missing_13 : decode cX6_missing 13 = .ok (.iload_n 1, 1) := by decide +kernel
theorem dX6_missing_14 : decode cX6_missing 14 = .ok (.ifCond .lt 23, 3) := by decide +kernel
theorem dX6_missing_17 : decode cX6_missing 17 = .ok (.iload_n 1, 1) := by decide +kernel
theorem dX6_missing_18 : decode cX6_missing 18 = .ok (.aload_n 0, 1) := by decide +kernel
theorem dX6_missing_19 : decode cX6_missing 19 = .ok (.getfield 29, 3) := by decide +kernel
theorem dX6_missing_22 : decode cX6_missing 22 = .ok (.getfield 176, 3) := by decide +kernel
theorem dX6_missing_25 : decode cX6_missing 25 = .ok (.if_icmp .ge 12, 3) := by decide +kernel
theorem dX6_missing_28 : decode cX6_missing 28 = .ok (.iload_n 2, 1) := by decide +kernel
theorem dX6_missing_29 : decode cX6_missing 29 = .ok (.ifCond .lt 8, 3) := by decide +kernel
theorem dX6_missing_32 : decode cX6_missing 32 = .ok (.iload_n 2, 1) := by decide +kernel
theorem dX6_missing_33 : decode cX6_missing 33 = .ok (.iconst 1, 1) := by decide +kernel
theorem dX6_missing_34 : decode cX6_missing 34 = .ok (.if_icmp .le 13, 3) := by decide +kernel
theorem dX6_missing_37 : decode cX6_missing 37 = .ok (.new 81, 3) := by decide +kernel
theorem dX6_missing_40 : decode cX6_missing 40 = .ok (.dup, 1) := by decide +kernel
theorem dX6_missing_41 : decode cX6_missing 41 = .ok (.ldc 179, 2) := by decide +kernel
theorem dX6_missing_43 : decode cX6_missing 43 = .ok (.invokespecial 85, 3) := by decide +kernel
theorem dX6_missing_46 : decode cX6_missing 46 = .ok (.athrow, 1) := by decide +kernel
theorem dX6_missing_47 : decode cX6_missing 47 = .ok (.iload_n 2, 1) := by decide +kernel
theorem dX6_missing_48 : decode cX6_missing 48 = .ok (.ifCond .ne 15, 3) := by decide +kernel
theorem dX6_missing_51 : decode cX6_missing 51 = .ok (.aload_n 0, 1) := by decide +kernel
theorem dX6_missing_52 : decode cX6_missing 52 = .ok (.getfield 29, 3) := by decide +kernel
theorem dX6_missing_55 : decode cX6_missing 55 = .ok (.getfield 181, 3) := by decide +kernel
theorem dX6_missing_58 : decode cX6_missing 58 = .ok (.iload_n 1, 1) := by decide +kernel
theorem dX6_missing_59 : decode cX6_missing 59 = .ok (.iaload, 1) := by decide +kernel
theorem dX6_missing_60 : decode cX6_missing 60 = .ok (.goto 12, 3) := by decide +kernel
theorem dX6_missing_63 : decode cX6_missing 63 = .ok (.aload_n 0, 1) := by decide +kernel
theorem dX6_missing_64 : decode cX6_missing 64 = .ok (.getfield 29, 3) := by decide +kernel
theorem dX6_missing_67 : decode cX6_missing 67 = .ok (.getfield 185, 3) := by decide +kernel
theorem dX6_missing_70 : decode cX6_missing 70 = .ok (.iload_n 1, 1) := by decide +kernel
theorem dX6_missing_71 : decode cX6_missing 71 = .ok (.iaload, 1) := by decide +kernel
theorem dX6_missing_72 : decode cX6_missing 72 = .ok (.ireturn, 1) := by decide +kernel
theorem dX6_print_0 : decode cX6_print 0 = .ok (.iload_n 1, 1) := by decide +kernel
theorem dX6_print_1 : decode cX6_print 1 = .ok (.iconst (-1), 1) := by decide +kernel
theorem dX6_print_2 : decode cX6_print 2 = .ok (.if_icmp .ne 10, 3) := by decide +kernel
theorem dX6_print_5 : decode cX6_print 5 = .ok (.aload_n 0, 1) := by decide +kernel
theorem dX6_print_6 : decode cX6_print 6 = .ok (.invokevirtual 188, 3) := by decide +kernel
theorem dX6_print_9 : decode cX6_print 9 = .ok (.goto 27, 3) := by decide +kernel
theorem dX6_print_12 : decode cX6_print 12 = .ok (.aload_n 0, 1) := by decide +kernel
theorem dX6_print_13 : decode cX6_print 13 = .ok (.iload_n 1, 1) := by decide +kernel
theorem dX6_print_14 : decode cX6_print 14 = .ok (.invokevirtual 142, 3) := by decide +kernel
theorem dX6_print_17 : decode cX6_print 17 = .ok (.getfield 191, 3) := by decide +kernel
theorem dX6_print_20 : decode cX6_print 20 = .ok (.astore_n 2, 1) := by decide +kernel
theorem dX6_print_21 : decode cX6_print 21 = .ok (.aload_n 0, 1) := by decide +kernel
theorem dX6_print_22 : decode cX6_print 22 = .ok (.getfield 36, 3) := by decide +kernel
theorem dX6_print_25 : decode cX6_print 25 = .ok (.invokevirtual 164, 3) := by decide +kernel
theorem dX6_print_28 : decode cX6_print 28 = .ok (.aload_n 0, 1) := by decide +kernel
theorem dX6_print_29 : decode cX6_print 29 = .ok (.getfield 36, 3) := by decide +kernel
theorem dX6_print_32 : decode cX6_print 32 = .ok (.aload_n 2, 1) := by decide +kernel
theorem dX6_print_33 : decode cX6_print 33 = .ok (.invokevirtual 194, 3) := by decide +kernel
theorem dX6_print_36 : decode cX6_print 36 = .ok (.aload_n 0, 1) := by decide +kernel
theorem dX6_print_37 : decode cX6_print 37 = .ok (.getfield 36, 3) := by decide +kernel
theorem dX6_print_40 : decode cX6_print 40 = .ok (.invokevirtual 171, 3) := by decide +kernel
theorem dX6_print_43 : decode cX6_print 43 = .ok (.ireturn, 1) := by decide +kernel
theorem dX6_at_0 : decode cX6_at 0 = .ok (.aload_n 0, 1) := by decide +kernel
theorem dX6_at_1 : decode cX6_at 1 = .ok (.getfield 36, 3) := by decide +kernel
theorem dX6_at_4 : decode cX6_at 4 = .ok (.iload_n 1, 1) := by decide +kernel
theorem dX6_at_5 : decode cX6_at 5 = .ok (.invokestatic 172, 3) := by decide +kernel
theorem dX6_at_8 : decode cX6_at 8 = .ok (.ireturn, 1) := by decide +kernel
theorem dX6_twice_0 : decode cX6_twice 0 = .ok (.iconst 0, 1) := by decide +kernel
theorem dX6_twice_1 : decode cX6_twice 1 = .ok (.istore_n 2, 1) := by decide +kernel
theorem dX6_twice_2 : decode cX6_twice 2 = .ok (.iconst 0, 1) := by decide +kernel
theorem dX6_twice_3 : decode cX6_twice 3 = .ok (.istore_n 3, 1) := by decide +kernel
theorem dX6_twice_4 : decode cX6_twice 4 = .ok (.iload_n 3, 1) := by decide +kernel
theorem dX6_twice_5 : decode cX6_twice 5 = .ok (.aload_n 0, 1) := by decide +kernel
theorem dX6_twice_6 : decode cX6_twice 6 = .ok (.getfield 12, 3) := by decide +kernel
theorem dX6_twice_9 : decode cX6_twice 9 = .ok (.invokevirtual 50, 3) := by decide +kernel
theorem dX6_twice_12 : decode cX6_twice 12 = .ok (.if_icmp .ge 43, 3) := by decide +kernel
theorem dX6_twice_15 : decode cX6_twice 15 = .ok (.aload_n 0, 1) := by decide +kernel
theorem dX6_twice_16 : decode cX6_twice 16 = .ok (.getfield 12, 3) := by decide +kernel
theorem dX6_twice_19 : decode cX6_twice 19 = .ok (.iload_n 3, 1) := by decide +kernel
theorem dX6_twice_20 : decode cX6_twice 20 = .ok (.invokevirtual 108, 3) := by decide +kernel
theorem dX6_twice_23 : decode cX6_twice 23 = .ok (.checkcast 61, 3) := by decide +kernel
theorem dX6_twice_26 : decode cX6_twice 26 = .ok (.astore 4, 2) := by decide +kernel
theorem dX6_twice_28 : decode cX6_twice 28 = .ok (.aload_n 0, 1) := by decide +kernel
theorem dX6_twice_29 : decode cX6_twice 29 = .ok (.aload 4, 2) := by decide +kernel
theorem dX6_twice_31 : decode cX6_twice 31 = .ok (.invokevirtual 112, 3) := by decide +kernel
theorem dX6_twice_34 : decode cX6_twice 34 = .ok (.aload 4, 2) := by decide +kernel
theorem dX6_twice_36 : decode cX6_twice 36 = .ok (.if_acmp .eq 13, 3) := by decide +kernel
theorem dX6_twice_39 : decode cX6_twice 39 = .ok (.iload_n 2, 1) := by decide +kernel
theorem dX6_twice_40 : decode cX6_twice 40 = .ok (.iload_n 1, 1) := by decide +kernel
theorem dX6_twice_41 : decode cX6_twice 41 = .ok (.if_icmp .ne 5, 3) := by decide +kernel
theorem dX6_twice_44 : decode cX6_twice 44 = .ok (.iload_n 3, 1) := by decide +kernel
theorem dX6_twice_45 : decode cX6_twice 45 = .ok (.ireturn, 1) := by decide +kernel
theorem dX6_twice_46 : decode cX6_twice 46 = .ok (.iinc 2 1, 3) := by decide +kernel
theorem dX6_twice_49 : decode cX6_twice 49 = .ok (.iinc 3 1, 3) := by decide +kernel
theorem dX6_twice_52 : decode cX6_twice 52 = .ok (.goto (-48), 3) := by decide +kernel
theorem dX6_twice_55 : decode cX6_twice 55 = .ok (.iload_n 1, 1) := by decide +kernel
theorem dX6_twice_56 : decode cX6_twice 56 = .ok (.iconst (-1), 1) := by decide +kernel
theorem dX6_twice_57 : decode cX6_twice 57 = .ok (.if_icmp .eq 13, 3) := by decide +kernel
theorem dX6_twice_60 : decode cX6_twice 60 = .ok (.new 81, 3) := by decide +kernel
theorem dX6_twice_63 : decode cX6_twice 63 = .ok (.dup, 1) := by decide +kernel
theorem dX6_twice_64 : decode cX6_twice 64 = .ok (.ldc 197, 2) := by decide +kernel
theorem dX6_twice_66 : decode cX6_twice 66 = .ok (.invokespecial 85, 3) := by decide +kernel
theorem dX6_twice_69 : decode cX6_twice 69 = .ok (.athrow, 1) := by decide +kernel
theorem dX6_twice_70 : decode cX6_twice 70 = .ok (.iload_n 2, 1) := by decide +kernel
theorem dX6_twice_71 : decode cX6_twice 71 = .ok (.ireturn, 1) := by decide +kernel
theorem dX6_entryNumbered_0 : decode cX6_entryNumbered 0 = .ok (.iload_n 1, 1) := by decide +kernel
theorem dX6_entryNumbered_1 : decode cX6_entryNumbered 1 = .ok (.ifCond .lt 14, 3) := by decide +kernel
theorem dX6_entryNumbered_4 : decode cX6_entryNumbered 4 = .ok (.iload_n 1, 1) := by decide +kernel
theorem dX6_entryNumbered_5 : decode cX6_entryNumbered 5 = .ok (.aload_n 0, 1) := by decide +kernel
theorem dX6_entryNumbered_6 : decode cX6_entryNumbered 6 = .ok (.getfield 12, 3) := by decide +kernel
theorem dX6_entryNumbered_9 : decode cX6_entryNumbered 9 = .ok (.invokevirtual 50, 3) := by decide +kernel
theorem dX6_entryNumbered_12 : decode cX6_entryNumbered 12 = .ok (.if_icmp .lt 13, 3) := by decide +kernel
theorem dX6_entryNumbered_15 : decode cX6_entryNumbered 15 = .ok (.new 199, 3) := by decide +kernel
theorem dX6_entryNumbered_18 : decode cX6_entryNumbered 18 = .ok (.dup, 1) := by decide +kernel
theorem dX6_entryNumbered_19 : decode cX6_entryNumbered 19 = .ok (.ldc 201, 2) := by decide +kernel
theorem dX6_entryNumbered_21 : decode cX6_entryNumbered 21 = .ok (.invokespecial 203, 3) := by decide +kernel
theorem dX6_entryNumbered_24 : decode cX6_entryNumbered 24 = .ok (.athrow, 1) := by decide +kernel
theorem dX6_entryNumbered_25 : decode cX6_entryNumbered 25 = .ok (.aload_n 0, 1) := by decide +kernel
theorem dX6_entryNumbered_26 : decode cX6_entryNumbered 26 = .ok (.getfield 12, 3) := by decide +kernel
theorem dX6_entryNumbered_29 : decode cX6_entryNumbered 29 = .ok (.iload_n 1, 1) := by decide +kernel
theorem dX6_entryNumbered_30 : decode cX6_entryNumbered 30 = .ok (.invokevirtual 108, 3) := by decide +kernel
theorem dX6_entryNumbered_33 : decode cX6_entryNumbered 33 = .ok (.checkcast 61, 3) := by decide +kernel
theorem dX6_entryNumbered_36 : decode cX6_entryNumbered 36 = .ok (.areturn, 1) := by decide +kernel
theorem dX6_rowAt_0 : decode cX6_rowAt 0 = .ok (.iload_n 1, 1) := by decide +kernel
theorem dX6_rowAt_1 : decode cX6_rowAt 1 = .ok (.ifCond .lt 14, 3) := by decide +kernel
theorem dX6_rowAt_4 : decode cX6_rowAt 4 = .ok (.iload_n 1, 1) := by decide +kernel
end
section
theorem dX6_rowAt_5 : decode cX6_rowAt 5 = .ok (.aload_n 0, 1) := by decide +kernel
theorem dX6_rowAt_6 : decode cX6_rowAt 6 = .ok (.getfield 29, 3) := by decide +kernel
theorem dX6_rowAt_9 : decode cX6_rowAt 9 = .ok (.invokevirtual 130, 3) := by decide +kernel
theorem dX6_rowAt_12 : decode cX6_rowAt 12 = .ok (.if_icmp .lt 13, 3) := by decide +kernel
theorem dX6_rowAt_15 : decode cX6_rowAt 15 = .ok (.new 81, 3) := by decide +kernel
theorem dX6_rowAt_18 : decode cX6_rowAt 18 = .ok (.dup, 1) := by decide +kernel
theorem dX6_rowAt_19 : decode cX6_rowAt 19 = .ok (.ldc 204, 2) := by decide +kernel
theorem dX6_rowAt_21 : decode cX6_rowAt 21 = .ok (.invokespecial 85, 3) := by decide +kernel
theorem dX6_rowAt_24 : decode cX6_rowAt 24 = .ok (.athrow, 1) := by decide +kernel
theorem dX6_rowAt_25 : decode cX6_rowAt 25 = .ok (.aload_n 0, 1) := by decide +kernel
theorem dX6_rowAt_26 : decode cX6_rowAt 26 = .ok (.getfield 29, 3) := by decide +kernel
theorem dX6_rowAt_29 : decode cX6_rowAt 29 = .ok (.iload_n 1, 1) := by decide +kernel
theorem dX6_rowAt_30 : decode cX6_rowAt 30 = .ok (.invokevirtual 131, 3) := by decide +kernel
theorem dX6_rowAt_33 : decode cX6_rowAt 33 = .ok (.areturn, 1) := by decide +kernel
theorem dX6_realOne_0 : decode cX6_realOne 0 = .ok (.aload_n 1, 1) := by decide +kernel
theorem dX6_realOne_1 : decode cX6_realOne 1 = .ok (.getfield 74, 3) := by decide +kernel
theorem dX6_realOne_4 : decode cX6_realOne 4 = .ok (.invokevirtual 206, 3) := by decide +kernel
theorem dX6_realOne_7 : decode cX6_realOne 7 = .ok (.ifCond .eq 5, 3) := by decide +kernel
theorem dX6_realOne_10 : decode cX6_realOne 10 = .ok (.aload_n 1, 1) := by decide +kernel
theorem dX6_realOne_11 : decode cX6_realOne 11 = .ok (.areturn, 1) := by decide +kernel
theorem dX6_realOne_12 : decode cX6_realOne 12 = .ok (.iconst 0, 1) := by decide +kernel
theorem dX6_realOne_13 : decode cX6_realOne 13 = .ok (.istore_n 2, 1) := by decide +kernel
theorem dX6_realOne_14 : decode cX6_realOne 14 = .ok (.iload_n 2, 1) := by decide +kernel
theorem dX6_realOne_15 : decode cX6_realOne 15 = .ok (.aload_n 1, 1) := by decide +kernel
theorem dX6_realOne_16 : decode cX6_realOne 16 = .ok (.getfield 148, 3) := by decide +kernel
theorem dX6_realOne_19 : decode cX6_realOne 19 = .ok (.if_icmp .ge 56, 3) := by decide +kernel
theorem dX6_realOne_22 : decode cX6_realOne 22 = .ok (.iload_n 2, 1) := by decide +kernel
theorem dX6_realOne_23 : decode cX6_realOne 23 = .ok (.aload_n 0, 1) := by decide +kernel
theorem dX6_realOne_24 : decode cX6_realOne 24 = .ok (.getfield 12, 3) := by decide +kernel
theorem dX6_realOne_27 : decode cX6_realOne 27 = .ok (.invokevirtual 50, 3) := by decide +kernel
theorem dX6_realOne_30 : decode cX6_realOne 30 = .ok (.if_icmp .ge 45, 3) := by decide +kernel
theorem dX6_realOne_33 : decode cX6_realOne 33 = .ok (.aload_n 0, 1) := by decide +kernel
theorem dX6_realOne_34 : decode cX6_realOne 34 = .ok (.getfield 12, 3) := by decide +kernel
theorem dX6_realOne_37 : decode cX6_realOne 37 = .ok (.iload_n 2, 1) := by decide +kernel
theorem dX6_realOne_38 : decode cX6_realOne 38 = .ok (.invokevirtual 108, 3) := by decide +kernel
theorem dX6_realOne_41 : decode cX6_realOne 41 = .ok (.checkcast 61, 3) := by decide +kernel
theorem dX6_realOne_44 : decode cX6_realOne 44 = .ok (.getfield 74, 3) := by decide +kernel
theorem dX6_realOne_47 : decode cX6_realOne 47 = .ok (.aload_n 1, 1) := by decide +kernel
theorem dX6_realOne_48 : decode cX6_realOne 48 = .ok (.getfield 74, 3) := by decide +kernel
theorem dX6_realOne_51 : decode cX6_realOne 51 = .ok (.invokevirtual 210, 3) := by decide +kernel
theorem dX6_realOne_54 : decode cX6_realOne 54 = .ok (.ifCond .eq 15, 3) := by decide +kernel
theorem dX6_realOne_57 : decode cX6_realOne 57 = .ok (.aload_n 0, 1) := by decide +kernel
theorem dX6_realOne_58 : decode cX6_realOne 58 = .ok (.getfield 12, 3) := by decide +kernel
theorem dX6_realOne_61 : decode cX6_realOne 61 = .ok (.iload_n 2, 1) := by decide +kernel
theorem dX6_realOne_62 : decode cX6_realOne 62 = .ok (.invokevirtual 108, 3) := by decide +kernel
theorem dX6_realOne_65 : decode cX6_realOne 65 = .ok (.checkcast 61, 3) := by decide +kernel
theorem dX6_realOne_68 : decode cX6_realOne 68 = .ok (.areturn, 1) := by decide +kernel
theorem dX6_realOne_69 : decode cX6_realOne 69 = .ok (.iinc 2 1, 3) := by decide +kernel
theorem dX6_realOne_72 : decode cX6_realOne 72 = .ok (.goto (-58), 3) := by decide +kernel
theorem dX6_realOne_75 : decode cX6_realOne 75 = .ok (.aload_n 1, 1) := by decide +kernel
theorem dX6_realOne_76 : decode cX6_realOne 76 = .ok (.areturn, 1) := by decide +kernel
theorem dX6_printHead_0 : decode cX6_printHead 0 = .ok (.aload_n 0, 1) := by decide +kernel
theorem dX6_printHead_1 : decode cX6_printHead 1 = .ok (.getfield 29, 3) := by decide +kernel
theorem dX6_printHead_4 : decode cX6_printHead 4 = .ok (.getfield 214, 3) := by decide +kernel
theorem dX6_printHead_7 : decode cX6_printHead 7 = .ok (.ifCond .ne 13, 3) := by decide +kernel
theorem dX6_printHead_10 : decode cX6_printHead 10 = .ok (.new 81, 3) := by decide +kernel
theorem dX6_printHead_13 : decode cX6_printHead 13 = .ok (.dup, 1) := by decide +kernel
theorem dX6_printHead_14 : decode cX6_printHead 14 = .ok (.ldc 218, 2) := by decide +kernel
theorem dX6_printHead_16 : decode cX6_printHead 16 = .ok (.invokespecial 85, 3) := by decide +kernel
theorem dX6_printHead_19 : decode cX6_printHead 19 = .ok (.athrow, 1) := by decide +kernel
theorem dX6_printHead_20 : decode cX6_printHead 20 = .ok (.aload_n 0, 1) := by decide +kernel
theorem dX6_printHead_21 : decode cX6_printHead 21 = .ok (.getfield 36, 3) := by decide +kernel
theorem dX6_printHead_24 : decode cX6_printHead 24 = .ok (.invokevirtual 164, 3) := by decide +kernel
theorem dX6_printHead_27 : decode cX6_printHead 27 = .ok (.aload_n 0, 1) := by decide +kernel
theorem dX6_printHead_28 : decode cX6_printHead 28 = .ok (.getfield 36, 3) := by decide +kernel
theorem dX6_printHead_31 : decode cX6_printHead 31 = .ok (.ldc 220, 2) := by decide +kernel
theorem dX6_printHead_33 : decode cX6_printHead 33 = .ok (.invokevirtual 222, 3) := by decide +kernel
theorem dX6_printHead_36 : decode cX6_printHead 36 = .ok (.aload_n 0, 1) := by decide +kernel
theorem dX6_printHead_37 : decode cX6_printHead 37 = .ok (.getfield 36, 3) := by decide +kernel
theorem dX6_printHead_40 : decode cX6_printHead 40 = .ok (.aload_n 0, 1) := by decide +kernel
theorem dX6_printHead_41 : decode cX6_printHead 41 = .ok (.getfield 29, 3) := by decide +kernel
theorem dX6_printHead_44 : decode cX6_printHead 44 = .ok (.invokevirtual 130, 3) := by decide +kernel
theorem dX6_printHead_47 : decode cX6_printHead 47 = .ok (.invokevirtual 225, 3) := by decide +kernel
theorem dX6_printHead_50 : decode cX6_printHead 50 = .ok (.aload_n 0, 1) := by decide +kernel
theorem dX6_printHead_51 : decode cX6_printHead 51 = .ok (.getfield 36, 3) := by decide +kernel
theorem dX6_printHead_54 : decode cX6_printHead 54 = .ok (.bipush 41, 2) := by decide +kernel
theorem dX6_printHead_56 : decode cX6_printHead 56 = .ok (.invokevirtual 228, 3) := by decide +kernel
theorem dX6_printHead_59 : decode cX6_printHead 59 = .ok (.return_, 1) := by decide +kernel
theorem dX6_signOf_0 : decode cX6_signOf 0 = .ok (.iload_n 1, 1) := by decide +kernel
theorem dX6_signOf_1 : decode cX6_signOf 1 = .ok (.ifCond .lt 11, 3) := by decide +kernel
theorem dX6_signOf_4 : decode cX6_signOf 4 = .ok (.iload_n 1, 1) := by decide +kernel
theorem dX6_signOf_5 : decode cX6_signOf 5 = .ok (.aload_n 0, 1) := by decide +kernel
theorem dX6_signOf_6 : decode cX6_signOf 6 = .ok (.invokevirtual 171, 3) := by decide +kernel
theorem dX6_signOf_9 : decode cX6_signOf 9 = .ok (.if_icmp .lt 13, 3) := by decide +kernel
theorem dX6_signOf_12 : decode cX6_signOf 12 = .ok (.new 81, 3) := by decide +kernel
theorem dX6_signOf_15 : decode cX6_signOf 15 = .ok (.dup, 1) := by decide +kernel
theorem dX6_signOf_16 : decode cX6_signOf 16 = .ok (.ldc 231, 2) := by decide +kernel
theorem dX6_signOf_18 : decode cX6_signOf 18 = .ok (.invokespecial 85, 3) := by decide +kernel
theorem dX6_signOf_21 : decode cX6_signOf 21 = .ok (.athrow, 1) := by decide +kernel
theorem dX6_signOf_22 : decode cX6_signOf 22 = .ok (.aload_n 0, 1) := by decide +kernel
theorem dX6_signOf_23 : decode cX6_signOf 23 = .ok (.iload_n 1, 1) := by decide +kernel
theorem dX6_signOf_24 : decode cX6_signOf 24 = .ok (.invokevirtual 233, 3) := by decide +kernel
theorem dX6_signOf_27 : decode cX6_signOf 27 = .ok (.ireturn, 1) := by decide +kernel
theorem dX6_addBytes_0 : decode cX6_addBytes 0 = .ok (.iconst 0, 1) := by decide +kernel
theorem dX6_addBytes_1 : decode cX6_addBytes 1 = .ok (.istore_n 3, 1) := by decide +kernel
theorem dX6_addBytes_2 : decode cX6_addBytes 2 = .ok (.iconst 0, 1) := by decide +kernel
theorem dX6_addBytes_3 : decode cX6_addBytes 3 = .ok (.istore 4, 2) := by decide +kernel
theorem dX6_addBytes_5 : decode cX6_addBytes 5 = .ok (.iload 4, 2) := by decide +kernel
theorem dX6_addBytes_7 : decode cX6_addBytes 7 = .ok (.iconst 4, 1) := by decide +kernel
theorem dX6_addBytes_8 : decode cX6_addBytes 8 = .ok (.if_icmp .ge 43, 3) := by decide +kernel
theorem dX6_addBytes_11 : decode cX6_addBytes 11 = .ok (.iload_n 1, 1) := by decide +kernel
theorem dX6_addBytes_12 : decode cX6_addBytes 12 = .ok (.iload 4, 2) := by decide +kernel
theorem dX6_addBytes_14 : decode cX6_addBytes 14 = .ok (.invokestatic 237, 3) := by decide +kernel
theorem dX6_addBytes_17 : decode cX6_addBytes 17 = .ok (.istore 5, 2) := by decide +kernel
theorem dX6_addBytes_19 : decode cX6_addBytes 19 = .ok (.iload 5, 2) := by decide +kernel
theorem dX6_addBytes_21 : decode cX6_addBytes 21 = .ok (.ifCond .eq 24, 3) := by decide +kernel
theorem dX6_addBytes_24 : decode cX6_addBytes 24 = .ok (.iload 5, 2) := by decide +kernel
theorem dX6_addBytes_26 : decode cX6_addBytes 26 = .ok (.invokestatic 241, 3) := by decide +kernel
theorem dX6_addBytes_29 : decode cX6_addBytes 29 = .ok (.ifCond .ne 13, 3) := by decide +kernel
theorem dX6_addBytes_32 : decode cX6_addBytes 32 = .ok (.new 100, 3) := by decide +kernel
theorem dX6_addBytes_35 : decode cX6_addBytes 35 = .ok (.dup, 1) := by decide +kernel
theorem dX6_addBytes_36 : decode cX6_addBytes 36 = .ok (.ldc 245, 2) := by decide +kernel
theorem dX6_addBytes_38 : decode cX6_addBytes 38 = .ok (.invokespecial 104, 3) := by decide +kernel
theorem dX6_addBytes_41 : decode cX6_addBytes 41 = .ok (.athrow, 1) := by decide +kernel
theorem dX6_addBytes_42 : decode cX6_addBytes 42 = .ok (.iinc 3 1, 3) := by decide +kernel
theorem dX6_addBytes_45 : decode cX6_addBytes 45 = .ok (.iinc 4 1, 3) := by decide +kernel
theorem dX6_addBytes_48 : decode cX6_addBytes 48 = .ok (.goto (-43), 3) := by decide +kernel
theorem dX6_addBytes_51 : decode cX6_addBytes 51 = .ok (.aload_n 0, 1) := by decide +kernel
theorem dX6_addBytes_52 : decode cX6_addBytes 52 = .ok (.invokevirtual 171, 3) := by decide +kernel
theorem dX6_addBytes_55 : decode cX6_addBytes 55 = .ok (.iload_n 3, 1) := by decide +kernel
theorem dX6_addBytes_56 : decode cX6_addBytes 56 = .ok (.iadd, 1) := by decide +kernel
theorem dX6_addBytes_57 : decode cX6_addBytes 57 = .ok (.iload_n 2, 1) := by decide +kernel
theorem dX6_addBytes_58 : decode cX6_addBytes 58 = .ok (.if_icmp .le 13, 3) := by decide +kernel
theorem dX6_addBytes_61 : decode cX6_addBytes 61 = .ok (.new 54, 3) := by decide +kernel
theorem dX6_addBytes_64 : decode cX6_addBytes 64 = .ok (.dup, 1) := by decide +kernel
theorem dX6_addBytes_65 : decode cX6_addBytes 65 = .ok (.ldc 247, 2) := by decide +kernel
theorem dX6_addBytes_67 : decode cX6_addBytes 67 = .ok (.invokespecial 58, 3) := by decide +kernel
theorem dX6_addBytes_70 : decode cX6_addBytes 70 = .ok (.athrow, 1) := by decide +kernel
theorem dX6_addBytes_71 : decode cX6_addBytes 71 = .ok (.iconst 0, 1) := by decide +kernel
theorem dX6_addBytes_72 : decode cX6_addBytes 72 = .ok (.istore 4, 2) := by decide +kernel
theorem dX6_addBytes_74 : decode cX6_addBytes 74 = .ok (.iload 4, 2) := by decide +kernel
theorem dX6_addBytes_76 : decode cX6_addBytes 76 = .ok (.iconst 4, 1) := by decide +kernel
theorem dX6_addBytes_77 : decode cX6_addBytes 77 = .ok (.if_icmp .ge 28, 3) := by decide +kernel
theorem dX6_addBytes_80 : decode cX6_addBytes 80 = .ok (.iload_n 1, 1) := by decide +kernel
theorem dX6_addBytes_81 : decode cX6_addBytes 81 = .ok (.iload 4, 2) := by decide +kernel
theorem dX6_addBytes_83 : decode cX6_addBytes 83 = .ok (.invokestatic 237, 3) := by decide +kernel
theorem dX6_addBytes_86 : decode cX6_addBytes 86 = .ok (.ifCond .eq 13, 3) := by decide +kernel
theorem dX6_addBytes_89 : decode cX6_addBytes 89 = .ok (.aload_n 0, 1) := by decide +kernel
theorem dX6_addBytes_90 : decode cX6_addBytes 90 = .ok (.iload_n 1, 1) := by decide +kernel
theorem dX6_addBytes_91 : decode cX6_addBytes 91 = .ok (.iload 4, 2) := by decide +kernel
theorem dX6_addBytes_93 : decode cX6_addBytes 93 = .ok (.invokestatic 237, 3) := by decide +kernel
theorem dX6_addBytes_96 : decode cX6_addBytes 96 = .ok (.invokevirtual 228, 3) := by decide +kernel
theorem dX6_addBytes_99 : decode cX6_addBytes 99 = .ok (.iinc 4 1, 3) := by decide +kernel
theorem dX6_addBytes_102 : decode cX6_addBytes 102 = .ok (.goto (-28), 3) := by decide +kernel
theorem dX6_addBytes_105 : decode cX6_addBytes 105 = .ok (.return_, 1) := by decide +kernel
theorem dX6_byteOf_0 : decode cX6_byteOf 0 = .ok (.iload_n 0, 1) := by decide +kernel
theorem dX6_byteOf_1 : decode cX6_byteOf 1 = .ok (.bipush 8, 2) := by decide +kernel
theorem dX6_byteOf_3 : decode cX6_byteOf 3 = .ok (.iload_n 1, 1) := by decide +kernel
theorem dX6_byteOf_4 : decode cX6_byteOf 4 = .ok (.imul, 1) := by decide +kernel
theorem dX6_byteOf_5 : decode cX6_byteOf 5 = .ok (.iushr, 1) := by decide +kernel
theorem dX6_byteOf_6 : decode cX6_byteOf 6 = .ok (.sipush 255, 3) := by decide +kernel
theorem dX6_byteOf_9 : decode cX6_byteOf 9 = .ok (.iand, 1) := by decide +kernel
theorem dX6_byteOf_10 : decode cX6_byteOf 10 = .ok (.ireturn, 1) := by decide +kernel
theorem dX6_isCharacter_0 : decode cX6_isCharacter 0 = .ok (.iload_n 0, 1) := by decide +kernel
theorem dX6_isCharacter_1 : decode cX6_isCharacter 1 = .ok (.bipush 32, 2) := by decide +kernel
theorem dX6_isCharacter_3 : decode cX6_isCharacter 3 = .ok (.if_icmp .lt 9, 3) := by decide +kernel
theorem dX6_isCharacter_6 : decode cX6_isCharacter 6 = .ok (.iload_n 0, 1) := by decide +kernel
theorem dX6_isCharacter_7 : decode cX6_isCharacter 7 = .ok (.bipush 126, 2) := by decide +kernel
theorem dX6_isCharacter_9 : decode cX6_isCharacter 9 = .ok (.if_icmp .le 31, 3) := by decide +kernel
theorem dX6_isCharacter_12 : decode cX6_isCharacter 12 = .ok (.iload_n 0, 1) := by decide +kernel
theorem dX6_isCharacter_13 : decode cX6_isCharacter 13 = .ok (.sipush 192, 3) := by decide +kernel
theorem dX6_isCharacter_16 : decode cX6_isCharacter 16 = .ok (.if_icmp .lt 28, 3) := by decide +kernel
theorem dX6_isCharacter_19 : decode cX6_isCharacter 19 = .ok (.iload_n 0, 1) := by decide +kernel
theorem dX6_isCharacter_20 : decode cX6_isCharacter 20 = .ok (.sipush 255, 3) := by decide +kernel
theorem dX6_isCharacter_23 : decode cX6_isCharacter 23 = .ok (.if_icmp .gt 21, 3) := by decide +kernel
theorem dX6_isCharacter_26 : decode cX6_isCharacter 26 = .ok (.iload_n 0, 1) := by decide +kernel
theorem dX6_isCharacter_27 : decode cX6_isCharacter 27 = .ok (.sipush 215, 3) := by decide +kernel
theorem dX6_isCharacter_30 : decode cX6_isCharacter 30 = .ok (.if_icmp .eq 14, 3) := by decide +kernel
theorem dX6_isCharacter_33 : decode cX6_isCharacter 33 = .ok (.iload_n 0, 1) := by decide +kernel
theorem dX6_isCharacter_34 : decode cX6_isCharacter 34 = .ok (.sipush 247, 3) := by decide +kernel
theorem dX6_isCharacter_37 : decode cX6_isCharacter 37 = .ok (.if_icmp .eq 7, 3) := by decide +kernel
theorem dX6_isCharacter_40 : decode cX6_isCharacter 40 = .ok (.iconst 1, 1) := by decide +kernel
theorem dX6_isCharacter_41 : decode cX6_isCharacter 41 = .ok (.goto 4, 3) := by decide +kernel
theorem dX6_isCharacter_44 : decode cX6_isCharacter 44 = .ok (.iconst 0, 1) := by decide +kernel
theorem dX6_isCharacter_45 : decode cX6_isCharacter 45 = .ok (.ireturn, 1) := by decide +kernel
theorem dX6_isSmall_0 : decode cX6_isSmall 0 = .ok (.iload_n 0, 1) := by decide +kernel
theorem dX6_isSmall_1 : decode cX6_isSmall 1 = .ok (.bipush 97, 2) := by decide +kernel
theorem dX6_isSmall_3 : decode cX6_isSmall 3 = .ok (.if_icmp .lt 9, 3) := by decide +kernel
theorem dX6_isSmall_6 : decode cX6_isSmall 6 = .ok (.iload_n 0, 1) := by decide +kernel
theorem dX6_isSmall_7 : decode cX6_isSmall 7 = .ok (.bipush 122, 2) := by decide +kernel
theorem dX6_isSmall_9 : decode cX6_isSmall 9 = .ok (.if_icmp .le 10, 3) := by decide +kernel
theorem dX6_isSmall_12 : decode cX6_isSmall 12 = .ok (.iload_n 0, 1) := by decide +kernel
theorem dX6_isSmall_13 : decode cX6_isSmall 13 = .ok (.sipush 222, 3) := by decide +kernel
theorem dX6_isSmall_16 : decode cX6_isSmall 16 = .ok (.if_icmp .le 7, 3) := by decide +kernel
theorem dX6_isSmall_19 : decode cX6_isSmall 19 = .ok (.iconst 1, 1) := by decide +kernel
theorem dX6_isSmall_20 : decode cX6_isSmall 20 = .ok (.goto 4, 3) := by decide +kernel
theorem dX6_isSmall_23 : decode cX6_isSmall 23 = .ok (.iconst 0, 1) := by decide +kernel
theorem dX6_isSmall_24 : decode cX6_isSmall 24 = .ok (.ireturn, 1) := by decide +kernel
theorem dX6_folded_0 : decode cX6_folded 0 = .ok (.iload_n 0, 1) := by decide +kernel
theorem dX6_folded_1 : decode cX6_folded 1 = .ok (.bipush 65, 2) := by decide +kernel
theorem dX6_folded_3 : decode cX6_folded 3 = .ok (.if_icmp .lt 17, 3) := by decide +kernel
theorem dX6_folded_6 : decode cX6_folded 6 = .ok (.iload_n 0, 1) := by decide +kernel
theorem dX6_folded_7 : decode cX6_folded 7 = .ok (.bipush 90, 2) := by decide +kernel
theorem dX6_folded_9 : decode cX6_folded 9 = .ok (.if_icmp .gt 11, 3) := by decide +kernel
theorem dX6_folded_12 : decode cX6_folded 12 = .ok (.iload_n 0, 1) := by decide +kernel
theorem dX6_folded_13 : decode cX6_folded 13 = .ok (.bipush 65, 2) := by decide +kernel
theorem dX6_folded_15 : decode cX6_folded 15 = .ok (.isub, 1) := by decide +kernel
theorem dX6_folded_16 : decode cX6_folded 16 = .ok (.bipush 97, 2) := by decide +kernel
theorem dX6_folded_18 : decode cX6_folded 18 = .ok (.iadd, 1) := by decide +kernel
theorem dX6_folded_19 : decode cX6_folded 19 = .ok (.ireturn, 1) := by decide +kernel
theorem dX6_folded_20 : decode cX6_folded 20 = .ok (.iload_n 0, 1) := by decide +kernel
theorem dX6_folded_21 : decode cX6_folded 21 = .ok (.sipush 192, 3) := by decide +kernel
theorem dX6_folded_24 : decode cX6_folded 24 = .ok (.isub, 1) := by decide +kernel
theorem dX6_folded_25 : decode cX6_folded 25 = .ok (.istore_n 1, 1) := by decide +kernel
theorem dX6_folded_26 : decode cX6_folded 26 = .ok (.iload_n 1, 1) := by decide +kernel
theorem dX6_folded_27 : decode cX6_folded 27 = .ok (.ifCond .lt 21, 3) := by decide +kernel
theorem dX6_folded_30 : decode cX6_folded 30 = .ok (.iload_n 1, 1) := by decide +kernel
theorem dX6_folded_31 : decode cX6_folded 31 = .ok (.ldc 249, 2) := by decide +kernel
theorem dX6_folded_33 : decode cX6_folded 33 = .ok (.invokevirtual 251, 3) := by decide +kernel
theorem dX6_folded_36 : decode cX6_folded 36 = .ok (.if_icmp .ge 12, 3) := by decide +kernel
theorem dX6_folded_39 : decode cX6_folded 39 = .ok (.ldc 249, 2) := by decide +kernel
theorem dX6_folded_41 : decode cX6_folded 41 = .ok (.iload_n 1, 1) := by decide +kernel
theorem dX6_folded_42 : decode cX6_folded 42 = .ok (.invokevirtual 256, 3) := by decide +kernel
theorem dX6_folded_45 : decode cX6_folded 45 = .ok (.goto 4, 3) := by decide +kernel
theorem dX6_folded_48 : decode cX6_folded 48 = .ok (.iload_n 0, 1) := by decide +kernel
theorem dX6_folded_49 : decode cX6_folded 49 = .ok (.ireturn, 1) := by decide +kernel
theorem dX7_init_0 : decode cX7_init 0 = .ok (.aload_n 0, 1) := by decide +kernel
theorem dX7_init_1 : decode cX7_init 1 = .ok (.invokespecial 1, 3) := by decide +kernel
theorem dX7_init_4 : decode cX7_init 4 = .ok (.aload_n 0, 1) := by decide +kernel
theorem dX7_init_5 : decode cX7_init 5 = .ok (.bipush 24, 2) := by decide +kernel
theorem dX7_init_7 : decode cX7_init 7 = .ok (.newarray .int, 2) := by decide +kernel
theorem dX7_init_9 : decode cX7_init 9 = .ok (.putfield 7, 3) := by decide +kernel
theorem dX7_init_12 : decode cX7_init 12 = .ok (.aload_n 0, 1) := by decide +kernel
theorem dX7_init_13 : decode cX7_init 13 = .ok (.bipush 24, 2) := by decide +kernel
theorem dX7_init_15 : decode cX7_init 15 = .ok (.newarray .int, 2) := by decide +kernel
theorem dX7_init_17 : decode cX7_init 17 = .ok (.putfield 13, 3) := by decide +kernel
theorem dX7_init_20 : decode cX7_init 20 = .ok (.aload_n 0, 1) := by decide +kernel
theorem dX7_init_21 : decode cX7_init 21 = .ok (.sipush 384, 3) := by decide +kernel
theorem dX7_init_24 : decode cX7_init 24 = .ok (.newarray .int, 2) := by decide +kernel
theorem dX7_init_26 : decode cX7_init 26 = .ok (.putfield 16, 3) := by decide +kernel
theorem dX7_init_29 : decode cX7_init 29 = .ok (.aload_n 0, 1) := by decide +kernel
theorem dX7_init_30 : decode cX7_init 30 = .ok (.sipush 192, 3) := by decide +kernel
theorem dX7_init_33 : decode cX7_init 33 = .ok (.newarray .int, 2) := by decide +kernel
theorem dX7_init_35 : decode cX7_init 35 = .ok (.putfield 19, 3) := by decide +kernel
theorem dX7_init_38 : decode cX7_init 38 = .ok (.aload_n 0, 1) := by decide +kernel
theorem dX7_init_39 : decode cX7_init 39 = .ok (.sipush 15360, 3) := by decide +kernel
theorem dX7_init_42 : decode cX7_init 42 = .ok (.newarray .int, 2) := by decide +kernel
theorem dX7_init_44 : decode cX7_init 44 = .ok (.putfield 22, 3) := by decide +kernel
theorem dX7_init_47 : decode cX7_init 47 = .ok (.aload_n 0, 1) := by decide +kernel
theorem dX7_init_48 : decode cX7_init 48 = .ok (.bipush 24, 2) := by decide +kernel
theorem dX7_init_50 : decode cX7_init 50 = .ok (.newarray .int, 2) := by decide +kernel
theorem dX7_init_52 : decode cX7_init 52 = .ok (.putfield 25, 3) := by decide +kernel
theorem dX7_init_55 : decode cX7_init 55 = .ok (.aload_n 0, 1) := by decide +kernel
theorem dX7_init_56 : decode cX7_init 56 = .ok (.bipush 24, 2) := by decide +kernel
theorem dX7_init_58 : decode cX7_init 58 = .ok (.newarray .int, 2) := by decide +kernel
theorem dX7_init_60 : decode cX7_init 60 = .ok (.putfield 28, 3) := by decide +kernel
theorem dX7_init_63 : decode cX7_init 63 = .ok (.aload_n 0, 1) := by decide +kernel
theorem dX7_init_64 : decode cX7_init 64 = .ok (.sipush 160, 3) := by decide +kernel
theorem dX7_init_67 : decode cX7_init 67 = .ok (.newarray .int, 2) := by decide +kernel
theorem dX7_init_69 : decode cX7_init 69 = .ok (.putfield 31, 3) := by decide +kernel
theorem dX7_init_72 : decode cX7_init 72 = .ok (.aload_n 0, 1) := by decide +kernel
theorem dX7_init_73 : decode cX7_init 73 = .ok (.iconst 2, 1) := by decide +kernel
theorem dX7_init_74 : decode cX7_init 74 = .ok (.newarray .int, 2) := by decide +kernel
theorem dX7_init_76 : decode cX7_init 76 = .ok (.putfield 34, 3) := by decide +kernel
theorem dX7_init_79 : decode cX7_init 79 = .ok (.aload_n 0, 1) := by decide +kernel
theorem dX7_init_80 : decode cX7_init 80 = .ok (.sipush 128, 3) := by decide +kernel
theorem dX7_init_83 : decode cX7_init 83 = .ok (.newarray .int, 2) := by decide +kernel
theorem dX7_init_85 : decode cX7_init 85 = .ok (.putfield 37, 3) := by decide +kernel
theorem dX7_init_88 : decode cX7_init 88 = .ok (.aload_n 0, 1) := by decide +kernel
theorem dX7_init_89 : decode cX7_init 89 = .ok (.sipush 128, 3) := by decide +kernel
theorem dX7_init_92 : decode cX7_init 92 = .ok (.newarray .int, 2) := by decide +kernel
theorem dX7_init_94 : decode cX7_init 94 = .ok (.putfield 40, 3) := by decide +kernel
theorem dX7_init_97 : decode cX7_init 97 = .ok (.aload_n 0, 1) := by decide +kernel
theorem dX7_init_98 : decode cX7_init 98 = .ok (.sipush 128, 3) := by decide +kernel
theorem dX7_init_101 : decode cX7_init 101 = .ok (.newarray .int, 2) := by decide +kernel
theorem dX7_init_103 : decode cX7_init 103 = .ok (.putfield 43, 3) := by decide +kernel
theorem dX7_init_106 : decode cX7_init 106 = .ok (.aload_n 0, 1) := by decide +kernel
theorem dX7_init_107 : decode cX7_init 107 = .ok (.sipush 128, 3) := by decide +kernel
theorem dX7_init_110 : decode cX7_init 110 = .ok (.newarray .int, 2) := by decide +kernel
theorem dX7_init_112 : decode cX7_init 112 = .ok (.putfield 46, 3) := by decide +kernel
theorem dX7_init_115 : decode cX7_init 115 = .ok (.aload_n 0, 1) := by decide +kernel
theorem dX7_init_116 : decode cX7_init 116 = .ok (.iconst 2, 1) := by decide +kernel
theorem dX7_init_117 : decode cX7_init 117 = .ok (.newarray .int, 2) := by decide +kernel
theorem dX7_init_119 : decode cX7_init 119 = .ok (.putfield 49, 3) := by decide +kernel
theorem dX7_init_122 : decode cX7_init 122 = .ok (.aload_n 0, 1) := by decide +kernel
theorem dX7_init_123 : decode cX7_init 123 = .ok (.sipush 1000, 3) := by decide +kernel
theorem dX7_init_126 : decode cX7_init 126 = .ok (.newarray .int, 2) := by decide +kernel
theorem dX7_init_128 : decode cX7_init 128 = .ok (.putfield 52, 3) := by decide +kernel
theorem dX7_init_131 : decode cX7_init 131 = .ok (.aload_n 0, 1) := by decide +kernel
theorem dX7_init_132 : decode cX7_init 132 = .ok (.sipush 1000, 3) := by decide +kernel
theorem dX7_init_135 : decode cX7_init 135 = .ok (.newarray .int, 2) := by decide +kernel
theorem dX7_init_137 : decode cX7_init 137 = .ok (.putfield 55, 3) := by decide +kernel
theorem dX7_init_140 : decode cX7_init 140 = .ok (.aload_n 0, 1) := by decide +kernel
theorem dX7_init_141 : decode cX7_init 141 = .ok (.bipush 24, 2) := by decide +kernel
theorem dX7_init_143 : decode cX7_init 143 = .ok (.newarray .int, 2) := by decide +kernel
theorem dX7_init_145 : decode cX7_init 145 = .ok (.putfield 58, 3) := by decide +kernel
theorem dX7_init_148 : decode cX7_init 148 = .ok (.aload_n 0, 1) := by decide +kernel
theorem dX7_init_149 : decode cX7_init 149 = .ok (.bipush 24, 2) := by decide +kernel
theorem dX7_init_151 : decode cX7_init 151 = .ok (.newarray .int, 2) := by decide +kernel
theorem dX7_init_153 : decode cX7_init 153 = .ok (.putfield 61, 3) := by decide +kernel
theorem dX7_init_156 : decode cX7_init 156 = .ok (.aload_n 0, 1) := by decide +kernel
theorem dX7_init_157 : decode cX7_init 157 = .ok (.bipush 24, 2) := by decide +kernel
theorem dX7_init_159 : decode cX7_init 159 = .ok (.newarray .int, 2) := by decide +kernel
theorem dX7_init_161 : decode cX7_init 161 = .ok (.putfield 64, 3) := by decide +kernel
theorem dX7_init_164 : decode cX7_init 164 = .ok (.aload_n 0, 1) := by decide +kernel
theorem dX7_init_165 : decode cX7_init 165 = .ok (.sipush 9600, 3) := by decide +kernel
theorem dX7_init_168 : decode cX7_init 168 = .ok (.newarray .int, 2) := by decide +kernel
theorem dX7_init_170 : decode cX7_init 170 = .ok (.putfield 67, 3) := by decide +kernel
theorem dX7_init_173 : decode cX7_init 173 = .ok (.aload_n 0, 1) := by decide +kernel
theorem dX7_init_174 : decode cX7_init 174 = .ok (.bipush 24, 2) := by decide +kernel
theorem dX7_init_176 : decode cX7_init 176 = .ok (.newarray .int, 2) := by decide +kernel
theorem dX7_init_178 : decode cX7_init 178 = .ok (.putfield 70, 3) := by decide +kernel
theorem dX7_init_181 : decode cX7_init 181 = .ok (.aload_n 0, 1) := by decide +kernel
theorem dX7_init_182 : decode cX7_init 182 = .ok (.sipush 24000, 3) := by decide +kernel
theorem dX7_init_185 : decode cX7_init 185 = .ok (.newarray .int, 2) := by decide +kernel
theorem dX7_init_187 : decode cX7_init 187 = .ok (.putfield 73, 3) := by decide +kernel
theorem dX7_init_190 : decode cX7_init 190 = .ok (.aload_n 0, 1) := by decide +kernel
theorem dX7_init_191 : decode cX7_init 191 = .ok (.bipush 96, 2) := by decide +kernel
theorem dX7_init_193 : decode cX7_init 193 = .ok (.newarray .int, 2) := by decide +kernel
theorem dX7_init_195 : decode cX7_init 195 = .ok (.putfield 76, 3) := by decide +kernel
theorem dX7_init_198 : decode cX7_init 198 = .ok (.aload_n 0, 1) := by decide +kernel
theorem dX7_init_199 : decode cX7_init 199 = .ok (.bipush 96, 2) := by decide +kernel
theorem dX7_init_201 : decode cX7_init 201 = .ok (.newarray .int, 2) := by decide +kernel
theorem dX7_init_203 : decode cX7_init 203 = .ok (.putfield 79, 3) := by decide +kernel
theorem dX7_init_206 : decode cX7_init 206 = .ok (.aload_n 0, 1) := by decide +kernel
theorem dX7_init_207 : decode cX7_init 207 = .ok (.sipush 1000, 3) := by decide +kernel
theorem dX7_init_210 : decode cX7_init 210 = .ok (.newarray .int, 2) := by decide +kernel
theorem dX7_init_212 : decode cX7_init 212 = .ok (.putfield 82, 3) := by decide +kernel
theorem dX7_init_215 : decode cX7_init 215 = .ok (.return_, 1) := by decide +kernel
theorem dX7_thrown_0 : decode cX7_thrown 0 = .ok (.aload_n 0, 1) := by decide +kernel
theorem dX7_thrown_1 : decode cX7_thrown 1 = .ok (.getfield 85, 3) := by decide +kernel
theorem dX7_thrown_4 : decode cX7_thrown 4 = .ok (.ireturn, 1) := by decide +kernel
theorem dX7_isEntry_0 : decode cX7_isEntry 0 = .ok (.iload_n 1, 1) := by decide +kernel
theorem dX7_isEntry_1 : decode cX7_isEntry 1 = .ok (.ifCond .lt 15, 3) := by decide +kernel
theorem dX7_isEntry_4 : decode cX7_isEntry 4 = .ok (.iload_n 1, 1) := by decide +kernel
theorem dX7_isEntry_5 : decode cX7_isEntry 5 = .ok (.aload_n 0, 1) := by decide +kernel
theorem dX7_isEntry_6 : decode cX7_isEntry 6 = .ok (.getfield 89, 3) := by decide +kernel
theorem dX7_isEntry_9 : decode cX7_isEntry 9 = .ok (.if_icmp .ge 7, 3) := by decide +kernel
theorem dX7_isEntry_12 : decode cX7_isEntry 12 = .ok (.iconst 1, 1) := by decide +kernel
theorem dX7_isEntry_13 : decode cX7_isEntry 13 = .ok (.goto 4, 3) := by decide +kernel
theorem dX7_isEntry_16 : decode cX7_isEntry 16 = .ok (.iconst 0, 1) := by decide +kernel
theorem dX7_isEntry_17 : decode cX7_isEntry 17 = .ok (.ireturn, 1) := by decide +kernel
theorem dX7_entry_0 : decode cX7_entry 0 = .ok (.aload_n 0, 1) := by decide +kernel
theorem dX7_entry_1 : decode cX7_entry 1 = .ok (.aload_n 0, 1) := by decide +kernel
theorem dX7_entry_2 : decode cX7_entry 2 = .ok (.getfield 89, 3) := by decide +kernel
theorem dX7_entry_5 : decode cX7_entry 5 = .ok (.bipush 24, 2) := by decide +kernel
theorem dX7_entry_7 : decode cX7_entry 7 = .ok (.if_icmp .ne 7, 3) := by decide +kernel
theorem dX7_entry_10 : decode cX7_entry 10 = .ok (.iconst 1, 1) := by decide +kernel
theorem dX7_entry_11 : decode cX7_entry 11 = .ok (.goto 4, 3) := by decide +kernel
theorem dX7_entry_14 : decode cX7_entry 14 = .ok (.iconst 0, 1) := by decide +kernel
theorem dX7_entry_15 : decode cX7_entry 15 = .ok (.putfield 85, 3) := by decide +kernel
theorem dX7_entry_18 : decode cX7_entry 18 = .ok (.aload_n 0, 1) := by decide +kernel
theorem dX7_entry_19 : decode cX7_entry 19 = .ok (.getfield 85, 3) := by decide +kernel
theorem dX7_entry_22 : decode cX7_entry 22 = .ok (.ifCond .le 5, 3) := by decide +kernel
theorem dX7_entry_25 : decode cX7_entry 25 = .ok (.iconst 0, 1) := by decide +kernel
theorem dX7_entry_26 : decode cX7_entry 26 = .ok (.ireturn, 1) := by decide +kernel
theorem dX7_entry_27 : decode cX7_entry 27 = .ok (.aload_n 0, 1) := by decide +kernel
theorem dX7_entry_28 : decode cX7_entry 28 = .ok (.getfield 7, 3) := by decide +kernel
theorem dX7_entry_31 : decode cX7_entry 31 = .ok (.aload_n 0, 1) := by decide +kernel
theorem dX7_entry_32 : decode cX7_entry 32 = .ok (.getfield 89, 3) := by decide +kernel
theorem dX7_entry_35 : decode cX7_entry 35 = .ok (.iload_n 1, 1) := by decide +kernel
theorem dX7_entry_36 : decode cX7_entry 36 = .ok (.ifCond .lt 8, 3) := by decide +kernel
theorem dX7_entry_39 : decode cX7_entry 39 = .ok (.iload_n 1, 1) := by decide +kernel
theorem dX7_entry_40 : decode cX7_entry 40 = .ok (.iconst 3, 1) := by decide +kernel
theorem dX7_entry_41 : decode cX7_entry 41 = .ok (.if_icmp .le 7, 3) := by decide +kernel
theorem dX7_entry_44 : decode cX7_entry 44 = .ok (.iconst 4, 1) := by decide +kernel
theorem dX7_entry_45 : decode cX7_entry 45 = .ok (.goto 4, 3) := by decide +kernel
theorem dX7_entry_48 : decode cX7_entry 48 = .ok (.iload_n 1, 1) := by decide +kernel
theorem dX7_entry_49 : decode cX7_entry 49 = .ok (.iastore, 1) := by decide +kernel
theorem dX7_entry_50 : decode cX7_entry 50 = .ok (.aload_n 0, 1) := by decide +kernel
theorem dX7_entry_51 : decode cX7_entry 51 = .ok (.getfield 25, 3) := by decide +kernel
theorem dX7_entry_54 : decode cX7_entry 54 = .ok (.aload_n 0, 1) := by decide +kernel
theorem dX7_entry_55 : decode cX7_entry 55 = .ok (.getfield 89, 3) := by decide +kernel
theorem dX7_entry_58 : decode cX7_entry 58 = .ok (.iconst (-1), 1) := by decide +kernel
theorem dX7_entry_59 : decode cX7_entry 59 = .ok (.iastore, 1) := by decide +kernel
theorem dX7_entry_60 : decode cX7_entry 60 = .ok (.aload_n 0, 1) := by decide +kernel
theorem dX7_entry_61 : decode cX7_entry 61 = .ok (.dup, 1) := by decide +kernel
theorem dX7_entry_62 : decode cX7_entry 62 = .ok (.getfield 89, 3) := by decide +kernel
theorem dX7_entry_65 : decode cX7_entry 65 = .ok (.iconst 1, 1) := by decide +kernel
theorem dX7_entry_66 : decode cX7_entry 66 = .ok (.iadd, 1) := by decide +kernel
theorem dX7_entry_67 : decode cX7_entry 67 = .ok (.putfield 89, 3) := by decide +kernel
theorem dX7_entry_70 : decode cX7_entry 70 = .ok (.aload_n 0, 1) := by decide +kernel
theorem dX7_entry_71 : decode cX7_entry 71 = .ok (.getfield 89, 3) := by decide +kernel
theorem dX7_entry_74 : decode cX7_entry 74 = .ok (.iconst 1, 1) := by decide +kernel
theorem dX7_entry_75 : decode cX7_entry 75 = .ok (.isub, 1) := by decide +kernel
theorem dX7_entry_76 : decode cX7_entry 76 = .ok (.ireturn, 1) := by decide +kernel
theorem dX7_isCharacter_0 : decode cX7_isCharacter 0 = .ok (.iload_n 0, 1) := by decide +kernel
theorem dX7_isCharacter_1 : decode cX7_isCharacter 1 = .ok (.bipush 32, 2) := by decide +kernel
theorem dX7_isCharacter_3 : decode cX7_isCharacter 3 = .ok (.if_icmp .lt 9, 3) := by decide +kernel
theorem dX7_isCharacter_6 : decode cX7_isCharacter 6 = .ok (.iload_n 0, 1) := by decide +kernel
theorem dX7_isCharacter_7 : decode cX7_isCharacter 7 = .ok (.bipush 126, 2) := by decide +kernel
theorem dX7_isCharacter_9 : decode cX7_isCharacter 9 = .ok (.if_icmp .le 24, 3) := by decide +kernel
theorem dX7_isCharacter_12 : decode cX7_isCharacter 12 = .ok (.iload_n 0, 1) := by decide +kernel
theorem dX7_isCharacter_13 : decode cX7_isCharacter 13 = .ok (.sipush 192, 3) := by decide +kernel
theorem dX7_isCharacter_16 : decode cX7_isCharacter 16 = .ok (.if_icmp .lt 21, 3) := by decide +kernel
theorem dX7_isCharacter_19 : decode cX7_isCharacter 19 = .ok (.iload_n 0, 1) := by decide +kernel
theorem dX7_isCharacter_20 : decode cX7_isCharacter 20 = .ok (.sipush 215, 3) := by decide +kernel
theorem dX7_isCharacter_23 : decode cX7_isCharacter 23 = .ok (.if_icmp .eq 14, 3) := by decide +kernel
theorem dX7_isCharacter_26 : decode cX7_isCharacter 26 = .ok (.iload_n 0, 1) := by decide +kernel
theorem dX7_isCharacter_27 : decode cX7_isCharacter 27 = .ok (.sipush 247, 3) := by decide +kernel
theorem dX7_isCharacter_30 : decode cX7_isCharacter 30 = .ok (.if_icmp .eq 7, 3) := by decide +kernel
theorem dX7_isCharacter_33 : decode cX7_isCharacter 33 = .ok (.iconst 1, 1) := by decide +kernel
theorem dX7_isCharacter_34 : decode cX7_isCharacter 34 = .ok (.goto 4, 3) := by decide +kernel
theorem dX7_isCharacter_37 : decode cX7_isCharacter 37 = .ok (.iconst 0, 1) := by decide +kernel
theorem dX7_isCharacter_38 : decode cX7_isCharacter 38 = .ok (.ireturn, 1) := by decide +kernel
theorem dX7_countOf_0 : decode cX7_countOf 0 = .ok (.iconst 0, 1) := by decide +kernel
theorem dX7_countOf_1 : decode cX7_countOf 1 = .ok (.istore_n 1, 1) := by decide +kernel
theorem dX7_countOf_2 : decode cX7_countOf 2 = .ok (.iconst 0, 1) := by decide +kernel
theorem dX7_countOf_3 : decode cX7_countOf 3 = .ok (.istore_n 2, 1) := by decide +kernel
theorem dX7_countOf_4 : decode cX7_countOf 4 = .ok (.iload_n 2, 1) := by decide +kernel
theorem dX7_countOf_5 : decode cX7_countOf 5 = .ok (.iconst 4, 1) := by decide +kernel
theorem dX7_countOf_6 : decode cX7_countOf 6 = .ok (.if_icmp .ge 44, 3) := by decide +kernel
theorem dX7_countOf_9 : decode cX7_countOf 9 = .ok (.iload_n 1, 1) := by decide +kernel
theorem dX7_countOf_10 : decode cX7_countOf 10 = .ok (.iconst (-1), 1) := by decide +kernel
theorem dX7_countOf_11 : decode cX7_countOf 11 = .ok (.if_icmp .eq 39, 3) := by decide +kernel
theorem dX7_countOf_14 : decode cX7_countOf 14 = .ok (.iload_n 0, 1) := by decide +kernel
theorem dX7_countOf_15 : decode cX7_countOf 15 = .ok (.bipush 8, 2) := by decide +kernel
theorem dX7_countOf_17 : decode cX7_countOf 17 = .ok (.iload_n 2, 1) := by decide +kernel
theorem dX7_countOf_18 : decode cX7_countOf 18 = .ok (.imul, 1) := by decide +kernel
theorem dX7_countOf_19 : decode cX7_countOf 19 = .ok (.ishr, 1) := by decide +kernel
theorem dX7_countOf_20 : decode cX7_countOf 20 = .ok (.sipush 255, 3) := by decide +kernel
theorem dX7_countOf_23 : decode cX7_countOf 23 = .ok (.iand, 1) := by decide +kernel
theorem dX7_countOf_24 : decode cX7_countOf 24 = .ok (.istore_n 3, 1) := by decide +kernel
theorem dX7_countOf_25 : decode cX7_countOf 25 = .ok (.iload_n 3, 1) := by decide +kernel
theorem dX7_countOf_26 : decode cX7_countOf 26 = .ok (.ifCond .eq 18, 3) := by decide +kernel
theorem dX7_countOf_29 : decode cX7_countOf 29 = .ok (.iload_n 3, 1) := by decide +kernel
theorem dX7_countOf_30 : decode cX7_countOf 30 = .ok (.invokestatic 92, 3) := by decide +kernel
theorem dX7_countOf_33 : decode cX7_countOf 33 = .ok (.ifCond .eq 9, 3) := by decide +kernel
theorem dX7_countOf_36 : decode cX7_countOf 36 = .ok (.iload_n 1, 1) := by decide +kernel
theorem dX7_countOf_37 : decode cX7_countOf 37 = .ok (.iconst 1, 1) := by decide +kernel
theorem dX7_countOf_38 : decode cX7_countOf 38 = .ok (.iadd, 1) := by decide +kernel
theorem dX7_countOf_39 : decode cX7_countOf 39 = .ok (.goto 4, 3) := by decide +kernel
theorem dX7_countOf_42 : decode cX7_countOf 42 = .ok (.iconst (-1), 1) := by decide +kernel
theorem dX7_countOf_43 : decode cX7_countOf 43 = .ok (.istore_n 1, 1) := by decide +kernel
theorem dX7_countOf_44 : decode cX7_countOf 44 = .ok (.iinc 2 1, 3) := by decide +kernel
theorem dX7_countOf_47 : decode cX7_countOf 47 = .ok (.goto (-43), 3) := by decide +kernel
theorem dX7_countOf_50 : decode cX7_countOf 50 = .ok (.iload_n 1, 1) := by decide +kernel
theorem dX7_countOf_51 : decode cX7_countOf 51 = .ok (.ireturn, 1) := by decide +kernel
theorem dX7_addTo_0 : decode cX7_addTo 0 = .ok (.iconst 0, 1) := by decide +kernel
theorem dX7_addTo_1 : decode cX7_addTo 1 = .ok (.istore_n 3, 1) := by decide +kernel
theorem dX7_addTo_2 : decode cX7_addTo 2 = .ok (.iconst 0, 1) := by decide +kernel
theorem dX7_addTo_3 : decode cX7_addTo 3 = .ok (.istore 4, 2) := by decide +kernel
theorem dX7_addTo_5 : decode cX7_addTo 5 = .ok (.iload 4, 2) := by decide +kernel
theorem dX7_addTo_7 : decode cX7_addTo 7 = .ok (.iconst 4, 1) := by decide +kernel
theorem dX7_addTo_8 : decode cX7_addTo 8 = .ok (.if_icmp .ge 37, 3) := by decide +kernel
theorem dX7_addTo_11 : decode cX7_addTo 11 = .ok (.iload_n 2, 1) := by decide +kernel
theorem dX7_addTo_12 : decode cX7_addTo 12 = .ok (.bipush 8, 2) := by decide +kernel
theorem dX7_addTo_14 : decode cX7_addTo 14 = .ok (.iload 4, 2) := by decide +kernel
theorem dX7_addTo_16 : decode cX7_addTo 16 = .ok (.imul, 1) := by decide +kernel
theorem dX7_addTo_17 : decode cX7_addTo 17 = .ok (.ishr, 1) := by decide +kernel
theorem dX7_addTo_18 : decode cX7_addTo 18 = .ok (.sipush 255, 3) := by decide +kernel
theorem dX7_addTo_21 : decode cX7_addTo 21 = .ok (.iand, 1) := by decide +kernel
theorem dX7_addTo_22 : decode cX7_addTo 22 = .ok (.istore 5, 2) := by decide +kernel
theorem dX7_addTo_24 : decode cX7_addTo 24 = .ok (.iload 5, 2) := by decide +kernel
theorem dX7_addTo_26 : decode cX7_addTo 26 = .ok (.ifCond .eq 13, 3) := by decide +kernel
theorem dX7_addTo_29 : decode cX7_addTo 29 = .ok (.aload_n 0, 1) := by decide +kernel
theorem dX7_addTo_30 : decode cX7_addTo 30 = .ok (.iload_n 1, 1) := by decide +kernel
theorem dX7_addTo_31 : decode cX7_addTo 31 = .ok (.iload_n 3, 1) := by decide +kernel
theorem dX7_addTo_32 : decode cX7_addTo 32 = .ok (.iadd, 1) := by decide +kernel
theorem dX7_addTo_33 : decode cX7_addTo 33 = .ok (.iload 5, 2) := by decide +kernel
theorem dX7_addTo_35 : decode cX7_addTo 35 = .ok (.iastore, 1) := by decide +kernel
theorem dX7_addTo_36 : decode cX7_addTo 36 = .ok (.iinc 3 1, 3) := by decide +kernel
theorem dX7_addTo_39 : decode cX7_addTo 39 = .ok (.iinc 4 1, 3) := by decide +kernel
theorem dX7_addTo_42 : decode cX7_addTo 42 = .ok (.goto (-37), 3) := by decide +kernel
theorem dX7_addTo_45 : decode cX7_addTo 45 = .ok (.return_, 1) := by decide +kernel
theorem dX7_key_0 : decode cX7_key 0 = .ok (.iload_n 2, 1) := by decide +kernel
theorem dX7_key_1 : decode cX7_key 1 = .ok (.invokestatic 96, 3) := by decide +kernel
theorem dX7_key_4 : decode cX7_key 4 = .ok (.istore_n 3, 1) := by decide +kernel
theorem dX7_key_5 : decode cX7_key 5 = .ok (.aload_n 0, 1) := by decide +kernel
theorem dX7_key_6 : decode cX7_key 6 = .ok (.aload_n 0, 1) := by decide +kernel
theorem dX7_key_7 : decode cX7_key 7 = .ok (.iload_n 1, 1) := by decide +kernel
theorem dX7_key_8 : decode cX7_key 8 = .ok (.invokevirtual 100, 3) := by decide +kernel
theorem dX7_key_11 : decode cX7_key 11 = .ok (.ifCond .ne 7, 3) := by decide +kernel
theorem dX7_key_14 : decode cX7_key 14 = .ok (.iconst 1, 1) := by decide +kernel
theorem dX7_key_15 : decode cX7_key 15 = .ok (.goto 30, 3) := by decide +kernel
theorem dX7_key_18 : decode cX7_key 18 = .ok (.iload_n 3, 1) := by decide +kernel
theorem dX7_key_19 : decode cX7_key 19 = .ok (.iconst (-1), 1) := by decide +kernel
theorem dX7_key_20 : decode cX7_key 20 = .ok (.if_icmp .ne 7, 3) := by decide +kernel
theorem dX7_key_23 : decode cX7_key 23 = .ok (.iconst 2, 1) := by decide +kernel
theorem dX7_key_24 : decode cX7_key 24 = .ok (.goto 21, 3) := by decide +kernel
theorem dX7_key_27 : decode cX7_key 27 = .ok (.aload_n 0, 1) := by decide +kernel
theorem dX7_key_28 : decode cX7_key 28 = .ok (.getfield 13, 3) := by decide +kernel
theorem dX7_key_31 : decode cX7_key 31 = .ok (.iload_n 1, 1) := by decide +kernel
theorem dX7_key_32 : decode cX7_key 32 = .ok (.iaload, 1) := by decide +kernel
theorem dX7_key_33 : decode cX7_key 33 = .ok (.iload_n 3, 1) := by decide +kernel
theorem dX7_key_34 : decode cX7_key 34 = .ok (.iadd, 1) := by decide +kernel
theorem dX7_key_35 : decode cX7_key 35 = .ok (.bipush 16, 2) := by decide +kernel
theorem dX7_key_37 : decode cX7_key 37 = .ok (.if_icmp .le 7, 3) := by decide +kernel
theorem dX7_key_40 : decode cX7_key 40 = .ok (.iconst 3, 1) := by decide +kernel
theorem dX7_key_41 : decode cX7_key 41 = .ok (.goto 4, 3) := by decide +kernel
theorem dX7_key_44 : decode cX7_key 44 = .ok (.iconst 0, 1) := by decide +kernel
theorem dX7_key_45 : decode cX7_key 45 = .ok (.putfield 85, 3) := by decide +kernel
theorem dX7_key_48 : decode cX7_key 48 = .ok (.aload_n 0, 1) := by decide +kernel
theorem dX7_key_49 : decode cX7_key 49 = .ok (.getfield 85, 3) := by decide +kernel
theorem dX7_key_52 : decode cX7_key 52 = .ok (.ifCond .ne 36, 3) := by decide +kernel
theorem dX7_key_55 : decode cX7_key 55 = .ok (.aload_n 0, 1) := by decide +kernel
theorem dX7_key_56 : decode cX7_key 56 = .ok (.getfield 16, 3) := by decide +kernel
theorem dX7_key_59 : decode cX7_key 59 = .ok (.bipush 16, 2) := by decide +kernel
theorem dX7_key_61 : decode cX7_key 61 = .ok (.iload_n 1, 1) := by decide +kernel
theorem dX7_key_62 : decode cX7_key 62 = .ok (.imul, 1) := by decide +kernel
theorem dX7_key_63 : decode cX7_key 63 = .ok (.aload_n 0, 1) := by decide +kernel
theorem dX7_key_64 : decode cX7_key 64 = .ok (.getfield 13, 3) := by decide +kernel
theorem dX7_key_67 : decode cX7_key 67 = .ok (.iload_n 1, 1) := by decide +kernel
theorem dX7_key_68 : decode cX7_key 68 = .ok (.iaload, 1) := by decide +kernel
theorem dX7_key_69 : decode cX7_key 69 = .ok (.iadd, 1) := by decide +kernel
theorem dX7_key_70 : decode cX7_key 70 = .ok (.iload_n 2, 1) := by decide +kernel
theorem dX7_key_71 : decode cX7_key 71 = .ok (.invokestatic 103, 3) := by decide +kernel
theorem dX7_key_74 : decode cX7_key 74 = .ok (.aload_n 0, 1) := by decide +kernel
theorem dX7_key_75 : decode cX7_key 75 = .ok (.getfield 13, 3) := by decide +kernel
theorem dX7_key_78 : decode cX7_key 78 = .ok (.iload_n 1, 1) := by decide +kernel
theorem dX7_key_79 : decode cX7_key 79 = .ok (.aload_n 0, 1) := by decide +kernel
theorem dX7_key_80 : decode cX7_key 80 = .ok (.getfield 13, 3) := by decide +kernel
theorem dX7_key_83 : decode cX7_key 83 = .ok (.iload_n 1, 1) := by decide +kernel
theorem dX7_key_84 : decode cX7_key 84 = .ok (.iaload, 1) := by decide +kernel
theorem dX7_key_85 : decode cX7_key 85 = .ok (.iload_n 3, 1) := by decide +kernel
theorem dX7_key_86 : decode cX7_key 86 = .ok (.iadd, 1) := by decide +kernel
theorem dX7_key_87 : decode cX7_key 87 = .ok (.iastore, 1) := by decide +kernel
theorem dX7_key_88 : decode cX7_key 88 = .ok (.return_, 1) := by decide +kernel
theorem dX7_field_0 : decode cX7_field 0 = .ok (.iload_n 3, 1) := by decide +kernel
theorem dX7_field_1 : decode cX7_field 1 = .ok (.invokestatic 96, 3) := by decide +kernel
theorem dX7_field_4 : decode cX7_field 4 = .ok (.istore 4, 2) := by decide +kernel
theorem dX7_field_6 : decode cX7_field 6 = .ok (.aload_n 0, 1) := by decide +kernel
theorem dX7_field_7 : decode cX7_field 7 = .ok (.aload_n 0, 1) := by decide +kernel
theorem dX7_field_8 : decode cX7_field 8 = .ok (.iload_n 1, 1) := by decide +kernel
theorem dX7_field_9 : decode cX7_field 9 = .ok (.invokevirtual 100, 3) := by decide +kernel
theorem dX7_field_12 : decode cX7_field 12 = .ok (.ifCond .ne 7, 3) := by decide +kernel
theorem dX7_field_15 : decode cX7_field 15 = .ok (.iconst 1, 1) := by decide +kernel
theorem dX7_field_16 : decode cX7_field 16 = .ok (.goto 51, 3) := by decide +kernel
theorem dX7_field_19 : decode cX7_field 19 = .ok (.iload_n 2, 1) := by decide +kernel
theorem dX7_field_20 : decode cX7_field 20 = .ok (.ifCond .lt 9, 3) := by decide +kernel
theorem dX7_field_23 : decode cX7_field 23 = .ok (.iload_n 2, 1) := by decide +kernel
theorem dX7_field_24 : decode cX7_field 24 = .ok (.bipush 7, 2) := by decide +kernel
theorem dX7_field_26 : decode cX7_field 26 = .ok (.if_icmp .le 7, 3) := by decide +kernel
theorem dX7_field_29 : decode cX7_field 29 = .ok (.iconst 2, 1) := by decide +kernel
theorem dX7_field_30 : decode cX7_field 30 = .ok (.goto 37, 3) := by decide +kernel
theorem dX7_field_33 : decode cX7_field 33 = .ok (.iload 4, 2) := by decide +kernel
theorem dX7_field_35 : decode cX7_field 35 = .ok (.iconst (-1), 1) := by decide +kernel
theorem dX7_field_36 : decode cX7_field 36 = .ok (.if_icmp .ne 7, 3) := by decide +kernel
theorem dX7_field_39 : decode cX7_field 39 = .ok (.iconst 3, 1) := by decide +kernel
theorem dX7_field_40 : decode cX7_field 40 = .ok (.goto 27, 3) := by decide +kernel
theorem dX7_field_43 : decode cX7_field 43 = .ok (.aload_n 0, 1) := by decide +kernel
theorem dX7_field_44 : decode cX7_field 44 = .ok (.getfield 19, 3) := by decide +kernel
theorem dX7_field_47 : decode cX7_field 47 = .ok (.bipush 8, 2) := by decide +kernel
theorem dX7_field_49 : decode cX7_field 49 = .ok (.iload_n 1, 1) := by decide +kernel
theorem dX7_field_50 : decode cX7_field 50 = .ok (.imul, 1) := by decide +kernel
theorem dX7_field_51 : decode cX7_field 51 = .ok (.iload_n 2, 1) := by decide +kernel
theorem dX7_field_52 : decode cX7_field 52 = .ok (.iadd, 1) := by decide +kernel
theorem dX7_field_53 : decode cX7_field 53 = .ok (.iaload, 1) := by decide +kernel
theorem dX7_field_54 : decode cX7_field 54 = .ok (.iload 4, 2) := by decide +kernel
theorem dX7_field_56 : decode cX7_field 56 = .ok (.iadd, 1) := by decide +kernel
theorem dX7_field_57 : decode cX7_field 57 = .ok (.bipush 80, 2) := by decide +kernel
theorem dX7_field_59 : decode cX7_field 59 = .ok (.if_icmp .le 7, 3) := by decide +kernel
theorem dX7_field_62 : decode cX7_field 62 = .ok (.iconst 4, 1) := by decide +kernel
theorem dX7_field_63 : decode cX7_field 63 = .ok (.goto 4, 3) := by decide +kernel
theorem dX7_field_66 : decode cX7_field 66 = .ok (.iconst 0, 1) := by decide +kernel
theorem dX7_field_67 : decode cX7_field 67 = .ok (.putfield 85, 3) := by decide +kernel
theorem dX7_field_70 : decode cX7_field 70 = .ok (.aload_n 0, 1) := by decide +kernel
theorem dX7_field_71 : decode cX7_field 71 = .ok (.getfield 85, 3) := by decide +kernel
theorem dX7_field_74 : decode cX7_field 74 = .ok (.ifCond .ne 49, 3) := by decide +kernel
theorem dX7_field_77 : decode cX7_field 77 = .ok (.bipush 8, 2) := by decide +kernel
theorem dX7_field_79 : decode cX7_field 79 = .ok (.iload_n 1, 1) := by decide +kernel
theorem dX7_field_80 : decode cX7_field 80 = .ok (.imul, 1) := by decide +kernel
theorem dX7_field_81 : decode cX7_field 81 = .ok (.iload_n 2, 1) := by decide +kernel
theorem dX7_field_82 : decode cX7_field 82 = .ok (.iadd, 1) := by decide +kernel
theorem dX7_field_83 : decode cX7_field 83 = .ok (.istore 5, 2) := by decide +kernel
theorem dX7_field_85 : decode cX7_field 85 = .ok (.aload_n 0, 1) := by decide +kernel
theorem dX7_field_86 : decode cX7_field 86 = .ok (.getfield 22, 3) := by decide +kernel
theorem dX7_field_89 : decode cX7_field 89 = .ok (.bipush 80, 2) := by decide +kernel
theorem dX7_field_91 : decode cX7_field 91 = .ok (.iload 5, 2) := by decide +kernel
theorem dX7_field_93 : decode cX7_field 93 = .ok (.imul, 1) := by decide +kernel
theorem dX7_field_94 : decode cX7_field 94 = .ok (.aload_n 0, 1) := by decide +kernel
theorem dX7_field_95 : decode cX7_field 95 = .ok (.getfield 19, 3) := by decide +kernel
theorem dX7_field_98 : decode cX7_field 98 = .ok (.iload 5, 2) := by decide +kernel
theorem dX7_field_100 : decode cX7_field 100 = .ok (.iaload, 1) := by decide +kernel
theorem dX7_field_101 : decode cX7_field 101 = .ok (.iadd, 1) := by decide +kernel
theorem dX7_field_102 : decode cX7_field 102 = .ok (.iload_n 3, 1) := by decide +kernel
theorem dX7_field_103 : decode cX7_field 103 = .ok (.invokestatic 103, 3) := by decide +kernel
theorem dX7_field_106 : decode cX7_field 106 = .ok (.aload_n 0, 1) := by decide +kernel
theorem dX7_field_107 : decode cX7_field 107 = .ok (.getfield 19, 3) := by decide +kernel
theorem dX7_field_110 : decode cX7_field 110 = .ok (.iload 5, 2) := by decide +kernel
theorem dX7_field_112 : decode cX7_field 112 = .ok (.aload_n 0, 1) := by decide +kernel
theorem dX7_field_113 : decode cX7_field 113 = .ok (.getfield 19, 3) := by decide +kernel
theorem dX7_field_116 : decode cX7_field 116 = .ok (.iload 5, 2) := by decide +kernel
theorem dX7_field_118 : decode cX7_field 118 = .ok (.iaload, 1) := by decide +kernel
theorem dX7_field_119 : decode cX7_field 119 = .ok (.iload 4, 2) := by decide +kernel
theorem dX7_field_121 : decode cX7_field 121 = .ok (.iadd, 1) := by decide +kernel
theorem dX7_field_122 : decode cX7_field 122 = .ok (.iastore, 1) := by decide +kernel
theorem dX7_field_123 : decode cX7_field 123 = .ok (.return_, 1) := by decide +kernel
theorem dX7_cite_0 : decode cX7_cite 0 = .ok (.aload_n 0, 1) := by decide +kernel
theorem dX7_cite_1 : decode cX7_cite 1 = .ok (.aload_n 0, 1) := by decide +kernel
theorem dX7_cite_2 : decode cX7_cite 2 = .ok (.iload_n 1, 1) := by decide +kernel
theorem dX7_cite_3 : decode cX7_cite 3 = .ok (.invokevirtual 100, 3) := by decide +kernel
theorem dX7_cite_6 : decode cX7_cite 6 = .ok (.ifCond .ne 7, 3) := by decide +kernel
theorem dX7_cite_9 : decode cX7_cite 9 = .ok (.iconst 1, 1) := by decide +kernel
theorem dX7_cite_10 : decode cX7_cite 10 = .ok (.goto 17, 3) := by decide +kernel
theorem dX7_cite_13 : decode cX7_cite 13 = .ok (.aload_n 0, 1) := by decide +kernel
theorem dX7_cite_14 : decode cX7_cite 14 = .ok (.getfield 107, 3) := by decide +kernel
theorem dX7_cite_17 : decode cX7_cite 17 = .ok (.bipush 60, 2) := by decide +kernel
theorem dX7_cite_19 : decode cX7_cite 19 = .ok (.if_icmp .ne 7, 3) := by decide +kernel
theorem dX7_cite_22 : decode cX7_cite 22 = .ok (.iconst 2, 1) := by decide +kernel
theorem dX7_cite_23 : decode cX7_cite 23 = .ok (.goto 4, 3) := by decide +kernel
theorem dX7_cite_26 : decode cX7_cite 26 = .ok (.iconst 0, 1) := by decide +kernel
theorem dX7_cite_27 : decode cX7_cite 27 = .ok (.putfield 85, 3) := by decide +kernel
theorem dX7_cite_30 : decode cX7_cite 30 = .ok (.aload_n 0, 1) := by decide +kernel
theorem dX7_cite_31 : decode cX7_cite 31 = .ok (.getfield 85, 3) := by decide +kernel
theorem dX7_cite_34 : decode cX7_cite 34 = .ok (.ifCond .le 5, 3) := by decide +kernel
theorem dX7_cite_37 : decode cX7_cite 37 = .ok (.iconst 0, 1) := by decide +kernel
theorem dX7_cite_38 : decode cX7_cite 38 = .ok (.ireturn, 1) := by decide +kernel
theorem dX7_cite_39 : decode cX7_cite 39 = .ok (.aload_n 0, 1) := by decide +kernel
theorem dX7_cite_40 : decode cX7_cite 40 = .ok (.dup, 1) := by decide +kernel
theorem dX7_cite_41 : decode cX7_cite 41 = .ok (.getfield 107, 3) := by decide +kernel
theorem dX7_cite_44 : decode cX7_cite 44 = .ok (.iconst 1, 1) := by decide +kernel
theorem dX7_cite_45 : decode cX7_cite 45 = .ok (.iadd, 1) := by decide +kernel
theorem dX7_cite_46 : decode cX7_cite 46 = .ok (.putfield 107, 3) := by decide +kernel
theorem dX7_cite_49 : decode cX7_cite 49 = .ok (.iconst 0, 1) := by decide +kernel
theorem dX7_cite_50 : decode cX7_cite 50 = .ok (.istore_n 2, 1) := by decide +kernel
theorem dX7_cite_51 : decode cX7_cite 51 = .ok (.iconst 0, 1) := by decide +kernel
theorem dX7_cite_52 : decode cX7_cite 52 = .ok (.istore_n 3, 1) := by decide +kernel
theorem dX7_cite_53 : decode cX7_cite 53 = .ok (.iload_n 3, 1) := by decide +kernel
theorem dX7_cite_54 : decode cX7_cite 54 = .ok (.aload_n 0, 1) := by decide +kernel
theorem dX7_cite_55 : decode cX7_cite 55 = .ok (.getfield 110, 3) := by decide +kernel
theorem dX7_cite_58 : decode cX7_cite 58 = .ok (.if_icmp .ge 29, 3) := by decide +kernel
theorem dX7_cite_61 : decode cX7_cite 61 = .ok (.iload_n 2, 1) := by decide +kernel
theorem dX7_cite_62 : decode cX7_cite 62 = .ok (.ifCond .ne 13, 3) := by decide +kernel
theorem dX7_cite_65 : decode cX7_cite 65 = .ok (.aload_n 0, 1) := by decide +kernel
theorem dX7_cite_66 : decode cX7_cite 66 = .ok (.getfield 28, 3) := by decide +kernel
theorem dX7_cite_69 : decode cX7_cite 69 = .ok (.iload_n 3, 1) := by decide +kernel
theorem dX7_cite_70 : decode cX7_cite 70 = .ok (.iaload, 1) := by decide +kernel
theorem dX7_cite_71 : decode cX7_cite 71 = .ok (.iload_n 1, 1) := by decide +kernel
theorem dX7_cite_72 : decode cX7_cite 72 = .ok (.if_icmp .ne 7, 3) := by decide +kernel
theorem dX7_cite_75 : decode cX7_cite 75 = .ok (.iconst 1, 1) := by decide +kernel
theorem dX7_cite_76 : decode cX7_cite 76 = .ok (.goto 4, 3) := by decide +kernel
theorem dX7_cite_79 : decode cX7_cite 79 = .ok (.iconst 0, 1) := by decide +kernel
theorem dX7_cite_80 : decode cX7_cite 80 = .ok (.istore_n 2, 1) := by decide +kernel
theorem dX7_cite_81 : decode cX7_cite 81 = .ok (.iinc 3 1, 3) := by decide +kernel
theorem dX7_cite_84 : decode cX7_cite 84 = .ok (.goto (-31), 3) := by decide +kernel
theorem dX7_cite_87 : decode cX7_cite 87 = .ok (.iload_n 2, 1) := by decide +kernel
theorem dX7_cite_88 : decode cX7_cite 88 = .ok (.ifCond .ne 23, 3) := by decide +kernel
theorem dX7_cite_91 : decode cX7_cite 91 = .ok (.aload_n 0, 1) := by decide +kernel
theorem dX7_cite_92 : decode cX7_cite 92 = .ok (.getfield 28, 3) := by decide +kernel
theorem dX7_cite_95 : decode cX7_cite 95 = .ok (.aload_n 0, 1) := by decide +kernel
theorem dX7_cite_96 : decode cX7_cite 96 = .ok (.getfield 110, 3) := by decide +kernel
theorem dX7_cite_99 : decode cX7_cite 99 = .ok (.iload_n 1, 1) := by decide +kernel
theorem dX7_cite_100 : decode cX7_cite 100 = .ok (.iastore, 1) := by decide +kernel
theorem dX7_cite_101 : decode cX7_cite 101 = .ok (.aload_n 0, 1) := by decide +kernel
theorem dX7_cite_102 : decode cX7_cite 102 = .ok (.dup, 1) := by decide +kernel
theorem dX7_cite_103 : decode cX7_cite 103 = .ok (.getfield 110, 3) := by decide +kernel
theorem dX7_cite_106 : decode cX7_cite 106 = .ok (.iconst 1, 1) := by decide +kernel
theorem dX7_cite_107 : decode cX7_cite 107 = .ok (.iadd, 1) := by decide +kernel
theorem dX7_cite_108 : decode cX7_cite 108 = .ok (.putfield 110, 3) := by decide +kernel
theorem dX7_cite_111 : decode cX7_cite 111 = .ok (.aload_n 0, 1) := by decide +kernel
theorem dX7_cite_112 : decode cX7_cite 112 = .ok (.getfield 107, 3) := by decide +kernel
theorem dX7_cite_115 : decode cX7_cite 115 = .ok (.ireturn, 1) := by decide +kernel
theorem dX7_cross_0 : decode cX7_cross 0 = .ok (.aload_n 0, 1) := by decide +kernel
theorem dX7_cross_1 : decode cX7_cross 1 = .ok (.aload_n 0, 1) := by decide +kernel
theorem dX7_cross_2 : decode cX7_cross 2 = .ok (.iload_n 1, 1) := by decide +kernel
theorem dX7_cross_3 : decode cX7_cross 3 = .ok (.invokevirtual 100, 3) := by decide +kernel
theorem dX7_cross_6 : decode cX7_cross 6 = .ok (.ifCond .eq 15, 3) := by decide +kernel
theorem dX7_cross_9 : decode cX7_cross 9 = .ok (.aload_n 0, 1) := by decide +kernel
theorem dX7_cross_10 : decode cX7_cross 10 = .ok (.iload_n 2, 1) := by decide +kernel
theorem dX7_cross_11 : decode cX7_cross 11 = .ok (.invokevirtual 100, 3) := by decide +kernel
theorem dX7_cross_14 : decode cX7_cross 14 = .ok (.ifCond .eq 7, 3) := by decide +kernel
theorem dX7_cross_17 : decode cX7_cross 17 = .ok (.iconst 0, 1) := by decide +kernel
theorem dX7_cross_18 : decode cX7_cross 18 = .ok (.goto 4, 3) := by decide +kernel
theorem dX7_cross_21 : decode cX7_cross 21 = .ok (.iconst 1, 1) := by decide +kernel
theorem dX7_cross_22 : decode cX7_cross 22 = .ok (.putfield 85, 3) := by decide +kernel
theorem dX7_cross_25 : decode cX7_cross 25 = .ok (.aload_n 0, 1) := by decide +kernel
theorem dX7_cross_26 : decode cX7_cross 26 = .ok (.getfield 85, 3) := by decide +kernel
theorem dX7_cross_29 : decode cX7_cross 29 = .ok (.ifCond .le 5, 3) := by decide +kernel
theorem dX7_cross_32 : decode cX7_cross 32 = .ok (.iconst 0, 1) := by decide +kernel
theorem dX7_cross_33 : decode cX7_cross 33 = .ok (.ireturn, 1) := by decide +kernel
theorem dX7_cross_34 : decode cX7_cross 34 = .ok (.iload_n 2, 1) := by decide +kernel
theorem dX7_cross_35 : decode cX7_cross 35 = .ok (.istore_n 3, 1) := by decide +kernel
theorem dX7_cross_36 : decode cX7_cross 36 = .ok (.iload_n 3, 1) := by decide +kernel
theorem dX7_cross_37 : decode cX7_cross 37 = .ok (.iconst (-1), 1) := by decide +kernel
theorem dX7_cross_38 : decode cX7_cross 38 = .ok (.if_icmp .eq 20, 3) := by decide +kernel
theorem dX7_cross_41 : decode cX7_cross 41 = .ok (.iload_n 3, 1) := by decide +kernel
theorem dX7_cross_42 : decode cX7_cross 42 = .ok (.iload_n 1, 1) := by decide +kernel
theorem dX7_cross_43 : decode cX7_cross 43 = .ok (.if_icmp .ne 5, 3) := by decide +kernel
theorem dX7_cross_46 : decode cX7_cross 46 = .ok (.iconst 0, 1) := by decide +kernel
theorem dX7_cross_47 : decode cX7_cross 47 = .ok (.ireturn, 1) := by decide +kernel
theorem dX7_cross_48 : decode cX7_cross 48 = .ok (.aload_n 0, 1) := by decide +kernel
theorem dX7_cross_49 : decode cX7_cross 49 = .ok (.getfield 25, 3) := by decide +kernel
theorem dX7_cross_52 : decode cX7_cross 52 = .ok (.iload_n 3, 1) := by decide +kernel
theorem dX7_cross_53 : decode cX7_cross 53 = .ok (.iaload, 1) := by decide +kernel
theorem dX7_cross_54 : decode cX7_cross 54 = .ok (.istore_n 3, 1) := by decide +kernel
theorem dX7_cross_55 : decode cX7_cross 55 = .ok (.goto (-19), 3) := by decide +kernel
theorem dX7_cross_58 : decode cX7_cross 58 = .ok (.aload_n 0, 1) := by decide +kernel
theorem dX7_cross_59 : decode cX7_cross 59 = .ok (.getfield 25, 3) := by decide +kernel
theorem dX7_cross_62 : decode cX7_cross 62 = .ok (.iload_n 1, 1) := by decide +kernel
theorem dX7_cross_63 : decode cX7_cross 63 = .ok (.iload_n 2, 1) := by decide +kernel
theorem dX7_cross_64 : decode cX7_cross 64 = .ok (.iastore, 1) := by decide +kernel
theorem dX7_cross_65 : decode cX7_cross 65 = .ok (.iconst 1, 1) := by decide +kernel
theorem dX7_cross_66 : decode cX7_cross 66 = .ok (.ireturn, 1) := by decide +kernel
theorem dX7_style_0 : decode cX7_style 0 = .ok (.aload_n 0, 1) := by decide +kernel
theorem dX7_style_1 : decode cX7_style 1 = .ok (.iload_n 1, 1) := by decide +kernel
theorem dX7_style_2 : decode cX7_style 2 = .ok (.ifCond .lt 17, 3) := by decide +kernel
theorem dX7_style_5 : decode cX7_style 5 = .ok (.iload_n 1, 1) := by decide +kernel
theorem dX7_style_6 : decode cX7_style 6 = .ok (.iconst 2, 1) := by decide +kernel
theorem dX7_style_7 : decode cX7_style 7 = .ok (.if_icmp .gt 12, 3) := by decide +kernel
theorem dX7_style_10 : decode cX7_style 10 = .ok (.iload_n 2, 1) := by decide +kernel
theorem dX7_style_11 : decode cX7_style 11 = .ok (.ifCond .lt 8, 3) := by decide +kernel
theorem dX7_style_14 : decode cX7_style 14 = .ok (.iload_n 2, 1) := by decide +kernel
theorem dX7_style_15 : decode cX7_style 15 = .ok (.iconst 2, 1) := by decide +kernel
theorem dX7_style_16 : decode cX7_style 16 = .ok (.if_icmp .le 7, 3) := by decide +kernel
theorem dX7_style_19 : decode cX7_style 19 = .ok (.iconst 1, 1) := by decide +kernel
theorem dX7_style_20 : decode cX7_style 20 = .ok (.goto 4, 3) := by decide +kernel
theorem dX7_style_23 : decode cX7_style 23 = .ok (.iconst 0, 1) := by decide +kernel
theorem dX7_style_24 : decode cX7_style 24 = .ok (.putfield 85, 3) := by decide +kernel
theorem dX7_style_27 : decode cX7_style 27 = .ok (.aload_n 0, 1) := by decide +kernel
theorem dX7_style_28 : decode cX7_style 28 = .ok (.getfield 85, 3) := by decide +kernel
theorem dX7_style_31 : decode cX7_style 31 = .ok (.ifCond .le 5, 3) := by decide +kernel
theorem dX7_style_34 : decode cX7_style 34 = .ok (.iconst 0, 1) := by decide +kernel
theorem dX7_style_35 : decode cX7_style 35 = .ok (.ireturn, 1) := by decide +kernel
theorem dX7_style_36 : decode cX7_style 36 = .ok (.bipush 10, 2) := by decide +kernel
theorem dX7_style_38 : decode cX7_style 38 = .ok (.aload_n 0, 1) := by decide +kernel
theorem dX7_style_39 : decode cX7_style 39 = .ok (.getfield 113, 3) := by decide +kernel
theorem dX7_style_42 : decode cX7_style 42 = .ok (.imul, 1) := by decide +kernel
theorem dX7_style_43 : decode cX7_style 43 = .ok (.aload_n 0, 1) := by decide +kernel
theorem dX7_style_44 : decode cX7_style 44 = .ok (.getfield 116, 3) := by decide +kernel
theorem dX7_style_47 : decode cX7_style 47 = .ok (.iadd, 1) := by decide +kernel
theorem dX7_style_48 : decode cX7_style 48 = .ok (.istore_n 3, 1) := by decide +kernel
theorem dX7_style_49 : decode cX7_style 49 = .ok (.aload_n 0, 1) := by decide +kernel
theorem dX7_style_50 : decode cX7_style 50 = .ok (.iload_n 1, 1) := by decide +kernel
theorem dX7_style_51 : decode cX7_style 51 = .ok (.putfield 113, 3) := by decide +kernel
theorem dX7_style_54 : decode cX7_style 54 = .ok (.aload_n 0, 1) := by decide +kernel
theorem dX7_style_55 : decode cX7_style 55 = .ok (.iload_n 2, 1) := by decide +kernel
theorem dX7_style_56 : decode cX7_style 56 = .ok (.putfield 116, 3) := by decide +kernel
theorem dX7_style_59 : decode cX7_style 59 = .ok (.iload_n 3, 1) := by decide +kernel
theorem dX7_style_60 : decode cX7_style 60 = .ok (.ireturn, 1) := by decide +kernel
theorem dX7_value_0 : decode cX7_value 0 = .ok (.iload_n 1, 1) := by decide +kernel
theorem dX7_value_1 : decode cX7_value 1 = .ok (.istore_n 3, 1) := by decide +kernel
theorem dX7_value_2 : decode cX7_value 2 = .ok (.aload_n 0, 1) := by decide +kernel
theorem dX7_value_3 : decode cX7_value 3 = .ok (.getfield 19, 3) := by decide +kernel
theorem dX7_value_6 : decode cX7_value 6 = .ok (.bipush 8, 2) := by decide +kernel
theorem dX7_value_8 : decode cX7_value 8 = .ok (.iload_n 3, 1) := by decide +kernel
theorem dX7_value_9 : decode cX7_value 9 = .ok (.imul, 1) := by decide +kernel
theorem dX7_value_10 : decode cX7_value 10 = .ok (.iload_n 2, 1) := by decide +kernel
theorem dX7_value_11 : decode cX7_value 11 = .ok (.iadd, 1) := by decide +kernel
theorem dX7_value_12 : decode cX7_value 12 = .ok (.iaload, 1) := by decide +kernel
theorem dX7_value_13 : decode cX7_value 13 = .ok (.ifCond .ne 54, 3) := by decide +kernel
theorem dX7_value_16 : decode cX7_value 16 = .ok (.aload_n 0, 1) := by decide +kernel
theorem dX7_value_17 : decode cX7_value 17 = .ok (.getfield 25, 3) := by decide +kernel
theorem dX7_value_20 : decode cX7_value 20 = .ok (.iload_n 3, 1) := by decide +kernel
theorem dX7_value_21 : decode cX7_value 21 = .ok (.iaload, 1) := by decide +kernel
theorem dX7_value_22 : decode cX7_value 22 = .ok (.iconst (-1), 1) := by decide +kernel
theorem dX7_value_23 : decode cX7_value 23 = .ok (.if_icmp .eq 8, 3) := by decide +kernel
theorem dX7_value_26 : decode cX7_value 26 = .ok (.iload_n 2, 1) := by decide +kernel
theorem dX7_value_27 : decode cX7_value 27 = .ok (.iconst 1, 1) := by decide +kernel
theorem dX7_value_28 : decode cX7_value 28 = .ok (.if_icmp .ne 5, 3) := by decide +kernel
theorem dX7_value_31 : decode cX7_value 31 = .ok (.iconst (-1), 1) := by decide +kernel
theorem dX7_value_32 : decode cX7_value 32 = .ok (.ireturn, 1) := by decide +kernel
theorem dX7_value_33 : decode cX7_value 33 = .ok (.aload_n 0, 1) := by decide +kernel
theorem dX7_value_34 : decode cX7_value 34 = .ok (.getfield 25, 3) := by decide +kernel
theorem dX7_value_37 : decode cX7_value 37 = .ok (.iload_n 3, 1) := by decide +kernel
theorem dX7_value_38 : decode cX7_value 38 = .ok (.iaload, 1) := by decide +kernel
theorem dX7_value_39 : decode cX7_value 39 = .ok (.istore_n 3, 1) := by decide +kernel
theorem dX7_value_40 : decode cX7_value 40 = .ok (.iload_n 2, 1) := by decide +kernel
theorem dX7_value_41 : decode cX7_value 41 = .ok (.bipush 6, 2) := by decide +kernel
theorem dX7_value_43 : decode cX7_value 43 = .ok (.if_icmp .ne (-41), 3) := by decide +kernel
theorem dX7_value_46 : decode cX7_value 46 = .ok (.aload_n 0, 1) := by decide +kernel
theorem dX7_value_47 : decode cX7_value 47 = .ok (.getfield 19, 3) := by decide +kernel
theorem dX7_value_50 : decode cX7_value 50 = .ok (.bipush 8, 2) := by decide +kernel
theorem dX7_value_52 : decode cX7_value 52 = .ok (.iload_n 3, 1) := by decide +kernel
theorem dX7_value_53 : decode cX7_value 53 = .ok (.imul, 1) := by decide +kernel
theorem dX7_value_54 : decode cX7_value 54 = .ok (.iconst 1, 1) := by decide +kernel
theorem dX7_value_55 : decode cX7_value 55 = .ok (.iadd, 1) := by decide +kernel
theorem dX7_value_56 : decode cX7_value 56 = .ok (.iaload, 1) := by decide +kernel
theorem dX7_value_57 : decode cX7_value 57 = .ok (.ifCond .le (-55), 3) := by decide +kernel
theorem dX7_value_60 : decode cX7_value 60 = .ok (.bipush 8, 2) := by decide +kernel
theorem dX7_value_62 : decode cX7_value 62 = .ok (.iload_n 3, 1) := by decide +kernel
theorem dX7_value_63 : decode cX7_value 63 = .ok (.imul, 1) := by decide +kernel
theorem dX7_value_64 : decode cX7_value 64 = .ok (.iconst 1, 1) := by decide +kernel
theorem dX7_value_65 : decode cX7_value 65 = .ok (.iadd, 1) := by decide +kernel
theorem dX7_value_66 : decode cX7_value 66 = .ok (.ireturn, 1) := by decide +kernel
theorem dX7_value_67 : decode cX7_value 67 = .ok (.bipush 8, 2) := by decide +kernel
theorem dX7_value_69 : decode cX7_value 69 = .ok (.iload_n 3, 1) := by decide +kernel
theorem dX7_value_70 : decode cX7_value 70 = .ok (.imul, 1) := by decide +kernel
theorem dX7_value_71 : decode cX7_value 71 = .ok (.iload_n 2, 1) := by decide +kernel
theorem dX7_value_72 : decode cX7_value 72 = .ok (.iadd, 1) := by decide +kernel
theorem dX7_value_73 : decode cX7_value 73 = .ok (.ireturn, 1) := by decide +kernel
theorem dX7_real_0 : decode cX7_real 0 = .ok (.iconst 0, 1) := by decide +kernel
theorem dX7_real_1 : decode cX7_real 1 = .ok (.istore_n 2, 1) := by decide +kernel
theorem dX7_real_2 : decode cX7_real 2 = .ok (.iload_n 2, 1) := by decide +kernel
theorem dX7_real_3 : decode cX7_real 3 = .ok (.iload_n 1, 1) := by decide +kernel
theorem dX7_real_4 : decode cX7_real 4 = .ok (.if_icmp .ge 102, 3) := by decide +kernel
theorem dX7_real_7 : decode cX7_real 7 = .ok (.aload_n 0, 1) := by decide +kernel
theorem dX7_real_8 : decode cX7_real 8 = .ok (.getfield 13, 3) := by decide +kernel
theorem dX7_real_11 : decode cX7_real 11 = .ok (.iload_n 1, 1) := by decide +kernel
theorem dX7_real_12 : decode cX7_real 12 = .ok (.iaload, 1) := by decide +kernel
theorem dX7_real_13 : decode cX7_real 13 = .ok (.ifCond .le 93, 3) := by decide +kernel
theorem dX7_real_16 : decode cX7_real 16 = .ok (.aload_n 0, 1) := by decide +kernel
theorem dX7_real_17 : decode cX7_real 17 = .ok (.getfield 13, 3) := by decide +kernel
theorem dX7_real_20 : decode cX7_real 20 = .ok (.iload_n 2, 1) := by decide +kernel
theorem dX7_real_21 : decode cX7_real 21 = .ok (.iaload, 1) := by decide +kernel
theorem dX7_real_22 : decode cX7_real 22 = .ok (.aload_n 0, 1) := by decide +kernel
theorem dX7_real_23 : decode cX7_real 23 = .ok (.getfield 13, 3) := by decide +kernel
theorem dX7_real_26 : decode cX7_real 26 = .ok (.iload_n 1, 1) := by decide +kernel
theorem dX7_real_27 : decode cX7_real 27 = .ok (.iaload, 1) := by decide +kernel
theorem dX7_real_28 : decode cX7_real 28 = .ok (.if_icmp .ne 7, 3) := by decide +kernel
theorem dX7_real_31 : decode cX7_real 31 = .ok (.iconst 1, 1) := by decide +kernel
theorem dX7_real_32 : decode cX7_real 32 = .ok (.goto 4, 3) := by decide +kernel
theorem dX7_real_35 : decode cX7_real 35 = .ok (.iconst 0, 1) := by decide +kernel
theorem dX7_real_36 : decode cX7_real 36 = .ok (.istore_n 3, 1) := by decide +kernel
theorem dX7_real_37 : decode cX7_real 37 = .ok (.iconst 0, 1) := by decide +kernel
theorem dX7_real_38 : decode cX7_real 38 = .ok (.istore 4, 2) := by decide +kernel
theorem dX7_real_40 : decode cX7_real 40 = .ok (.iload 4, 2) := by decide +kernel
theorem dX7_real_42 : decode cX7_real 42 = .ok (.aload_n 0, 1) := by decide +kernel
theorem dX7_real_43 : decode cX7_real 43 = .ok (.getfield 13, 3) := by decide +kernel
theorem dX7_real_46 : decode cX7_real 46 = .ok (.iload_n 1, 1) := by decide +kernel
theorem dX7_real_47 : decode cX7_real 47 = .ok (.iaload, 1) := by decide +kernel
theorem dX7_real_48 : decode cX7_real 48 = .ok (.if_icmp .ge 46, 3) := by decide +kernel
theorem dX7_real_51 : decode cX7_real 51 = .ok (.iload_n 3, 1) := by decide +kernel
theorem dX7_real_52 : decode cX7_real 52 = .ok (.ifCond .eq 42, 3) := by decide +kernel
theorem dX7_real_55 : decode cX7_real 55 = .ok (.aload_n 0, 1) := by decide +kernel
theorem dX7_real_56 : decode cX7_real 56 = .ok (.getfield 16, 3) := by decide +kernel
theorem dX7_real_59 : decode cX7_real 59 = .ok (.bipush 16, 2) := by decide +kernel
theorem dX7_real_61 : decode cX7_real 61 = .ok (.iload_n 2, 1) := by decide +kernel
theorem dX7_real_62 : decode cX7_real 62 = .ok (.imul, 1) := by decide +kernel
theorem dX7_real_63 : decode cX7_real 63 = .ok (.iload 4, 2) := by decide +kernel
theorem dX7_real_65 : decode cX7_real 65 = .ok (.iadd, 1) := by decide +kernel
theorem dX7_real_66 : decode cX7_real 66 = .ok (.iaload, 1) := by decide +kernel
theorem dX7_real_67 : decode cX7_real 67 = .ok (.aload_n 0, 1) := by decide +kernel
theorem dX7_real_68 : decode cX7_real 68 = .ok (.getfield 16, 3) := by decide +kernel
theorem dX7_real_71 : decode cX7_real 71 = .ok (.bipush 16, 2) := by decide +kernel
theorem dX7_real_73 : decode cX7_real 73 = .ok (.iload_n 1, 1) := by decide +kernel
theorem dX7_real_74 : decode cX7_real 74 = .ok (.imul, 1) := by decide +kernel
theorem dX7_real_75 : decode cX7_real 75 = .ok (.iload 4, 2) := by decide +kernel
theorem dX7_real_77 : decode cX7_real 77 = .ok (.iadd, 1) := by decide +kernel
theorem dX7_real_78 : decode cX7_real 78 = .ok (.iaload, 1) := by decide +kernel
theorem dX7_real_79 : decode cX7_real 79 = .ok (.if_icmp .ne 7, 3) := by decide +kernel
theorem dX7_real_82 : decode cX7_real 82 = .ok (.iconst 1, 1) := by decide +kernel
theorem dX7_real_83 : decode cX7_real 83 = .ok (.goto 4, 3) := by decide +kernel
theorem dX7_real_86 : decode cX7_real 86 = .ok (.iconst 0, 1) := by decide +kernel
theorem dX7_real_87 : decode cX7_real 87 = .ok (.istore_n 3, 1) := by decide +kernel
theorem dX7_real_88 : decode cX7_real 88 = .ok (.iinc 4 1, 3) := by decide +kernel
theorem dX7_real_91 : decode cX7_real 91 = .ok (.goto (-51), 3) := by decide +kernel
theorem dX7_real_94 : decode cX7_real 94 = .ok (.iload_n 3, 1) := by decide +kernel
theorem dX7_real_95 : decode cX7_real 95 = .ok (.ifCond .eq 5, 3) := by decide +kernel
theorem dX7_real_98 : decode cX7_real 98 = .ok (.iload_n 2, 1) := by decide +kernel
theorem dX7_real_99 : decode cX7_real 99 = .ok (.ireturn, 1) := by decide +kernel
theorem dX7_real_100 : decode cX7_real 100 = .ok (.iinc 2 1, 3) := by decide +kernel
theorem dX7_real_103 : decode cX7_real 103 = .ok (.goto (-101), 3) := by decide +kernel
theorem dX7_real_106 : decode cX7_real 106 = .ok (.iload_n 1, 1) := by decide +kernel
theorem dX7_real_107 : decode cX7_real 107 = .ok (.ireturn, 1) := by decide +kernel
theorem dX7_fold_0 : decode cX7_fold 0 = .ok (.iload_n 0, 1) := by decide +kernel
theorem dX7_fold_1 : decode cX7_fold 1 = .ok (.sipush 192, 3) := by decide +kernel
theorem dX7_fold_4 : decode cX7_fold 4 = .ok (.if_icmp .ge 24, 3) := by decide +kernel
theorem dX7_fold_7 : decode cX7_fold 7 = .ok (.iload_n 0, 1) := by decide +kernel
theorem dX7_fold_8 : decode cX7_fold 8 = .ok (.bipush 65, 2) := by decide +kernel
theorem dX7_fold_10 : decode cX7_fold 10 = .ok (.if_icmp .lt 16, 3) := by decide +kernel
theorem dX7_fold_13 : decode cX7_fold 13 = .ok (.iload_n 0, 1) := by decide +kernel
theorem dX7_fold_14 : decode cX7_fold 14 = .ok (.bipush 90, 2) := by decide +kernel
theorem dX7_fold_16 : decode cX7_fold 16 = .ok (.if_icmp .gt 10, 3) := by decide +kernel
theorem dX7_fold_19 : decode cX7_fold 19 = .ok (.iload_n 0, 1) := by decide +kernel
theorem dX7_fold_20 : decode cX7_fold 20 = .ok (.bipush 32, 2) := by decide +kernel
theorem dX7_fold_22 : decode cX7_fold 22 = .ok (.iadd, 1) := by decide +kernel
theorem dX7_fold_23 : decode cX7_fold 23 = .ok (.goto 4, 3) := by decide +kernel
theorem dX7_fold_26 : decode cX7_fold 26 = .ok (.iload_n 0, 1) := by decide +kernel
theorem dX7_fold_27 : decode cX7_fold 27 = .ok (.ireturn, 1) := by decide +kernel
theorem dX7_fold_28 : decode cX7_fold 28 = .ok (.iload_n 0, 1) := by decide +kernel
theorem dX7_fold_29 : decode cX7_fold 29 = .ok (.sipush 223, 3) := by decide +kernel
theorem dX7_fold_32 : decode cX7_fold 32 = .ok (.if_icmp .ne 6, 3) := by decide +kernel
theorem dX7_fold_35 : decode cX7_fold 35 = .ok (.bipush 115, 2) := by decide +kernel
theorem dX7_fold_37 : decode cX7_fold 37 = .ok (.ireturn, 1) := by decide +kernel
theorem dX7_fold_38 : decode cX7_fold 38 = .ok (.iload_n 0, 1) := by decide +kernel
theorem dX7_fold_39 : decode cX7_fold 39 = .ok (.sipush 222, 3) := by decide +kernel
theorem dX7_fold_42 : decode cX7_fold 42 = .ok (.if_icmp .eq 10, 3) := by decide +kernel
theorem dX7_fold_45 : decode cX7_fold 45 = .ok (.iload_n 0, 1) := by decide +kernel
theorem dX7_fold_46 : decode cX7_fold 46 = .ok (.sipush 254, 3) := by decide +kernel
theorem dX7_fold_49 : decode cX7_fold 49 = .ok (.if_icmp .ne 6, 3) := by decide +kernel
theorem dX7_fold_52 : decode cX7_fold 52 = .ok (.bipush 116, 2) := by decide +kernel
theorem dX7_fold_54 : decode cX7_fold 54 = .ok (.ireturn, 1) := by decide +kernel
theorem dX7_fold_55 : decode cX7_fold 55 = .ok (.iload_n 0, 1) := by decide +kernel
theorem dX7_fold_56 : decode cX7_fold 56 = .ok (.sipush 224, 3) := by decide +kernel
theorem dX7_fold_59 : decode cX7_fold 59 = .ok (.if_icmp .ge 10, 3) := by decide +kernel
theorem dX7_fold_62 : decode cX7_fold 62 = .ok (.iload_n 0, 1) := by decide +kernel
theorem dX7_fold_63 : decode cX7_fold 63 = .ok (.bipush 32, 2) := by decide +kernel
theorem dX7_fold_65 : decode cX7_fold 65 = .ok (.iadd, 1) := by decide +kernel
theorem dX7_fold_66 : decode cX7_fold 66 = .ok (.goto 4, 3) := by decide +kernel
theorem dX7_fold_69 : decode cX7_fold 69 = .ok (.iload_n 0, 1) := by decide +kernel
theorem dX7_fold_70 : decode cX7_fold 70 = .ok (.istore_n 1, 1) := by decide +kernel
theorem dX7_fold_71 : decode cX7_fold 71 = .ok (.iload_n 1, 1) := by decide +kernel
theorem dX7_fold_72 : decode cX7_fold 72 = .ok (.sipush 232, 3) := by decide +kernel
theorem dX7_fold_75 : decode cX7_fold 75 = .ok (.if_icmp .ge 18, 3) := by decide +kernel
theorem dX7_fold_78 : decode cX7_fold 78 = .ok (.iload_n 1, 1) := by decide +kernel
theorem dX7_fold_79 : decode cX7_fold 79 = .ok (.sipush 231, 3) := by decide +kernel
theorem dX7_fold_82 : decode cX7_fold 82 = .ok (.if_icmp .ne 8, 3) := by decide +kernel
theorem dX7_fold_85 : decode cX7_fold 85 = .ok (.bipush 99, 2) := by decide +kernel
theorem dX7_fold_87 : decode cX7_fold 87 = .ok (.goto 5, 3) := by decide +kernel
theorem dX7_fold_90 : decode cX7_fold 90 = .ok (.bipush 97, 2) := by decide +kernel
theorem dX7_fold_92 : decode cX7_fold 92 = .ok (.ireturn, 1) := by decide +kernel
theorem dX7_fold_93 : decode cX7_fold 93 = .ok (.iload_n 1, 1) := by decide +kernel
theorem dX7_fold_94 : decode cX7_fold 94 = .ok (.sipush 240, 3) := by decide +kernel
theorem dX7_fold_97 : decode cX7_fold 97 = .ok (.if_icmp .ge 18, 3) := by decide +kernel
theorem dX7_fold_100 : decode cX7_fold 100 = .ok (.iload_n 1, 1) := by decide +kernel
theorem dX7_fold_101 : decode cX7_fold 101 = .ok (.sipush 236, 3) := by decide +kernel
theorem dX7_fold_104 : decode cX7_fold 104 = .ok (.if_icmp .ge 8, 3) := by decide +kernel
theorem dX7_fold_107 : decode cX7_fold 107 = .ok (.bipush 101, 2) := by decide +kernel
theorem dX7_fold_109 : decode cX7_fold 109 = .ok (.goto 5, 3) := by decide +kernel
theorem dX7_fold_112 : decode cX7_fold 112 = .ok (.bipush 105, 2) := by decide +kernel
theorem dX7_fold_114 : decode cX7_fold 114 = .ok (.ireturn, 1) := by decide +kernel
theorem dX7_fold_115 : decode cX7_fold 115 = .ok (.iload_n 1, 1) := by decide +kernel
theorem dX7_fold_116 : decode cX7_fold 116 = .ok (.sipush 249, 3) := by decide +kernel
theorem dX7_fold_119 : decode cX7_fold 119 = .ok (.if_icmp .ge 30, 3) := by decide +kernel
theorem dX7_fold_122 : decode cX7_fold 122 = .ok (.iload_n 1, 1) := by decide +kernel
theorem dX7_fold_123 : decode cX7_fold 123 = .ok (.sipush 240, 3) := by decide +kernel
theorem dX7_fold_126 : decode cX7_fold 126 = .ok (.if_icmp .ne 8, 3) := by decide +kernel
theorem dX7_fold_129 : decode cX7_fold 129 = .ok (.bipush 100, 2) := by decide +kernel
theorem dX7_fold_131 : decode cX7_fold 131 = .ok (.goto 17, 3) := by decide +kernel
theorem dX7_fold_134 : decode cX7_fold 134 = .ok (.iload_n 1, 1) := by decide +kernel
theorem dX7_fold_135 : decode cX7_fold 135 = .ok (.sipush 241, 3) := by decide +kernel
theorem dX7_fold_138 : decode cX7_fold 138 = .ok (.if_icmp .ne 8, 3) := by decide +kernel
theorem dX7_fold_141 : decode cX7_fold 141 = .ok (.bipush 110, 2) := by decide +kernel
theorem dX7_fold_143 : decode cX7_fold 143 = .ok (.goto 5, 3) := by decide +kernel
theorem dX7_fold_146 : decode cX7_fold 146 = .ok (.bipush 111, 2) := by decide +kernel
theorem dX7_fold_148 : decode cX7_fold 148 = .ok (.ireturn, 1) := by decide +kernel
theorem dX7_fold_149 : decode cX7_fold 149 = .ok (.iload_n 1, 1) := by decide +kernel
theorem dX7_fold_150 : decode cX7_fold 150 = .ok (.sipush 253, 3) := by decide +kernel
theorem dX7_fold_153 : decode cX7_fold 153 = .ok (.if_icmp .ge 8, 3) := by decide +kernel
theorem dX7_fold_156 : decode cX7_fold 156 = .ok (.bipush 117, 2) := by decide +kernel
theorem dX7_fold_158 : decode cX7_fold 158 = .ok (.goto 5, 3) := by decide +kernel
theorem dX7_fold_161 : decode cX7_fold 161 = .ok (.bipush 121, 2) := by decide +kernel
theorem dX7_fold_163 : decode cX7_fold 163 = .ok (.ireturn, 1) := by decide +kernel
theorem dX7_isSmall_0 : decode cX7_isSmall 0 = .ok (.iload_n 0, 1) := by decide +kernel
theorem dX7_isSmall_1 : decode cX7_isSmall 1 = .ok (.bipush 97, 2) := by decide +kernel
theorem dX7_isSmall_3 : decode cX7_isSmall 3 = .ok (.if_icmp .lt 9, 3) := by decide +kernel
theorem dX7_isSmall_6 : decode cX7_isSmall 6 = .ok (.iload_n 0, 1) := by decide +kernel
theorem dX7_isSmall_7 : decode cX7_isSmall 7 = .ok (.bipush 122, 2) := by decide +kernel
theorem dX7_isSmall_9 : decode cX7_isSmall 9 = .ok (.if_icmp .le 10, 3) := by decide +kernel
theorem dX7_isSmall_12 : decode cX7_isSmall 12 = .ok (.iload_n 0, 1) := by decide +kernel
theorem dX7_isSmall_13 : decode cX7_isSmall 13 = .ok (.sipush 222, 3) := by decide +kernel
theorem dX7_isSmall_16 : decode cX7_isSmall 16 = .ok (.if_icmp .le 7, 3) := by decide +kernel
theorem dX7_isSmall_19 : decode cX7_isSmall 19 = .ok (.iconst 1, 1) := by decide +kernel
theorem dX7_isSmall_20 : decode cX7_isSmall 20 = .ok (.goto 4, 3) := by decide +kernel
theorem dX7_isSmall_23 : decode cX7_isSmall 23 = .ok (.iconst 0, 1) := by decide +kernel
theorem dX7_isSmall_24 : decode cX7_isSmall 24 = .ok (.ireturn, 1) := by decide +kernel
theorem dX7_startsSmall_0 : decode cX7_startsSmall 0 = .ok (.aload_n 0, 1) := by decide +kernel
theorem dX7_startsSmall_1 : decode cX7_startsSmall 1 = .ok (.getfield 31, 3) := by decide +kernel
theorem dX7_startsSmall_4 : decode cX7_startsSmall 4 = .ok (.aload_n 0, 1) := by decide +kernel
theorem dX7_startsSmall_5 : decode cX7_startsSmall 5 = .ok (.getfield 37, 3) := by decide +kernel
theorem dX7_startsSmall_8 : decode cX7_startsSmall 8 = .ok (.iload_n 1, 1) := by decide +kernel
theorem dX7_startsSmall_9 : decode cX7_startsSmall 9 = .ok (.iaload, 1) := by decide +kernel
theorem dX7_startsSmall_10 : decode cX7_startsSmall 10 = .ok (.iaload, 1) := by decide +kernel
theorem dX7_startsSmall_11 : decode cX7_startsSmall 11 = .ok (.invokestatic 119, 3) := by decide +kernel
theorem dX7_startsSmall_14 : decode cX7_startsSmall 14 = .ok (.ireturn, 1) := by decide +kernel
theorem dX7_addWord_0 : decode cX7_addWord 0 = .ok (.bipush 64, 2) := by decide +kernel
theorem dX7_addWord_2 : decode cX7_addWord 2 = .ok (.iload_n 1, 1) := by decide +kernel
theorem dX7_addWord_3 : decode cX7_addWord 3 = .ok (.imul, 1) := by decide +kernel
theorem dX7_addWord_4 : decode cX7_addWord 4 = .ok (.aload_n 0, 1) := by decide +kernel
theorem dX7_addWord_5 : decode cX7_addWord 5 = .ok (.getfield 34, 3) := by decide +kernel
theorem dX7_addWord_8 : decode cX7_addWord 8 = .ok (.iload_n 1, 1) := by decide +kernel
theorem dX7_addWord_9 : decode cX7_addWord 9 = .ok (.iaload, 1) := by decide +kernel
theorem dX7_addWord_10 : decode cX7_addWord 10 = .ok (.iadd, 1) := by decide +kernel
theorem dX7_addWord_11 : decode cX7_addWord 11 = .ok (.istore 4, 2) := by decide +kernel
theorem dX7_addWord_13 : decode cX7_addWord 13 = .ok (.aload_n 0, 1) := by decide +kernel
theorem dX7_addWord_14 : decode cX7_addWord 14 = .ok (.getfield 37, 3) := by decide +kernel
theorem dX7_addWord_17 : decode cX7_addWord 17 = .ok (.iload 4, 2) := by decide +kernel
theorem dX7_addWord_19 : decode cX7_addWord 19 = .ok (.iload_n 2, 1) := by decide +kernel
theorem dX7_addWord_20 : decode cX7_addWord 20 = .ok (.iastore, 1) := by decide +kernel
theorem dX7_addWord_21 : decode cX7_addWord 21 = .ok (.aload_n 0, 1) := by decide +kernel
theorem dX7_addWord_22 : decode cX7_addWord 22 = .ok (.getfield 40, 3) := by decide +kernel
theorem dX7_addWord_25 : decode cX7_addWord 25 = .ok (.iload 4, 2) := by decide +kernel
theorem dX7_addWord_27 : decode cX7_addWord 27 = .ok (.iload_n 3, 1) := by decide +kernel
theorem dX7_addWord_28 : decode cX7_addWord 28 = .ok (.iastore, 1) := by decide +kernel
theorem dX7_addWord_29 : decode cX7_addWord 29 = .ok (.aload_n 0, 1) := by decide +kernel
theorem dX7_addWord_30 : decode cX7_addWord 30 = .ok (.getfield 43, 3) := by decide +kernel
theorem dX7_addWord_33 : decode cX7_addWord 33 = .ok (.iload 4, 2) := by decide +kernel
theorem dX7_addWord_35 : decode cX7_addWord 35 = .ok (.aload_n 0, 1) := by decide +kernel
theorem dX7_addWord_36 : decode cX7_addWord 36 = .ok (.getfield 49, 3) := by decide +kernel
theorem dX7_addWord_39 : decode cX7_addWord 39 = .ok (.iload_n 1, 1) := by decide +kernel
theorem dX7_addWord_40 : decode cX7_addWord 40 = .ok (.iaload, 1) := by decide +kernel
theorem dX7_addWord_41 : decode cX7_addWord 41 = .ok (.iastore, 1) := by decide +kernel
theorem dX7_addWord_42 : decode cX7_addWord 42 = .ok (.aload_n 0, 1) := by decide +kernel
theorem dX7_addWord_43 : decode cX7_addWord 43 = .ok (.getfield 34, 3) := by decide +kernel
theorem dX7_addWord_46 : decode cX7_addWord 46 = .ok (.iload_n 1, 1) := by decide +kernel
theorem dX7_addWord_47 : decode cX7_addWord 47 = .ok (.dup2, 1) := by decide +kernel
theorem dX7_addWord_48 : decode cX7_addWord 48 = .ok (.iaload, 1) := by decide +kernel
theorem dX7_addWord_49 : decode cX7_addWord 49 = .ok (.iconst 1, 1) := by decide +kernel
theorem dX7_addWord_50 : decode cX7_addWord 50 = .ok (.iadd, 1) := by decide +kernel
theorem dX7_addWord_51 : decode cX7_addWord 51 = .ok (.iastore, 1) := by decide +kernel
theorem dX7_addWord_52 : decode cX7_addWord 52 = .ok (.return_, 1) := by decide +kernel
theorem dX7_endPerson_0 : decode cX7_endPerson 0 = .ok (.aload_n 0, 1) := by decide +kernel
theorem dX7_endPerson_1 : decode cX7_endPerson 1 = .ok (.getfield 34, 3) := by decide +kernel
theorem dX7_endPerson_4 : decode cX7_endPerson 4 = .ok (.iload_n 1, 1) := by decide +kernel
theorem dX7_endPerson_5 : decode cX7_endPerson 5 = .ok (.iaload, 1) := by decide +kernel
theorem dX7_endPerson_6 : decode cX7_endPerson 6 = .ok (.iload_n 2, 1) := by decide +kernel
theorem dX7_endPerson_7 : decode cX7_endPerson 7 = .ok (.isub, 1) := by decide +kernel
theorem dX7_endPerson_8 : decode cX7_endPerson 8 = .ok (.istore 4, 2) := by decide +kernel
theorem dX7_endPerson_10 : decode cX7_endPerson 10 = .ok (.iload 4, 2) := by decide +kernel
theorem dX7_endPerson_12 : decode cX7_endPerson 12 = .ok (.ifCond .ne 4, 3) := by decide +kernel
theorem dX7_endPerson_15 : decode cX7_endPerson 15 = .ok (.return_, 1) := by decide +kernel
theorem dX7_endPerson_16 : decode cX7_endPerson 16 = .ok (.bipush 64, 2) := by decide +kernel
theorem dX7_endPerson_18 : decode cX7_endPerson 18 = .ok (.iload_n 1, 1) := by decide +kernel
theorem dX7_endPerson_19 : decode cX7_endPerson 19 = .ok (.imul, 1) := by decide +kernel
theorem dX7_endPerson_20 : decode cX7_endPerson 20 = .ok (.iload_n 2, 1) := by decide +kernel
theorem dX7_endPerson_21 : decode cX7_endPerson 21 = .ok (.iadd, 1) := by decide +kernel
theorem dX7_endPerson_22 : decode cX7_endPerson 22 = .ok (.istore 5, 2) := by decide +kernel
theorem dX7_endPerson_24 : decode cX7_endPerson 24 = .ok (.iload 4, 2) := by decide +kernel
theorem dX7_endPerson_26 : decode cX7_endPerson 26 = .ok (.iconst 1, 1) := by decide +kernel
theorem dX7_endPerson_27 : decode cX7_endPerson 27 = .ok (.isub, 1) := by decide +kernel
theorem dX7_endPerson_28 : decode cX7_endPerson 28 = .ok (.istore 6, 2) := by decide +kernel
theorem dX7_endPerson_30 : decode cX7_endPerson 30 = .ok (.iload 4, 2) := by decide +kernel
theorem dX7_endPerson_32 : decode cX7_endPerson 32 = .ok (.iconst 1, 1) := by decide +kernel
theorem dX7_endPerson_33 : decode cX7_endPerson 33 = .ok (.isub, 1) := by decide +kernel
theorem dX7_endPerson_34 : decode cX7_endPerson 34 = .ok (.istore 7, 2) := by decide +kernel
theorem dX7_endPerson_36 : decode cX7_endPerson 36 = .ok (.iload_n 3, 1) := by decide +kernel
theorem dX7_endPerson_37 : decode cX7_endPerson 37 = .ok (.iconst (-1), 1) := by decide +kernel
theorem dX7_endPerson_38 : decode cX7_endPerson 38 = .ok (.if_icmp .ne 111, 3) := by decide +kernel
theorem dX7_endPerson_41 : decode cX7_endPerson 41 = .ok (.iconst 0, 1) := by decide +kernel
theorem dX7_endPerson_42 : decode cX7_endPerson 42 = .ok (.istore 8, 2) := by decide +kernel
theorem dX7_endPerson_44 : decode cX7_endPerson 44 = .ok (.iconst 0, 1) := by decide +kernel
theorem dX7_endPerson_45 : decode cX7_endPerson 45 = .ok (.istore 9, 2) := by decide +kernel
theorem dX7_endPerson_47 : decode cX7_endPerson 47 = .ok (.iload 9, 2) := by decide +kernel
theorem dX7_endPerson_49 : decode cX7_endPerson 49 = .ok (.iload 4, 2) := by decide +kernel
theorem dX7_endPerson_51 : decode cX7_endPerson 51 = .ok (.iconst 1, 1) := by decide +kernel
theorem dX7_endPerson_52 : decode cX7_endPerson 52 = .ok (.isub, 1) := by decide +kernel
theorem dX7_endPerson_53 : decode cX7_endPerson 53 = .ok (.if_icmp .ge 44, 3) := by decide +kernel
theorem dX7_endPerson_56 : decode cX7_endPerson 56 = .ok (.aload_n 0, 1) := by decide +kernel
theorem dX7_endPerson_57 : decode cX7_endPerson 57 = .ok (.iload 5, 2) := by decide +kernel
theorem dX7_endPerson_59 : decode cX7_endPerson 59 = .ok (.iload 9, 2) := by decide +kernel
theorem dX7_endPerson_61 : decode cX7_endPerson 61 = .ok (.iadd, 1) := by decide +kernel
theorem dX7_endPerson_62 : decode cX7_endPerson 62 = .ok (.invokevirtual 122, 3) := by decide +kernel
theorem dX7_endPerson_65 : decode cX7_endPerson 65 = .ok (.ifCond .eq 26, 3) := by decide +kernel
theorem dX7_endPerson_68 : decode cX7_endPerson 68 = .ok (.iload 8, 2) := by decide +kernel
theorem dX7_endPerson_70 : decode cX7_endPerson 70 = .ok (.ifCond .eq 8, 3) := by decide +kernel
theorem dX7_endPerson_73 : decode cX7_endPerson 73 = .ok (.iload 6, 2) := by decide +kernel
theorem dX7_endPerson_75 : decode cX7_endPerson 75 = .ok (.goto 5, 3) := by decide +kernel
theorem dX7_endPerson_78 : decode cX7_endPerson 78 = .ok (.iload 9, 2) := by decide +kernel
theorem dX7_endPerson_80 : decode cX7_endPerson 80 = .ok (.istore 6, 2) := by decide +kernel
theorem dX7_endPerson_82 : decode cX7_endPerson 82 = .ok (.iload 9, 2) := by decide +kernel
theorem dX7_endPerson_84 : decode cX7_endPerson 84 = .ok (.iconst 1, 1) := by decide +kernel
theorem dX7_endPerson_85 : decode cX7_endPerson 85 = .ok (.iadd, 1) := by decide +kernel
theorem dX7_endPerson_86 : decode cX7_endPerson 86 = .ok (.istore 7, 2) := by decide +kernel
theorem dX7_endPerson_88 : decode cX7_endPerson 88 = .ok (.iconst 1, 1) := by decide +kernel
theorem dX7_endPerson_89 : decode cX7_endPerson 89 = .ok (.istore 8, 2) := by decide +kernel
theorem dX7_endPerson_91 : decode cX7_endPerson 91 = .ok (.iinc 9 1, 3) := by decide +kernel
theorem dX7_endPerson_94 : decode cX7_endPerson 94 = .ok (.goto (-47), 3) := by decide +kernel
theorem dX7_endPerson_97 : decode cX7_endPerson 97 = .ok (.iconst 0, 1) := by decide +kernel
theorem dX7_endPerson_98 : decode cX7_endPerson 98 = .ok (.istore 9, 2) := by decide +kernel
theorem dX7_endPerson_100 : decode cX7_endPerson 100 = .ok (.iload 9, 2) := by decide +kernel
theorem dX7_endPerson_102 : decode cX7_endPerson 102 = .ok (.iload 4, 2) := by decide +kernel
theorem dX7_endPerson_104 : decode cX7_endPerson 104 = .ok (.if_icmp .ge 42, 3) := by decide +kernel
theorem dX7_endPerson_107 : decode cX7_endPerson 107 = .ok (.aload_n 0, 1) := by decide +kernel
theorem dX7_endPerson_108 : decode cX7_endPerson 108 = .ok (.getfield 46, 3) := by decide +kernel
theorem dX7_endPerson_111 : decode cX7_endPerson 111 = .ok (.iload 5, 2) := by decide +kernel
theorem dX7_endPerson_113 : decode cX7_endPerson 113 = .ok (.iload 9, 2) := by decide +kernel
theorem dX7_endPerson_115 : decode cX7_endPerson 115 = .ok (.iadd, 1) := by decide +kernel
theorem dX7_endPerson_116 : decode cX7_endPerson 116 = .ok (.iload 9, 2) := by decide +kernel
theorem dX7_endPerson_118 : decode cX7_endPerson 118 = .ok (.iload 6, 2) := by decide +kernel
theorem dX7_endPerson_120 : decode cX7_endPerson 120 = .ok (.if_icmp .ge 7, 3) := by decide +kernel
theorem dX7_endPerson_123 : decode cX7_endPerson 123 = .ok (.iconst 0, 1) := by decide +kernel
theorem dX7_endPerson_124 : decode cX7_endPerson 124 = .ok (.goto 15, 3) := by decide +kernel
theorem dX7_endPerson_127 : decode cX7_endPerson 127 = .ok (.iload 9, 2) := by decide +kernel
theorem dX7_endPerson_129 : decode cX7_endPerson 129 = .ok (.iload 7, 2) := by decide +kernel
theorem dX7_endPerson_131 : decode cX7_endPerson 131 = .ok (.if_icmp .ge 7, 3) := by decide +kernel
theorem dX7_endPerson_134 : decode cX7_endPerson 134 = .ok (.iconst 1, 1) := by decide +kernel
theorem dX7_endPerson_135 : decode cX7_endPerson 135 = .ok (.goto 4, 3) := by decide +kernel
theorem dX7_endPerson_138 : decode cX7_endPerson 138 = .ok (.iconst 2, 1) := by decide +kernel
theorem dX7_endPerson_139 : decode cX7_endPerson 139 = .ok (.iastore, 1) := by decide +kernel
theorem dX7_endPerson_140 : decode cX7_endPerson 140 = .ok (.iinc 9 1, 3) := by decide +kernel
theorem dX7_endPerson_143 : decode cX7_endPerson 143 = .ok (.goto (-43), 3) := by decide +kernel
theorem dX7_endPerson_146 : decode cX7_endPerson 146 = .ok (.goto 77, 3) := by decide +kernel
theorem dX7_endPerson_149 : decode cX7_endPerson 149 = .ok (.iconst 0, 1) := by decide +kernel
theorem dX7_endPerson_150 : decode cX7_endPerson 150 = .ok (.istore 8, 2) := by decide +kernel
theorem dX7_endPerson_152 : decode cX7_endPerson 152 = .ok (.iload 8, 2) := by decide +kernel
theorem dX7_endPerson_154 : decode cX7_endPerson 154 = .ok (.iconst 1, 1) := by decide +kernel
theorem dX7_endPerson_155 : decode cX7_endPerson 155 = .ok (.iadd, 1) := by decide +kernel
theorem dX7_endPerson_156 : decode cX7_endPerson 156 = .ok (.iload_n 3, 1) := by decide +kernel
theorem dX7_endPerson_157 : decode cX7_endPerson 157 = .ok (.if_icmp .ge 32, 3) := by decide +kernel
theorem dX7_endPerson_160 : decode cX7_endPerson 160 = .ok (.aload_n 0, 1) := by decide +kernel
theorem dX7_endPerson_161 : decode cX7_endPerson 161 = .ok (.iload 5, 2) := by decide +kernel
theorem dX7_endPerson_163 : decode cX7_endPerson 163 = .ok (.iload 8, 2) := by decide +kernel
theorem dX7_endPerson_165 : decode cX7_endPerson 165 = .ok (.iadd, 1) := by decide +kernel
theorem dX7_endPerson_166 : decode cX7_endPerson 166 = .ok (.invokevirtual 122, 3) := by decide +kernel
theorem dX7_endPerson_169 : decode cX7_endPerson 169 = .ok (.ifCond .eq 20, 3) := by decide +kernel
theorem dX7_endPerson_172 : decode cX7_endPerson 172 = .ok (.aload_n 0, 1) := by decide +kernel
theorem dX7_endPerson_173 : decode cX7_endPerson 173 = .ok (.getfield 46, 3) := by decide +kernel
theorem dX7_endPerson_176 : decode cX7_endPerson 176 = .ok (.iload 5, 2) := by decide +kernel
theorem dX7_endPerson_178 : decode cX7_endPerson 178 = .ok (.iload 8, 2) := by decide +kernel
theorem dX7_endPerson_180 : decode cX7_endPerson 180 = .ok (.iadd, 1) := by decide +kernel
theorem dX7_endPerson_181 : decode cX7_endPerson 181 = .ok (.iconst 1, 1) := by decide +kernel
theorem dX7_endPerson_182 : decode cX7_endPerson 182 = .ok (.iastore, 1) := by decide +kernel
theorem dX7_endPerson_183 : decode cX7_endPerson 183 = .ok (.iinc 8 1, 3) := by decide +kernel
theorem dX7_endPerson_186 : decode cX7_endPerson 186 = .ok (.goto (-34), 3) := by decide +kernel
theorem dX7_endPerson_189 : decode cX7_endPerson 189 = .ok (.iload 8, 2) := by decide +kernel
theorem dX7_endPerson_191 : decode cX7_endPerson 191 = .ok (.iload 4, 2) := by decide +kernel
theorem dX7_endPerson_193 : decode cX7_endPerson 193 = .ok (.if_icmp .ge 30, 3) := by decide +kernel
theorem dX7_endPerson_196 : decode cX7_endPerson 196 = .ok (.aload_n 0, 1) := by decide +kernel
theorem dX7_endPerson_197 : decode cX7_endPerson 197 = .ok (.getfield 46, 3) := by decide +kernel
theorem dX7_endPerson_200 : decode cX7_endPerson 200 = .ok (.iload 5, 2) := by decide +kernel
theorem dX7_endPerson_202 : decode cX7_endPerson 202 = .ok (.iload 8, 2) := by decide +kernel
theorem dX7_endPerson_204 : decode cX7_endPerson 204 = .ok (.iadd, 1) := by decide +kernel
theorem dX7_endPerson_205 : decode cX7_endPerson 205 = .ok (.iload 8, 2) := by decide +kernel
end
section
theorem dX7_endPerson_207 : decode cX7_endPerson 207 = .ok (.iload_n 3, 1) := by decide +kernel
theorem dX7_endPerson_208 : decode cX7_endPerson 208 = .ok (.if_icmp .ge 7, 3) := by decide +kernel
theorem dX7_endPerson_211 : decode cX7_endPerson 211 = .ok (.iconst 2, 1) := by decide +kernel
theorem dX7_endPerson_212 : decode cX7_endPerson 212 = .ok (.goto 4, 3) := by decide +kernel
theorem dX7_endPerson_215 : decode cX7_endPerson 215 = .ok (.iconst 0, 1) := by decide +kernel
theorem dX7_endPerson_216 : decode cX7_endPerson 216 = .ok (.iastore, 1) := by decide +kernel
theorem dX7_endPerson_217 : decode cX7_endPerson 217 = .ok (.iinc 8 1, 3) := by decide +kernel
theorem dX7_endPerson_220 : decode cX7_endPerson 220 = .ok (.goto (-31), 3) := by decide +kernel
theorem dX7_endPerson_223 : decode cX7_endPerson 223 = .ok (.aload_n 0, 1) := by decide +kernel
theorem dX7_endPerson_224 : decode cX7_endPerson 224 = .ok (.getfield 49, 3) := by decide +kernel
theorem dX7_endPerson_227 : decode cX7_endPerson 227 = .ok (.iload_n 1, 1) := by decide +kernel
theorem dX7_endPerson_228 : decode cX7_endPerson 228 = .ok (.dup2, 1) := by decide +kernel
theorem dX7_endPerson_229 : decode cX7_endPerson 229 = .ok (.iaload, 1) := by decide +kernel
theorem dX7_endPerson_230 : decode cX7_endPerson 230 = .ok (.iconst 1, 1) := by decide +kernel
theorem dX7_endPerson_231 : decode cX7_endPerson 231 = .ok (.iadd, 1) := by decide +kernel
theorem dX7_endPerson_232 : decode cX7_endPerson 232 = .ok (.iastore, 1) := by decide +kernel
theorem dX7_endPerson_233 : decode cX7_endPerson 233 = .ok (.return_, 1) := by decide +kernel
theorem dX7_read_0 : decode cX7_read 0 = .ok (.aload_n 0, 1) := by decide +kernel
theorem dX7_read_1 : decode cX7_read 1 = .ok (.getfield 34, 3) := by decide +kernel
theorem dX7_read_4 : decode cX7_read 4 = .ok (.iload_n 1, 1) := by decide +kernel
theorem dX7_read_5 : decode cX7_read 5 = .ok (.iconst 0, 1) := by decide +kernel
theorem dX7_read_6 : decode cX7_read 6 = .ok (.iastore, 1) := by decide +kernel
theorem dX7_read_7 : decode cX7_read 7 = .ok (.aload_n 0, 1) := by decide +kernel
theorem dX7_read_8 : decode cX7_read 8 = .ok (.getfield 49, 3) := by decide +kernel
theorem dX7_read_11 : decode cX7_read 11 = .ok (.iload_n 1, 1) := by decide +kernel
theorem dX7_read_12 : decode cX7_read 12 = .ok (.iconst 0, 1) := by decide +kernel
theorem dX7_read_13 : decode cX7_read 13 = .ok (.iastore, 1) := by decide +kernel
theorem dX7_read_14 : decode cX7_read 14 = .ok (.aload_n 0, 1) := by decide +kernel
theorem dX7_read_15 : decode cX7_read 15 = .ok (.iload_n 2, 1) := by decide +kernel
theorem dX7_read_16 : decode cX7_read 16 = .ok (.iconst 0, 1) := by decide +kernel
theorem dX7_read_17 : decode cX7_read 17 = .ok (.invokevirtual 125, 3) := by decide +kernel
theorem dX7_read_20 : decode cX7_read 20 = .ok (.istore_n 3, 1) := by decide +kernel
theorem dX7_read_21 : decode cX7_read 21 = .ok (.iload_n 3, 1) := by decide +kernel
theorem dX7_read_22 : decode cX7_read 22 = .ok (.iconst (-1), 1) := by decide +kernel
theorem dX7_read_23 : decode cX7_read 23 = .ok (.if_icmp .ne 7, 3) := by decide +kernel
theorem dX7_read_26 : decode cX7_read 26 = .ok (.iconst 0, 1) := by decide +kernel
theorem dX7_read_27 : decode cX7_read 27 = .ok (.goto 9, 3) := by decide +kernel
theorem dX7_read_30 : decode cX7_read 30 = .ok (.aload_n 0, 1) := by decide +kernel
theorem dX7_read_31 : decode cX7_read 31 = .ok (.getfield 19, 3) := by decide +kernel
theorem dX7_read_34 : decode cX7_read 34 = .ok (.iload_n 3, 1) := by decide +kernel
theorem dX7_read_35 : decode cX7_read 35 = .ok (.iaload, 1) := by decide +kernel
theorem dX7_read_36 : decode cX7_read 36 = .ok (.istore 4, 2) := by decide +kernel
theorem dX7_read_38 : decode cX7_read 38 = .ok (.bipush 80, 2) := by decide +kernel
theorem dX7_read_40 : decode cX7_read 40 = .ok (.iload_n 1, 1) := by decide +kernel
theorem dX7_read_41 : decode cX7_read 41 = .ok (.imul, 1) := by decide +kernel
theorem dX7_read_42 : decode cX7_read 42 = .ok (.istore 5, 2) := by decide +kernel
theorem dX7_read_44 : decode cX7_read 44 = .ok (.iconst 0, 1) := by decide +kernel
theorem dX7_read_45 : decode cX7_read 45 = .ok (.istore 6, 2) := by decide +kernel
theorem dX7_read_47 : decode cX7_read 47 = .ok (.iload 6, 2) := by decide +kernel
theorem dX7_read_49 : decode cX7_read 49 = .ok (.iload 4, 2) := by decide +kernel
theorem dX7_read_51 : decode cX7_read 51 = .ok (.if_icmp .ge 31, 3) := by decide +kernel
theorem dX7_read_54 : decode cX7_read 54 = .ok (.aload_n 0, 1) := by decide +kernel
theorem dX7_read_55 : decode cX7_read 55 = .ok (.getfield 31, 3) := by decide +kernel
theorem dX7_read_58 : decode cX7_read 58 = .ok (.iload 5, 2) := by decide +kernel
theorem dX7_read_60 : decode cX7_read 60 = .ok (.iload 6, 2) := by decide +kernel
theorem dX7_read_62 : decode cX7_read 62 = .ok (.iadd, 1) := by decide +kernel
theorem dX7_read_63 : decode cX7_read 63 = .ok (.aload_n 0, 1) := by decide +kernel
theorem dX7_read_64 : decode cX7_read 64 = .ok (.getfield 22, 3) := by decide +kernel
theorem dX7_read_67 : decode cX7_read 67 = .ok (.bipush 80, 2) := by decide +kernel
theorem dX7_read_69 : decode cX7_read 69 = .ok (.iload_n 3, 1) := by decide +kernel
theorem dX7_read_70 : decode cX7_read 70 = .ok (.imul, 1) := by decide +kernel
theorem dX7_read_71 : decode cX7_read 71 = .ok (.iload 6, 2) := by decide +kernel
theorem dX7_read_73 : decode cX7_read 73 = .ok (.iadd, 1) := by decide +kernel
theorem dX7_read_74 : decode cX7_read 74 = .ok (.iaload, 1) := by decide +kernel
theorem dX7_read_75 : decode cX7_read 75 = .ok (.iastore, 1) := by decide +kernel
theorem dX7_read_76 : decode cX7_read 76 = .ok (.iinc 6 1, 3) := by decide +kernel
theorem dX7_read_79 : decode cX7_read 79 = .ok (.goto (-32), 3) := by decide +kernel
theorem dX7_read_82 : decode cX7_read 82 = .ok (.iconst 0, 1) := by decide +kernel
theorem dX7_read_83 : decode cX7_read 83 = .ok (.istore 6, 2) := by decide +kernel
theorem dX7_read_85 : decode cX7_read 85 = .ok (.iconst (-1), 1) := by decide +kernel
theorem dX7_read_86 : decode cX7_read 86 = .ok (.istore 7, 2) := by decide +kernel
theorem dX7_read_88 : decode cX7_read 88 = .ok (.iconst 0, 1) := by decide +kernel
theorem dX7_read_89 : decode cX7_read 89 = .ok (.istore 8, 2) := by decide +kernel
theorem dX7_read_91 : decode cX7_read 91 = .ok (.iload 8, 2) := by decide +kernel
theorem dX7_read_93 : decode cX7_read 93 = .ok (.iload 4, 2) := by decide +kernel
theorem dX7_read_95 : decode cX7_read 95 = .ok (.if_icmp .ge 268, 3) := by decide +kernel
theorem dX7_read_98 : decode cX7_read 98 = .ok (.aload_n 0, 1) := by decide +kernel
theorem dX7_read_99 : decode cX7_read 99 = .ok (.getfield 31, 3) := by decide +kernel
theorem dX7_read_102 : decode cX7_read 102 = .ok (.iload 5, 2) := by decide +kernel
theorem dX7_read_104 : decode cX7_read 104 = .ok (.iload 8, 2) := by decide +kernel
theorem dX7_read_106 : decode cX7_read 106 = .ok (.iadd, 1) := by decide +kernel
theorem dX7_read_107 : decode cX7_read 107 = .ok (.iaload, 1) := by decide +kernel
theorem dX7_read_108 : decode cX7_read 108 = .ok (.bipush 32, 2) := by decide +kernel
theorem dX7_read_110 : decode cX7_read 110 = .ok (.if_icmp .ne 9, 3) := by decide +kernel
theorem dX7_read_113 : decode cX7_read 113 = .ok (.iinc 8 1, 3) := by decide +kernel
theorem dX7_read_116 : decode cX7_read 116 = .ok (.goto (-25), 3) := by decide +kernel
theorem dX7_read_119 : decode cX7_read 119 = .ok (.iload 8, 2) := by decide +kernel
theorem dX7_read_121 : decode cX7_read 121 = .ok (.istore 9, 2) := by decide +kernel
theorem dX7_read_123 : decode cX7_read 123 = .ok (.iload 9, 2) := by decide +kernel
theorem dX7_read_125 : decode cX7_read 125 = .ok (.iload 4, 2) := by decide +kernel
theorem dX7_read_127 : decode cX7_read 127 = .ok (.if_icmp .ge 24, 3) := by decide +kernel
theorem dX7_read_130 : decode cX7_read 130 = .ok (.aload_n 0, 1) := by decide +kernel
theorem dX7_read_131 : decode cX7_read 131 = .ok (.getfield 31, 3) := by decide +kernel
theorem dX7_read_134 : decode cX7_read 134 = .ok (.iload 5, 2) := by decide +kernel
theorem dX7_read_136 : decode cX7_read 136 = .ok (.iload 9, 2) := by decide +kernel
theorem dX7_read_138 : decode cX7_read 138 = .ok (.iadd, 1) := by decide +kernel
theorem dX7_read_139 : decode cX7_read 139 = .ok (.iaload, 1) := by decide +kernel
theorem dX7_read_140 : decode cX7_read 140 = .ok (.bipush 32, 2) := by decide +kernel
theorem dX7_read_142 : decode cX7_read 142 = .ok (.if_icmp .eq 9, 3) := by decide +kernel
theorem dX7_read_145 : decode cX7_read 145 = .ok (.iinc 9 1, 3) := by decide +kernel
theorem dX7_read_148 : decode cX7_read 148 = .ok (.goto (-25), 3) := by decide +kernel
theorem dX7_read_151 : decode cX7_read 151 = .ok (.iload 9, 2) := by decide +kernel
theorem dX7_read_153 : decode cX7_read 153 = .ok (.iload 8, 2) := by decide +kernel
theorem dX7_read_155 : decode cX7_read 155 = .ok (.iconst 3, 1) := by decide +kernel
theorem dX7_read_156 : decode cX7_read 156 = .ok (.iadd, 1) := by decide +kernel
theorem dX7_read_157 : decode cX7_read 157 = .ok (.if_icmp .ne 56, 3) := by decide +kernel
theorem dX7_read_160 : decode cX7_read 160 = .ok (.aload_n 0, 1) := by decide +kernel
theorem dX7_read_161 : decode cX7_read 161 = .ok (.getfield 31, 3) := by decide +kernel
theorem dX7_read_164 : decode cX7_read 164 = .ok (.iload 5, 2) := by decide +kernel
theorem dX7_read_166 : decode cX7_read 166 = .ok (.iload 8, 2) := by decide +kernel
theorem dX7_read_168 : decode cX7_read 168 = .ok (.iadd, 1) := by decide +kernel
theorem dX7_read_169 : decode cX7_read 169 = .ok (.iaload, 1) := by decide +kernel
theorem dX7_read_170 : decode cX7_read 170 = .ok (.bipush 97, 2) := by decide +kernel
theorem dX7_read_172 : decode cX7_read 172 = .ok (.if_icmp .ne 41, 3) := by decide +kernel
theorem dX7_read_175 : decode cX7_read 175 = .ok (.aload_n 0, 1) := by decide +kernel
theorem dX7_read_176 : decode cX7_read 176 = .ok (.getfield 31, 3) := by decide +kernel
theorem dX7_read_179 : decode cX7_read 179 = .ok (.iload 5, 2) := by decide +kernel
theorem dX7_read_181 : decode cX7_read 181 = .ok (.iload 8, 2) := by decide +kernel
theorem dX7_read_183 : decode cX7_read 183 = .ok (.iadd, 1) := by decide +kernel
theorem dX7_read_184 : decode cX7_read 184 = .ok (.iconst 1, 1) := by decide +kernel
theorem dX7_read_185 : decode cX7_read 185 = .ok (.iadd, 1) := by decide +kernel
theorem dX7_read_186 : decode cX7_read 186 = .ok (.iaload, 1) := by decide +kernel
theorem dX7_read_187 : decode cX7_read 187 = .ok (.bipush 110, 2) := by decide +kernel
theorem dX7_read_189 : decode cX7_read 189 = .ok (.if_icmp .ne 24, 3) := by decide +kernel
theorem dX7_read_192 : decode cX7_read 192 = .ok (.aload_n 0, 1) := by decide +kernel
theorem dX7_read_193 : decode cX7_read 193 = .ok (.getfield 31, 3) := by decide +kernel
theorem dX7_read_196 : decode cX7_read 196 = .ok (.iload 5, 2) := by decide +kernel
theorem dX7_read_198 : decode cX7_read 198 = .ok (.iload 8, 2) := by decide +kernel
theorem dX7_read_200 : decode cX7_read 200 = .ok (.iadd, 1) := by decide +kernel
theorem dX7_read_201 : decode cX7_read 201 = .ok (.iconst 2, 1) := by decide +kernel
theorem dX7_read_202 : decode cX7_read 202 = .ok (.iadd, 1) := by decide +kernel
theorem dX7_read_203 : decode cX7_read 203 = .ok (.iaload, 1) := by decide +kernel
theorem dX7_read_204 : decode cX7_read 204 = .ok (.bipush 100, 2) := by decide +kernel
theorem dX7_read_206 : decode cX7_read 206 = .ok (.if_icmp .ne 7, 3) := by decide +kernel
theorem dX7_read_209 : decode cX7_read 209 = .ok (.iconst 1, 1) := by decide +kernel
theorem dX7_read_210 : decode cX7_read 210 = .ok (.goto 4, 3) := by decide +kernel
theorem dX7_read_213 : decode cX7_read 213 = .ok (.iconst 0, 1) := by decide +kernel
theorem dX7_read_214 : decode cX7_read 214 = .ok (.istore 10, 2) := by decide +kernel
theorem dX7_read_216 : decode cX7_read 216 = .ok (.iload 10, 2) := by decide +kernel
theorem dX7_read_218 : decode cX7_read 218 = .ok (.ifCond .eq 26, 3) := by decide +kernel
theorem dX7_read_221 : decode cX7_read 221 = .ok (.aload_n 0, 1) := by decide +kernel
theorem dX7_read_222 : decode cX7_read 222 = .ok (.iload_n 1, 1) := by decide +kernel
theorem dX7_read_223 : decode cX7_read 223 = .ok (.iload 6, 2) := by decide +kernel
theorem dX7_read_225 : decode cX7_read 225 = .ok (.iload 7, 2) := by decide +kernel
theorem dX7_read_227 : decode cX7_read 227 = .ok (.invokevirtual 129, 3) := by decide +kernel
theorem dX7_read_230 : decode cX7_read 230 = .ok (.aload_n 0, 1) := by decide +kernel
theorem dX7_read_231 : decode cX7_read 231 = .ok (.getfield 34, 3) := by decide +kernel
theorem dX7_read_234 : decode cX7_read 234 = .ok (.iload_n 1, 1) := by decide +kernel
theorem dX7_read_235 : decode cX7_read 235 = .ok (.iaload, 1) := by decide +kernel
theorem dX7_read_236 : decode cX7_read 236 = .ok (.istore 6, 2) := by decide +kernel
theorem dX7_read_238 : decode cX7_read 238 = .ok (.iconst (-1), 1) := by decide +kernel
theorem dX7_read_239 : decode cX7_read 239 = .ok (.istore 7, 2) := by decide +kernel
theorem dX7_read_241 : decode cX7_read 241 = .ok (.goto 115, 3) := by decide +kernel
theorem dX7_read_244 : decode cX7_read 244 = .ok (.iload 8, 2) := by decide +kernel
theorem dX7_read_246 : decode cX7_read 246 = .ok (.istore 11, 2) := by decide +kernel
theorem dX7_read_248 : decode cX7_read 248 = .ok (.iload 8, 2) := by decide +kernel
theorem dX7_read_250 : decode cX7_read 250 = .ok (.istore 12, 2) := by decide +kernel
theorem dX7_read_252 : decode cX7_read 252 = .ok (.iload 12, 2) := by decide +kernel
theorem dX7_read_254 : decode cX7_read 254 = .ok (.iload 9, 2) := by decide +kernel
theorem dX7_read_256 : decode cX7_read 256 = .ok (.if_icmp .gt 100, 3) := by decide +kernel
theorem dX7_read_259 : decode cX7_read 259 = .ok (.iload 12, 2) := by decide +kernel
theorem dX7_read_261 : decode cX7_read 261 = .ok (.iload 9, 2) := by decide +kernel
theorem dX7_read_263 : decode cX7_read 263 = .ok (.if_icmp .ge 22, 3) := by decide +kernel
theorem dX7_read_266 : decode cX7_read 266 = .ok (.aload_n 0, 1) := by decide +kernel
theorem dX7_read_267 : decode cX7_read 267 = .ok (.getfield 31, 3) := by decide +kernel
theorem dX7_read_270 : decode cX7_read 270 = .ok (.iload 5, 2) := by decide +kernel
theorem dX7_read_272 : decode cX7_read 272 = .ok (.iload 12, 2) := by decide +kernel
theorem dX7_read_274 : decode cX7_read 274 = .ok (.iadd, 1) := by decide +kernel
theorem dX7_read_275 : decode cX7_read 275 = .ok (.iaload, 1) := by decide +kernel
theorem dX7_read_276 : decode cX7_read 276 = .ok (.bipush 44, 2) := by decide +kernel
theorem dX7_read_278 : decode cX7_read 278 = .ok (.if_icmp .ne 7, 3) := by decide +kernel
theorem dX7_read_281 : decode cX7_read 281 = .ok (.iconst 1, 1) := by decide +kernel
theorem dX7_read_282 : decode cX7_read 282 = .ok (.goto 4, 3) := by decide +kernel
theorem dX7_read_285 : decode cX7_read 285 = .ok (.iconst 0, 1) := by decide +kernel
theorem dX7_read_286 : decode cX7_read 286 = .ok (.istore 13, 2) := by decide +kernel
theorem dX7_read_288 : decode cX7_read 288 = .ok (.iload 13, 2) := by decide +kernel
theorem dX7_read_290 : decode cX7_read 290 = .ok (.ifCond .ne 10, 3) := by decide +kernel
theorem dX7_read_293 : decode cX7_read 293 = .ok (.iload 12, 2) := by decide +kernel
theorem dX7_read_295 : decode cX7_read 295 = .ok (.iload 9, 2) := by decide +kernel
theorem dX7_read_297 : decode cX7_read 297 = .ok (.if_icmp .ne 31, 3) := by decide +kernel
theorem dX7_read_300 : decode cX7_read 300 = .ok (.iload 12, 2) := by decide +kernel
theorem dX7_read_302 : decode cX7_read 302 = .ok (.iload 11, 2) := by decide +kernel
theorem dX7_read_304 : decode cX7_read 304 = .ok (.if_icmp .le 18, 3) := by decide +kernel
theorem dX7_read_307 : decode cX7_read 307 = .ok (.aload_n 0, 1) := by decide +kernel
theorem dX7_read_308 : decode cX7_read 308 = .ok (.iload_n 1, 1) := by decide +kernel
theorem dX7_read_309 : decode cX7_read 309 = .ok (.iload 5, 2) := by decide +kernel
theorem dX7_read_311 : decode cX7_read 311 = .ok (.iload 11, 2) := by decide +kernel
theorem dX7_read_313 : decode cX7_read 313 = .ok (.iadd, 1) := by decide +kernel
theorem dX7_read_314 : decode cX7_read 314 = .ok (.iload 5, 2) := by decide +kernel
theorem dX7_read_316 : decode cX7_read 316 = .ok (.iload 12, 2) := by decide +kernel
theorem dX7_read_318 : decode cX7_read 318 = .ok (.iadd, 1) := by decide +kernel
theorem dX7_read_319 : decode cX7_read 319 = .ok (.invokevirtual 133, 3) := by decide +kernel
theorem dX7_read_322 : decode cX7_read 322 = .ok (.iload 12, 2) := by decide +kernel
theorem dX7_read_324 : decode cX7_read 324 = .ok (.iconst 1, 1) := by decide +kernel
theorem dX7_read_325 : decode cX7_read 325 = .ok (.iadd, 1) := by decide +kernel
theorem dX7_read_326 : decode cX7_read 326 = .ok (.istore 11, 2) := by decide +kernel
theorem dX7_read_328 : decode cX7_read 328 = .ok (.iload 13, 2) := by decide +kernel
theorem dX7_read_330 : decode cX7_read 330 = .ok (.ifCond .eq 20, 3) := by decide +kernel
theorem dX7_read_333 : decode cX7_read 333 = .ok (.iload 7, 2) := by decide +kernel
theorem dX7_read_335 : decode cX7_read 335 = .ok (.iconst (-1), 1) := by decide +kernel
theorem dX7_read_336 : decode cX7_read 336 = .ok (.if_icmp .ne 14, 3) := by decide +kernel
theorem dX7_read_339 : decode cX7_read 339 = .ok (.aload_n 0, 1) := by decide +kernel
theorem dX7_read_340 : decode cX7_read 340 = .ok (.getfield 34, 3) := by decide +kernel
theorem dX7_read_343 : decode cX7_read 343 = .ok (.iload_n 1, 1) := by decide +kernel
theorem dX7_read_344 : decode cX7_read 344 = .ok (.iaload, 1) := by decide +kernel
theorem dX7_read_345 : decode cX7_read 345 = .ok (.iload 6, 2) := by decide +kernel
theorem dX7_read_347 : decode cX7_read 347 = .ok (.isub, 1) := by decide +kernel
theorem dX7_read_348 : decode cX7_read 348 = .ok (.istore 7, 2) := by decide +kernel
theorem dX7_read_350 : decode cX7_read 350 = .ok (.iinc 12 1, 3) := by decide +kernel
theorem dX7_read_353 : decode cX7_read 353 = .ok (.goto (-101), 3) := by decide +kernel
theorem dX7_read_356 : decode cX7_read 356 = .ok (.iload 9, 2) := by decide +kernel
theorem dX7_read_358 : decode cX7_read 358 = .ok (.istore 8, 2) := by decide +kernel
theorem dX7_read_360 : decode cX7_read 360 = .ok (.goto (-269), 3) := by decide +kernel
theorem dX7_read_363 : decode cX7_read 363 = .ok (.aload_n 0, 1) := by decide +kernel
theorem dX7_read_364 : decode cX7_read 364 = .ok (.iload_n 1, 1) := by decide +kernel
theorem dX7_read_365 : decode cX7_read 365 = .ok (.iload 6, 2) := by decide +kernel
theorem dX7_read_367 : decode cX7_read 367 = .ok (.iload 7, 2) := by decide +kernel
theorem dX7_read_369 : decode cX7_read 369 = .ok (.invokevirtual 129, 3) := by decide +kernel
theorem dX7_read_372 : decode cX7_read 372 = .ok (.return_, 1) := by decide +kernel
theorem dX7_put_0 : decode cX7_put 0 = .ok (.aload_n 0, 1) := by decide +kernel
theorem dX7_put_1 : decode cX7_put 1 = .ok (.getfield 52, 3) := by decide +kernel
theorem dX7_put_4 : decode cX7_put 4 = .ok (.aload_n 0, 1) := by decide +kernel
theorem dX7_put_5 : decode cX7_put 5 = .ok (.getfield 136, 3) := by decide +kernel
theorem dX7_put_8 : decode cX7_put 8 = .ok (.iload_n 1, 1) := by decide +kernel
theorem dX7_put_9 : decode cX7_put 9 = .ok (.iastore, 1) := by decide +kernel
theorem dX7_put_10 : decode cX7_put 10 = .ok (.aload_n 0, 1) := by decide +kernel
theorem dX7_put_11 : decode cX7_put 11 = .ok (.dup, 1) := by decide +kernel
theorem dX7_put_12 : decode cX7_put 12 = .ok (.getfield 136, 3) := by decide +kernel
theorem dX7_put_15 : decode cX7_put 15 = .ok (.iconst 1, 1) := by decide +kernel
theorem dX7_put_16 : decode cX7_put 16 = .ok (.iadd, 1) := by decide +kernel
theorem dX7_put_17 : decode cX7_put 17 = .ok (.putfield 136, 3) := by decide +kernel
theorem dX7_put_20 : decode cX7_put 20 = .ok (.return_, 1) := by decide +kernel
theorem dX7_say_0 : decode cX7_say 0 = .ok (.lload_n 1, 1) := by decide +kernel
theorem dX7_say_1 : decode cX7_say 1 = .ok (.lstore_n 3, 1) := by decide +kernel
theorem dX7_say_2 : decode cX7_say 2 = .ok (.lload_n 3, 1) := by decide +kernel
theorem dX7_say_3 : decode cX7_say 3 = .ok (.lconst 0, 1) := by decide +kernel
theorem dX7_say_4 : decode cX7_say 4 = .ok (.lcmp, 1) := by decide +kernel
theorem dX7_say_5 : decode cX7_say 5 = .ok (.ifCond .eq 22, 3) := by decide +kernel
theorem dX7_say_8 : decode cX7_say 8 = .ok (.aload_n 0, 1) := by decide +kernel
theorem dX7_say_9 : decode cX7_say 9 = .ok (.lload_n 3, 1) := by decide +kernel
theorem dX7_say_10 : decode cX7_say 10 = .ok (.ldc2_w 139, 3) := by decide +kernel
theorem dX7_say_13 : decode cX7_say 13 = .ok (.lrem, 1) := by decide +kernel
theorem dX7_say_14 : decode cX7_say 14 = .ok (.l2i, 1) := by decide +kernel
theorem dX7_say_15 : decode cX7_say 15 = .ok (.invokevirtual 141, 3) := by decide +kernel
theorem dX7_say_18 : decode cX7_say 18 = .ok (.lload_n 3, 1) := by decide +kernel
theorem dX7_say_19 : decode cX7_say 19 = .ok (.ldc2_w 139, 3) := by decide +kernel
theorem dX7_say_22 : decode cX7_say 22 = .ok (.ldiv, 1) := by decide +kernel
theorem dX7_say_23 : decode cX7_say 23 = .ok (.lstore_n 3, 1) := by decide +kernel
theorem dX7_say_24 : decode cX7_say 24 = .ok (.goto (-22), 3) := by decide +kernel
theorem dX7_say_27 : decode cX7_say 27 = .ok (.return_, 1) := by decide +kernel
theorem dX7_putField_0 : decode cX7_putField 0 = .ok (.iconst 0, 1) := by decide +kernel
theorem dX7_putField_1 : decode cX7_putField 1 = .ok (.istore_n 2, 1) := by decide +kernel
theorem dX7_putField_2 : decode cX7_putField 2 = .ok (.iload_n 1, 1) := by decide +kernel
theorem dX7_putField_3 : decode cX7_putField 3 = .ok (.iconst (-1), 1) := by decide +kernel
theorem dX7_putField_4 : decode cX7_putField 4 = .ok (.if_icmp .eq 34, 3) := by decide +kernel
theorem dX7_putField_7 : decode cX7_putField 7 = .ok (.iload_n 2, 1) := by decide +kernel
theorem dX7_putField_8 : decode cX7_putField 8 = .ok (.aload_n 0, 1) := by decide +kernel
theorem dX7_putField_9 : decode cX7_putField 9 = .ok (.getfield 19, 3) := by decide +kernel
theorem dX7_putField_12 : decode cX7_putField 12 = .ok (.iload_n 1, 1) := by decide +kernel
theorem dX7_putField_13 : decode cX7_putField 13 = .ok (.iaload, 1) := by decide +kernel
theorem dX7_putField_14 : decode cX7_putField 14 = .ok (.if_icmp .ge 24, 3) := by decide +kernel
theorem dX7_putField_17 : decode cX7_putField 17 = .ok (.aload_n 0, 1) := by decide +kernel
theorem dX7_putField_18 : decode cX7_putField 18 = .ok (.aload_n 0, 1) := by decide +kernel
theorem dX7_putField_19 : decode cX7_putField 19 = .ok (.getfield 22, 3) := by decide +kernel
theorem dX7_putField_22 : decode cX7_putField 22 = .ok (.bipush 80, 2) := by decide +kernel
theorem dX7_putField_24 : decode cX7_putField 24 = .ok (.iload_n 1, 1) := by decide +kernel
theorem dX7_putField_25 : decode cX7_putField 25 = .ok (.imul, 1) := by decide +kernel
theorem dX7_putField_26 : decode cX7_putField 26 = .ok (.iload_n 2, 1) := by decide +kernel
theorem dX7_putField_27 : decode cX7_putField 27 = .ok (.iadd, 1) := by decide +kernel
theorem dX7_putField_28 : decode cX7_putField 28 = .ok (.iaload, 1) := by decide +kernel
theorem dX7_putField_29 : decode cX7_putField 29 = .ok (.invokevirtual 141, 3) := by decide +kernel
theorem dX7_putField_32 : decode cX7_putField 32 = .ok (.iinc 2 1, 3) := by decide +kernel
theorem dX7_putField_35 : decode cX7_putField 35 = .ok (.goto (-33), 3) := by decide +kernel
theorem dX7_putField_38 : decode cX7_putField 38 = .ok (.return_, 1) := by decide +kernel
theorem dX7_putKey_0 : decode cX7_putKey 0 = .ok (.iconst 0, 1) := by decide +kernel
theorem dX7_putKey_1 : decode cX7_putKey 1 = .ok (.istore_n 3, 1) := by decide +kernel
theorem dX7_putKey_2 : decode cX7_putKey 2 = .ok (.iload_n 3, 1) := by decide +kernel
theorem dX7_putKey_3 : decode cX7_putKey 3 = .ok (.aload_n 0, 1) := by decide +kernel
theorem dX7_putKey_4 : decode cX7_putKey 4 = .ok (.getfield 13, 3) := by decide +kernel
theorem dX7_putKey_7 : decode cX7_putKey 7 = .ok (.iload_n 1, 1) := by decide +kernel
theorem dX7_putKey_8 : decode cX7_putKey 8 = .ok (.iaload, 1) := by decide +kernel
theorem dX7_putKey_9 : decode cX7_putKey 9 = .ok (.if_icmp .ge 29, 3) := by decide +kernel
theorem dX7_putKey_12 : decode cX7_putKey 12 = .ok (.iload_n 3, 1) := by decide +kernel
theorem dX7_putKey_13 : decode cX7_putKey 13 = .ok (.iload_n 2, 1) := by decide +kernel
theorem dX7_putKey_14 : decode cX7_putKey 14 = .ok (.if_icmp .ge 24, 3) := by decide +kernel
theorem dX7_putKey_17 : decode cX7_putKey 17 = .ok (.aload_n 0, 1) := by decide +kernel
theorem dX7_putKey_18 : decode cX7_putKey 18 = .ok (.aload_n 0, 1) := by decide +kernel
theorem dX7_putKey_19 : decode cX7_putKey 19 = .ok (.getfield 16, 3) := by decide +kernel
theorem dX7_putKey_22 : decode cX7_putKey 22 = .ok (.bipush 16, 2) := by decide +kernel
theorem dX7_putKey_24 : decode cX7_putKey 24 = .ok (.iload_n 1, 1) := by decide +kernel
theorem dX7_putKey_25 : decode cX7_putKey 25 = .ok (.imul, 1) := by decide +kernel
theorem dX7_putKey_26 : decode cX7_putKey 26 = .ok (.iload_n 3, 1) := by decide +kernel
theorem dX7_putKey_27 : decode cX7_putKey 27 = .ok (.iadd, 1) := by decide +kernel
theorem dX7_putKey_28 : decode cX7_putKey 28 = .ok (.iaload, 1) := by decide +kernel
theorem dX7_putKey_29 : decode cX7_putKey 29 = .ok (.invokevirtual 141, 3) := by decide +kernel
theorem dX7_putKey_32 : decode cX7_putKey 32 = .ok (.iinc 3 1, 3) := by decide +kernel
theorem dX7_putKey_35 : decode cX7_putKey 35 = .ok (.goto (-33), 3) := by decide +kernel
theorem dX7_putKey_38 : decode cX7_putKey 38 = .ok (.return_, 1) := by decide +kernel
theorem dX7_putWords_0 : decode cX7_putWords 0 = .ok (.aload_n 0, 1) := by decide +kernel
theorem dX7_putWords_1 : decode cX7_putWords 1 = .ok (.getfield 136, 3) := by decide +kernel
theorem dX7_putWords_4 : decode cX7_putWords 4 = .ok (.istore 5, 2) := by decide +kernel
theorem dX7_putWords_6 : decode cX7_putWords 6 = .ok (.iconst 0, 1) := by decide +kernel
theorem dX7_putWords_7 : decode cX7_putWords 7 = .ok (.istore 6, 2) := by decide +kernel
theorem dX7_putWords_9 : decode cX7_putWords 9 = .ok (.bipush 64, 2) := by decide +kernel
theorem dX7_putWords_11 : decode cX7_putWords 11 = .ok (.iload_n 1, 1) := by decide +kernel
theorem dX7_putWords_12 : decode cX7_putWords 12 = .ok (.imul, 1) := by decide +kernel
theorem dX7_putWords_13 : decode cX7_putWords 13 = .ok (.istore 7, 2) := by decide +kernel
theorem dX7_putWords_15 : decode cX7_putWords 15 = .ok (.iload 7, 2) := by decide +kernel
theorem dX7_putWords_17 : decode cX7_putWords 17 = .ok (.bipush 64, 2) := by decide +kernel
theorem dX7_putWords_19 : decode cX7_putWords 19 = .ok (.iload_n 1, 1) := by decide +kernel
theorem dX7_putWords_20 : decode cX7_putWords 20 = .ok (.imul, 1) := by decide +kernel
theorem dX7_putWords_21 : decode cX7_putWords 21 = .ok (.aload_n 0, 1) := by decide +kernel
theorem dX7_putWords_22 : decode cX7_putWords 22 = .ok (.getfield 34, 3) := by decide +kernel
theorem dX7_putWords_25 : decode cX7_putWords 25 = .ok (.iload_n 1, 1) := by decide +kernel
theorem dX7_putWords_26 : decode cX7_putWords 26 = .ok (.iaload, 1) := by decide +kernel
theorem dX7_putWords_27 : decode cX7_putWords 27 = .ok (.iadd, 1) := by decide +kernel
theorem dX7_putWords_28 : decode cX7_putWords 28 = .ok (.if_icmp .ge 83, 3) := by decide +kernel
theorem dX7_putWords_31 : decode cX7_putWords 31 = .ok (.aload_n 0, 1) := by decide +kernel
theorem dX7_putWords_32 : decode cX7_putWords 32 = .ok (.getfield 43, 3) := by decide +kernel
theorem dX7_putWords_35 : decode cX7_putWords 35 = .ok (.iload 7, 2) := by decide +kernel
theorem dX7_putWords_37 : decode cX7_putWords 37 = .ok (.iaload, 1) := by decide +kernel
theorem dX7_putWords_38 : decode cX7_putWords 38 = .ok (.iload_n 2, 1) := by decide +kernel
theorem dX7_putWords_39 : decode cX7_putWords 39 = .ok (.if_icmp .ne 66, 3) := by decide +kernel
theorem dX7_putWords_42 : decode cX7_putWords 42 = .ok (.aload_n 0, 1) := by decide +kernel
theorem dX7_putWords_43 : decode cX7_putWords 43 = .ok (.getfield 46, 3) := by decide +kernel
theorem dX7_putWords_46 : decode cX7_putWords 46 = .ok (.iload 7, 2) := by decide +kernel
theorem dX7_putWords_48 : decode cX7_putWords 48 = .ok (.iaload, 1) := by decide +kernel
theorem dX7_putWords_49 : decode cX7_putWords 49 = .ok (.iload_n 3, 1) := by decide +kernel
theorem dX7_putWords_50 : decode cX7_putWords 50 = .ok (.if_icmp .ne 55, 3) := by decide +kernel
theorem dX7_putWords_53 : decode cX7_putWords 53 = .ok (.iload 6, 2) := by decide +kernel
theorem dX7_putWords_55 : decode cX7_putWords 55 = .ok (.ifCond .eq 9, 3) := by decide +kernel
theorem dX7_putWords_58 : decode cX7_putWords 58 = .ok (.aload_n 0, 1) := by decide +kernel
theorem dX7_putWords_59 : decode cX7_putWords 59 = .ok (.bipush 32, 2) := by decide +kernel
theorem dX7_putWords_61 : decode cX7_putWords 61 = .ok (.invokevirtual 141, 3) := by decide +kernel
theorem dX7_putWords_64 : decode cX7_putWords 64 = .ok (.iconst 1, 1) := by decide +kernel
theorem dX7_putWords_65 : decode cX7_putWords 65 = .ok (.istore 6, 2) := by decide +kernel
theorem dX7_putWords_67 : decode cX7_putWords 67 = .ok (.aload_n 0, 1) := by decide +kernel
theorem dX7_putWords_68 : decode cX7_putWords 68 = .ok (.getfield 37, 3) := by decide +kernel
theorem dX7_putWords_71 : decode cX7_putWords 71 = .ok (.iload 7, 2) := by decide +kernel
theorem dX7_putWords_73 : decode cX7_putWords 73 = .ok (.iaload, 1) := by decide +kernel
theorem dX7_putWords_74 : decode cX7_putWords 74 = .ok (.istore 8, 2) := by decide +kernel
theorem dX7_putWords_76 : decode cX7_putWords 76 = .ok (.iload 8, 2) := by decide +kernel
theorem dX7_putWords_78 : decode cX7_putWords 78 = .ok (.aload_n 0, 1) := by decide +kernel
theorem dX7_putWords_79 : decode cX7_putWords 79 = .ok (.getfield 40, 3) := by decide +kernel
theorem dX7_putWords_82 : decode cX7_putWords 82 = .ok (.iload 7, 2) := by decide +kernel
theorem dX7_putWords_84 : decode cX7_putWords 84 = .ok (.iaload, 1) := by decide +kernel
theorem dX7_putWords_85 : decode cX7_putWords 85 = .ok (.if_icmp .ge 20, 3) := by decide +kernel
theorem dX7_putWords_88 : decode cX7_putWords 88 = .ok (.aload_n 0, 1) := by decide +kernel
theorem dX7_putWords_89 : decode cX7_putWords 89 = .ok (.aload_n 0, 1) := by decide +kernel
theorem dX7_putWords_90 : decode cX7_putWords 90 = .ok (.getfield 31, 3) := by decide +kernel
theorem dX7_putWords_93 : decode cX7_putWords 93 = .ok (.iload 8, 2) := by decide +kernel
theorem dX7_putWords_95 : decode cX7_putWords 95 = .ok (.iaload, 1) := by decide +kernel
theorem dX7_putWords_96 : decode cX7_putWords 96 = .ok (.invokevirtual 141, 3) := by decide +kernel
theorem dX7_putWords_99 : decode cX7_putWords 99 = .ok (.iinc 8 1, 3) := by decide +kernel
theorem dX7_putWords_102 : decode cX7_putWords 102 = .ok (.goto (-26), 3) := by decide +kernel
theorem dX7_putWords_105 : decode cX7_putWords 105 = .ok (.iinc 7 1, 3) := by decide +kernel
theorem dX7_putWords_108 : decode cX7_putWords 108 = .ok (.goto (-93), 3) := by decide +kernel
theorem dX7_putWords_111 : decode cX7_putWords 111 = .ok (.aload_n 0, 1) := by decide +kernel
theorem dX7_putWords_112 : decode cX7_putWords 112 = .ok (.aload_n 0, 1) := by decide +kernel
theorem dX7_putWords_113 : decode cX7_putWords 113 = .ok (.getfield 136, 3) := by decide +kernel
theorem dX7_putWords_116 : decode cX7_putWords 116 = .ok (.iload 5, 2) := by decide +kernel
theorem dX7_putWords_118 : decode cX7_putWords 118 = .ok (.isub, 1) := by decide +kernel
theorem dX7_putWords_119 : decode cX7_putWords 119 = .ok (.iload 4, 2) := by decide +kernel
theorem dX7_putWords_121 : decode cX7_putWords 121 = .ok (.if_icmp .le 11, 3) := by decide +kernel
theorem dX7_putWords_124 : decode cX7_putWords 124 = .ok (.iload 5, 2) := by decide +kernel
theorem dX7_putWords_126 : decode cX7_putWords 126 = .ok (.iload 4, 2) := by decide +kernel
theorem dX7_putWords_128 : decode cX7_putWords 128 = .ok (.iadd, 1) := by decide +kernel
theorem dX7_putWords_129 : decode cX7_putWords 129 = .ok (.goto 7, 3) := by decide +kernel
theorem dX7_putWords_132 : decode cX7_putWords 132 = .ok (.aload_n 0, 1) := by decide +kernel
theorem dX7_putWords_133 : decode cX7_putWords 133 = .ok (.getfield 136, 3) := by decide +kernel
theorem dX7_putWords_136 : decode cX7_putWords 136 = .ok (.putfield 136, 3) := by decide +kernel
theorem dX7_putWords_139 : decode cX7_putWords 139 = .ok (.return_, 1) := by decide +kernel
theorem dX7_has_0 : decode cX7_has 0 = .ok (.iconst 0, 1) := by decide +kernel
theorem dX7_has_1 : decode cX7_has 1 = .ok (.istore 4, 2) := by decide +kernel
theorem dX7_has_3 : decode cX7_has 3 = .ok (.bipush 64, 2) := by decide +kernel
theorem dX7_has_5 : decode cX7_has 5 = .ok (.iload_n 1, 1) := by decide +kernel
theorem dX7_has_6 : decode cX7_has 6 = .ok (.imul, 1) := by decide +kernel
theorem dX7_has_7 : decode cX7_has 7 = .ok (.istore 5, 2) := by decide +kernel
theorem dX7_has_9 : decode cX7_has 9 = .ok (.iload 5, 2) := by decide +kernel
theorem dX7_has_11 : decode cX7_has 11 = .ok (.bipush 64, 2) := by decide +kernel
theorem dX7_has_13 : decode cX7_has 13 = .ok (.iload_n 1, 1) := by decide +kernel
theorem dX7_has_14 : decode cX7_has 14 = .ok (.imul, 1) := by decide +kernel
theorem dX7_has_15 : decode cX7_has 15 = .ok (.aload_n 0, 1) := by decide +kernel
theorem dX7_has_16 : decode cX7_has 16 = .ok (.getfield 34, 3) := by decide +kernel
theorem dX7_has_19 : decode cX7_has 19 = .ok (.iload_n 1, 1) := by decide +kernel
theorem dX7_has_20 : decode cX7_has 20 = .ok (.iaload, 1) := by decide +kernel
theorem dX7_has_21 : decode cX7_has 21 = .ok (.iadd, 1) := by decide +kernel
theorem dX7_has_22 : decode cX7_has 22 = .ok (.if_icmp .ge 43, 3) := by decide +kernel
theorem dX7_has_25 : decode cX7_has 25 = .ok (.iload 4, 2) := by decide +kernel
theorem dX7_has_27 : decode cX7_has 27 = .ok (.ifCond .ne 25, 3) := by decide +kernel
theorem dX7_has_30 : decode cX7_has 30 = .ok (.aload_n 0, 1) := by decide +kernel
theorem dX7_has_31 : decode cX7_has 31 = .ok (.getfield 43, 3) := by decide +kernel
theorem dX7_has_34 : decode cX7_has 34 = .ok (.iload 5, 2) := by decide +kernel
theorem dX7_has_36 : decode cX7_has 36 = .ok (.iaload, 1) := by decide +kernel
theorem dX7_has_37 : decode cX7_has 37 = .ok (.iload_n 2, 1) := by decide +kernel
theorem dX7_has_38 : decode cX7_has 38 = .ok (.if_icmp .ne 18, 3) := by decide +kernel
theorem dX7_has_41 : decode cX7_has 41 = .ok (.aload_n 0, 1) := by decide +kernel
theorem dX7_has_42 : decode cX7_has 42 = .ok (.getfield 46, 3) := by decide +kernel
theorem dX7_has_45 : decode cX7_has 45 = .ok (.iload 5, 2) := by decide +kernel
theorem dX7_has_47 : decode cX7_has 47 = .ok (.iaload, 1) := by decide +kernel
theorem dX7_has_48 : decode cX7_has 48 = .ok (.iload_n 3, 1) := by decide +kernel
theorem dX7_has_49 : decode cX7_has 49 = .ok (.if_icmp .ne 7, 3) := by decide +kernel
theorem dX7_has_52 : decode cX7_has 52 = .ok (.iconst 1, 1) := by decide +kernel
theorem dX7_has_53 : decode cX7_has 53 = .ok (.goto 4, 3) := by decide +kernel
theorem dX7_has_56 : decode cX7_has 56 = .ok (.iconst 0, 1) := by decide +kernel
theorem dX7_has_57 : decode cX7_has 57 = .ok (.istore 4, 2) := by decide +kernel
theorem dX7_has_59 : decode cX7_has 59 = .ok (.iinc 5 1, 3) := by decide +kernel
theorem dX7_has_62 : decode cX7_has 62 = .ok (.goto (-53), 3) := by decide +kernel
theorem dX7_has_65 : decode cX7_has 65 = .ok (.iload 4, 2) := by decide +kernel
theorem dX7_has_67 : decode cX7_has 67 = .ok (.ireturn, 1) := by decide +kernel
theorem dX7_putName_0 : decode cX7_putName 0 = .ok (.aload_n 0, 1) := by decide +kernel
theorem dX7_putName_1 : decode cX7_putName 1 = .ok (.iload_n 1, 1) := by decide +kernel
theorem dX7_putName_2 : decode cX7_putName 2 = .ok (.iload_n 2, 1) := by decide +kernel
theorem dX7_putName_3 : decode cX7_putName 3 = .ok (.iconst 1, 1) := by decide +kernel
theorem dX7_putName_4 : decode cX7_putName 4 = .ok (.sipush 1000, 3) := by decide +kernel
theorem dX7_putName_7 : decode cX7_putName 7 = .ok (.invokevirtual 145, 3) := by decide +kernel
theorem dX7_putName_10 : decode cX7_putName 10 = .ok (.aload_n 0, 1) := by decide +kernel
theorem dX7_putName_11 : decode cX7_putName 11 = .ok (.iload_n 1, 1) := by decide +kernel
theorem dX7_putName_12 : decode cX7_putName 12 = .ok (.iload_n 2, 1) := by decide +kernel
theorem dX7_putName_13 : decode cX7_putName 13 = .ok (.iconst 1, 1) := by decide +kernel
theorem dX7_putName_14 : decode cX7_putName 14 = .ok (.invokevirtual 149, 3) := by decide +kernel
theorem dX7_putName_17 : decode cX7_putName 17 = .ok (.ifCond .eq 19, 3) := by decide +kernel
theorem dX7_putName_20 : decode cX7_putName 20 = .ok (.aload_n 0, 1) := by decide +kernel
theorem dX7_putName_21 : decode cX7_putName 21 = .ok (.iload_n 1, 1) := by decide +kernel
theorem dX7_putName_22 : decode cX7_putName 22 = .ok (.iload_n 2, 1) := by decide +kernel
theorem dX7_putName_23 : decode cX7_putName 23 = .ok (.iconst 2, 1) := by decide +kernel
theorem dX7_putName_24 : decode cX7_putName 24 = .ok (.invokevirtual 149, 3) := by decide +kernel
theorem dX7_putName_27 : decode cX7_putName 27 = .ok (.ifCond .eq 9, 3) := by decide +kernel
theorem dX7_putName_30 : decode cX7_putName 30 = .ok (.aload_n 0, 1) := by decide +kernel
theorem dX7_putName_31 : decode cX7_putName 31 = .ok (.bipush 32, 2) := by decide +kernel
theorem dX7_putName_33 : decode cX7_putName 33 = .ok (.invokevirtual 141, 3) := by decide +kernel
theorem dX7_putName_36 : decode cX7_putName 36 = .ok (.aload_n 0, 1) := by decide +kernel
theorem dX7_putName_37 : decode cX7_putName 37 = .ok (.iload_n 1, 1) := by decide +kernel
theorem dX7_putName_38 : decode cX7_putName 38 = .ok (.iload_n 2, 1) := by decide +kernel
theorem dX7_putName_39 : decode cX7_putName 39 = .ok (.iconst 2, 1) := by decide +kernel
theorem dX7_putName_40 : decode cX7_putName 40 = .ok (.sipush 1000, 3) := by decide +kernel
theorem dX7_putName_43 : decode cX7_putName 43 = .ok (.invokevirtual 145, 3) := by decide +kernel
theorem dX7_putName_46 : decode cX7_putName 46 = .ok (.return_, 1) := by decide +kernel
theorem dX7_putInitials_0 : decode cX7_putInitials 0 = .ok (.iconst 0, 1) := by decide +kernel
theorem dX7_putInitials_1 : decode cX7_putInitials 1 = .ok (.istore_n 3, 1) := by decide +kernel
theorem dX7_putInitials_2 : decode cX7_putInitials 2 = .ok (.bipush 64, 2) := by decide +kernel
theorem dX7_putInitials_4 : decode cX7_putInitials 4 = .ok (.iload_n 1, 1) := by decide +kernel
theorem dX7_putInitials_5 : decode cX7_putInitials 5 = .ok (.imul, 1) := by decide +kernel
theorem dX7_putInitials_6 : decode cX7_putInitials 6 = .ok (.istore 4, 2) := by decide +kernel
theorem dX7_putInitials_8 : decode cX7_putInitials 8 = .ok (.iload 4, 2) := by decide +kernel
theorem dX7_putInitials_10 : decode cX7_putInitials 10 = .ok (.bipush 64, 2) := by decide +kernel
theorem dX7_putInitials_12 : decode cX7_putInitials 12 = .ok (.iload_n 1, 1) := by decide +kernel
theorem dX7_putInitials_13 : decode cX7_putInitials 13 = .ok (.imul, 1) := by decide +kernel
theorem dX7_putInitials_14 : decode cX7_putInitials 14 = .ok (.aload_n 0, 1) := by decide +kernel
theorem dX7_putInitials_15 : decode cX7_putInitials 15 = .ok (.getfield 34, 3) := by decide +kernel
theorem dX7_putInitials_18 : decode cX7_putInitials 18 = .ok (.iload_n 1, 1) := by decide +kernel
theorem dX7_putInitials_19 : decode cX7_putInitials 19 = .ok (.iaload, 1) := by decide +kernel
theorem dX7_putInitials_20 : decode cX7_putInitials 20 = .ok (.iadd, 1) := by decide +kernel
theorem dX7_putInitials_21 : decode cX7_putInitials 21 = .ok (.if_icmp .ge 64, 3) := by decide +kernel
theorem dX7_putInitials_24 : decode cX7_putInitials 24 = .ok (.aload_n 0, 1) := by decide +kernel
theorem dX7_putInitials_25 : decode cX7_putInitials 25 = .ok (.getfield 43, 3) := by decide +kernel
theorem dX7_putInitials_28 : decode cX7_putInitials 28 = .ok (.iload 4, 2) := by decide +kernel
theorem dX7_putInitials_30 : decode cX7_putInitials 30 = .ok (.iaload, 1) := by decide +kernel
theorem dX7_putInitials_31 : decode cX7_putInitials 31 = .ok (.iload_n 2, 1) := by decide +kernel
theorem dX7_putInitials_32 : decode cX7_putInitials 32 = .ok (.if_icmp .ne 47, 3) := by decide +kernel
theorem dX7_putInitials_35 : decode cX7_putInitials 35 = .ok (.aload_n 0, 1) := by decide +kernel
theorem dX7_putInitials_36 : decode cX7_putInitials 36 = .ok (.getfield 46, 3) := by decide +kernel
theorem dX7_putInitials_39 : decode cX7_putInitials 39 = .ok (.iload 4, 2) := by decide +kernel
theorem dX7_putInitials_41 : decode cX7_putInitials 41 = .ok (.iaload, 1) := by decide +kernel
theorem dX7_putInitials_42 : decode cX7_putInitials 42 = .ok (.ifCond .ne 37, 3) := by decide +kernel
theorem dX7_putInitials_45 : decode cX7_putInitials 45 = .ok (.iload_n 3, 1) := by decide +kernel
theorem dX7_putInitials_46 : decode cX7_putInitials 46 = .ok (.ifCond .eq 9, 3) := by decide +kernel
theorem dX7_putInitials_49 : decode cX7_putInitials 49 = .ok (.aload_n 0, 1) := by decide +kernel
theorem dX7_putInitials_50 : decode cX7_putInitials 50 = .ok (.bipush 32, 2) := by decide +kernel
theorem dX7_putInitials_52 : decode cX7_putInitials 52 = .ok (.invokevirtual 141, 3) := by decide +kernel
theorem dX7_putInitials_55 : decode cX7_putInitials 55 = .ok (.iconst 1, 1) := by decide +kernel
theorem dX7_putInitials_56 : decode cX7_putInitials 56 = .ok (.istore_n 3, 1) := by decide +kernel
theorem dX7_putInitials_57 : decode cX7_putInitials 57 = .ok (.aload_n 0, 1) := by decide +kernel
theorem dX7_putInitials_58 : decode cX7_putInitials 58 = .ok (.aload_n 0, 1) := by decide +kernel
theorem dX7_putInitials_59 : decode cX7_putInitials 59 = .ok (.getfield 31, 3) := by decide +kernel
theorem dX7_putInitials_62 : decode cX7_putInitials 62 = .ok (.aload_n 0, 1) := by decide +kernel
theorem dX7_putInitials_63 : decode cX7_putInitials 63 = .ok (.getfield 37, 3) := by decide +kernel
theorem dX7_putInitials_66 : decode cX7_putInitials 66 = .ok (.iload 4, 2) := by decide +kernel
theorem dX7_putInitials_68 : decode cX7_putInitials 68 = .ok (.iaload, 1) := by decide +kernel
theorem dX7_putInitials_69 : decode cX7_putInitials 69 = .ok (.iaload, 1) := by decide +kernel
theorem dX7_putInitials_70 : decode cX7_putInitials 70 = .ok (.invokevirtual 141, 3) := by decide +kernel
theorem dX7_putInitials_73 : decode cX7_putInitials 73 = .ok (.aload_n 0, 1) := by decide +kernel
theorem dX7_putInitials_74 : decode cX7_putInitials 74 = .ok (.bipush 46, 2) := by decide +kernel
theorem dX7_putInitials_76 : decode cX7_putInitials 76 = .ok (.invokevirtual 141, 3) := by decide +kernel
theorem dX7_putInitials_79 : decode cX7_putInitials 79 = .ok (.iinc 4 1, 3) := by decide +kernel
theorem dX7_putInitials_82 : decode cX7_putInitials 82 = .ok (.goto (-74), 3) := by decide +kernel
theorem dX7_putInitials_85 : decode cX7_putInitials 85 = .ok (.return_, 1) := by decide +kernel
theorem dX7_turn_0 : decode cX7_turn 0 = .ok (.aload_n 0, 1) := by decide +kernel
theorem dX7_turn_1 : decode cX7_turn 1 = .ok (.aload_n 0, 1) := by decide +kernel
theorem dX7_turn_2 : decode cX7_turn 2 = .ok (.getfield 136, 3) := by decide +kernel
theorem dX7_turn_5 : decode cX7_turn 5 = .ok (.putfield 153, 3) := by decide +kernel
theorem dX7_turn_8 : decode cX7_turn 8 = .ok (.iconst 0, 1) := by decide +kernel
theorem dX7_turn_9 : decode cX7_turn 9 = .ok (.istore_n 1, 1) := by decide +kernel
theorem dX7_turn_10 : decode cX7_turn 10 = .ok (.iload_n 1, 1) := by decide +kernel
theorem dX7_turn_11 : decode cX7_turn 11 = .ok (.aload_n 0, 1) := by decide +kernel
theorem dX7_turn_12 : decode cX7_turn 12 = .ok (.getfield 136, 3) := by decide +kernel
theorem dX7_turn_15 : decode cX7_turn 15 = .ok (.if_icmp .ge 21, 3) := by decide +kernel
theorem dX7_turn_18 : decode cX7_turn 18 = .ok (.aload_n 0, 1) := by decide +kernel
theorem dX7_turn_19 : decode cX7_turn 19 = .ok (.getfield 55, 3) := by decide +kernel
theorem dX7_turn_22 : decode cX7_turn 22 = .ok (.iload_n 1, 1) := by decide +kernel
theorem dX7_turn_23 : decode cX7_turn 23 = .ok (.aload_n 0, 1) := by decide +kernel
theorem dX7_turn_24 : decode cX7_turn 24 = .ok (.getfield 52, 3) := by decide +kernel
theorem dX7_turn_27 : decode cX7_turn 27 = .ok (.iload_n 1, 1) := by decide +kernel
theorem dX7_turn_28 : decode cX7_turn 28 = .ok (.iaload, 1) := by decide +kernel
theorem dX7_turn_29 : decode cX7_turn 29 = .ok (.iastore, 1) := by decide +kernel
theorem dX7_turn_30 : decode cX7_turn 30 = .ok (.iinc 1 1, 3) := by decide +kernel
theorem dX7_turn_33 : decode cX7_turn 33 = .ok (.goto (-23), 3) := by decide +kernel
theorem dX7_turn_36 : decode cX7_turn 36 = .ok (.aload_n 0, 1) := by decide +kernel
theorem dX7_turn_37 : decode cX7_turn 37 = .ok (.iconst 0, 1) := by decide +kernel
theorem dX7_turn_38 : decode cX7_turn 38 = .ok (.putfield 136, 3) := by decide +kernel
theorem dX7_turn_41 : decode cX7_turn 41 = .ok (.return_, 1) := by decide +kernel
theorem dX7_order_0 : decode cX7_order 0 = .ok (.iconst 0, 1) := by decide +kernel
theorem dX7_order_1 : decode cX7_order 1 = .ok (.istore_n 2, 1) := by decide +kernel
theorem dX7_order_2 : decode cX7_order 2 = .ok (.iload_n 2, 1) := by decide +kernel
theorem dX7_order_3 : decode cX7_order 3 = .ok (.aload_n 0, 1) := by decide +kernel
theorem dX7_order_4 : decode cX7_order 4 = .ok (.getfield 136, 3) := by decide +kernel
theorem dX7_order_7 : decode cX7_order 7 = .ok (.if_icmp .ge 75, 3) := by decide +kernel
theorem dX7_order_10 : decode cX7_order 10 = .ok (.iload_n 2, 1) := by decide +kernel
theorem dX7_order_11 : decode cX7_order 11 = .ok (.aload_n 0, 1) := by decide +kernel
theorem dX7_order_12 : decode cX7_order 12 = .ok (.getfield 153, 3) := by decide +kernel
theorem dX7_order_15 : decode cX7_order 15 = .ok (.if_icmp .ge 67, 3) := by decide +kernel
theorem dX7_order_18 : decode cX7_order 18 = .ok (.iload_n 1, 1) := by decide +kernel
theorem dX7_order_19 : decode cX7_order 19 = .ok (.ifCond .eq 15, 3) := by decide +kernel
theorem dX7_order_22 : decode cX7_order 22 = .ok (.aload_n 0, 1) := by decide +kernel
theorem dX7_order_23 : decode cX7_order 23 = .ok (.getfield 55, 3) := by decide +kernel
theorem dX7_order_26 : decode cX7_order 26 = .ok (.iload_n 2, 1) := by decide +kernel
theorem dX7_order_27 : decode cX7_order 27 = .ok (.iaload, 1) := by decide +kernel
theorem dX7_order_28 : decode cX7_order 28 = .ok (.invokestatic 156, 3) := by decide +kernel
theorem dX7_order_31 : decode cX7_order 31 = .ok (.goto 9, 3) := by decide +kernel
theorem dX7_order_34 : decode cX7_order 34 = .ok (.aload_n 0, 1) := by decide +kernel
theorem dX7_order_35 : decode cX7_order 35 = .ok (.getfield 55, 3) := by decide +kernel
theorem dX7_order_38 : decode cX7_order 38 = .ok (.iload_n 2, 1) := by decide +kernel
theorem dX7_order_39 : decode cX7_order 39 = .ok (.iaload, 1) := by decide +kernel
theorem dX7_order_40 : decode cX7_order 40 = .ok (.istore_n 3, 1) := by decide +kernel
theorem dX7_order_41 : decode cX7_order 41 = .ok (.iload_n 1, 1) := by decide +kernel
theorem dX7_order_42 : decode cX7_order 42 = .ok (.ifCond .eq 15, 3) := by decide +kernel
theorem dX7_order_45 : decode cX7_order 45 = .ok (.aload_n 0, 1) := by decide +kernel
theorem dX7_order_46 : decode cX7_order 46 = .ok (.getfield 52, 3) := by decide +kernel
theorem dX7_order_49 : decode cX7_order 49 = .ok (.iload_n 2, 1) := by decide +kernel
theorem dX7_order_50 : decode cX7_order 50 = .ok (.iaload, 1) := by decide +kernel
theorem dX7_order_51 : decode cX7_order 51 = .ok (.invokestatic 156, 3) := by decide +kernel
theorem dX7_order_54 : decode cX7_order 54 = .ok (.goto 9, 3) := by decide +kernel
theorem dX7_order_57 : decode cX7_order 57 = .ok (.aload_n 0, 1) := by decide +kernel
theorem dX7_order_58 : decode cX7_order 58 = .ok (.getfield 52, 3) := by decide +kernel
theorem dX7_order_61 : decode cX7_order 61 = .ok (.iload_n 2, 1) := by decide +kernel
theorem dX7_order_62 : decode cX7_order 62 = .ok (.iaload, 1) := by decide +kernel
theorem dX7_order_63 : decode cX7_order 63 = .ok (.istore 4, 2) := by decide +kernel
theorem dX7_order_65 : decode cX7_order 65 = .ok (.iload_n 3, 1) := by decide +kernel
theorem dX7_order_66 : decode cX7_order 66 = .ok (.iload 4, 2) := by decide +kernel
theorem dX7_order_68 : decode cX7_order 68 = .ok (.if_icmp .eq 8, 3) := by decide +kernel
theorem dX7_order_71 : decode cX7_order 71 = .ok (.iload_n 3, 1) := by decide +kernel
theorem dX7_order_72 : decode cX7_order 72 = .ok (.iload 4, 2) := by decide +kernel
theorem dX7_order_74 : decode cX7_order 74 = .ok (.isub, 1) := by decide +kernel
theorem dX7_order_75 : decode cX7_order 75 = .ok (.ireturn, 1) := by decide +kernel
theorem dX7_order_76 : decode cX7_order 76 = .ok (.iinc 2 1, 3) := by decide +kernel
theorem dX7_order_79 : decode cX7_order 79 = .ok (.goto (-77), 3) := by decide +kernel
theorem dX7_order_82 : decode cX7_order 82 = .ok (.aload_n 0, 1) := by decide +kernel
theorem dX7_order_83 : decode cX7_order 83 = .ok (.getfield 153, 3) := by decide +kernel
theorem dX7_order_86 : decode cX7_order 86 = .ok (.aload_n 0, 1) := by decide +kernel
theorem dX7_order_87 : decode cX7_order 87 = .ok (.getfield 136, 3) := by decide +kernel
theorem dX7_order_90 : decode cX7_order 90 = .ok (.isub, 1) := by decide +kernel
theorem dX7_order_91 : decode cX7_order 91 = .ok (.ireturn, 1) := by decide +kernel
theorem dX7_orderOfPart_0 : decode cX7_orderOfPart 0 = .ok (.aload_n 0, 1) := by decide +kernel
theorem dX7_orderOfPart_1 : decode cX7_orderOfPart 1 = .ok (.iconst 0, 1) := by decide +kernel
theorem dX7_orderOfPart_2 : decode cX7_orderOfPart 2 = .ok (.putfield 136, 3) := by decide +kernel
theorem dX7_orderOfPart_5 : decode cX7_orderOfPart 5 = .ok (.aload_n 0, 1) := by decide +kernel
theorem dX7_orderOfPart_6 : decode cX7_orderOfPart 6 = .ok (.iconst 0, 1) := by decide +kernel
theorem dX7_orderOfPart_7 : decode cX7_orderOfPart 7 = .ok (.iload_n 1, 1) := by decide +kernel
theorem dX7_orderOfPart_8 : decode cX7_orderOfPart 8 = .ok (.iload_n 2, 1) := by decide +kernel
theorem dX7_orderOfPart_9 : decode cX7_orderOfPart 9 = .ok (.sipush 1000, 3) := by decide +kernel
theorem dX7_orderOfPart_12 : decode cX7_orderOfPart 12 = .ok (.invokevirtual 145, 3) := by decide +kernel
theorem dX7_orderOfPart_15 : decode cX7_orderOfPart 15 = .ok (.aload_n 0, 1) := by decide +kernel
theorem dX7_orderOfPart_16 : decode cX7_orderOfPart 16 = .ok (.invokevirtual 159, 3) := by decide +kernel
theorem dX7_orderOfPart_19 : decode cX7_orderOfPart 19 = .ok (.aload_n 0, 1) := by decide +kernel
theorem dX7_orderOfPart_20 : decode cX7_orderOfPart 20 = .ok (.iconst 1, 1) := by decide +kernel
theorem dX7_orderOfPart_21 : decode cX7_orderOfPart 21 = .ok (.iload_n 1, 1) := by decide +kernel
theorem dX7_orderOfPart_22 : decode cX7_orderOfPart 22 = .ok (.iload_n 2, 1) := by decide +kernel
theorem dX7_orderOfPart_23 : decode cX7_orderOfPart 23 = .ok (.sipush 1000, 3) := by decide +kernel
theorem dX7_orderOfPart_26 : decode cX7_orderOfPart 26 = .ok (.invokevirtual 145, 3) := by decide +kernel
theorem dX7_orderOfPart_29 : decode cX7_orderOfPart 29 = .ok (.aload_n 0, 1) := by decide +kernel
theorem dX7_orderOfPart_30 : decode cX7_orderOfPart 30 = .ok (.iconst 1, 1) := by decide +kernel
theorem dX7_orderOfPart_31 : decode cX7_orderOfPart 31 = .ok (.invokevirtual 162, 3) := by decide +kernel
theorem dX7_orderOfPart_34 : decode cX7_orderOfPart 34 = .ok (.ireturn, 1) := by decide +kernel
theorem dX7_orderOfPersons_0 : decode cX7_orderOfPersons 0 = .ok (.aload_n 0, 1) := by decide +kernel
theorem dX7_orderOfPersons_1 : decode cX7_orderOfPersons 1 = .ok (.iconst 0, 1) := by decide +kernel
theorem dX7_orderOfPersons_2 : decode cX7_orderOfPersons 2 = .ok (.iload_n 1, 1) := by decide +kernel
theorem dX7_orderOfPersons_3 : decode cX7_orderOfPersons 3 = .ok (.invokevirtual 166, 3) := by decide +kernel
theorem dX7_orderOfPersons_6 : decode cX7_orderOfPersons 6 = .ok (.aload_n 0, 1) := by decide +kernel
theorem dX7_orderOfPersons_7 : decode cX7_orderOfPersons 7 = .ok (.iconst 1, 1) := by decide +kernel
theorem dX7_orderOfPersons_8 : decode cX7_orderOfPersons 8 = .ok (.iload_n 2, 1) := by decide +kernel
theorem dX7_orderOfPersons_9 : decode cX7_orderOfPersons 9 = .ok (.invokevirtual 166, 3) := by decide +kernel
theorem dX7_orderOfPersons_12 : decode cX7_orderOfPersons 12 = .ok (.iconst 0, 1) := by decide +kernel
theorem dX7_orderOfPersons_13 : decode cX7_orderOfPersons 13 = .ok (.istore_n 3, 1) := by decide +kernel
theorem dX7_orderOfPersons_14 : decode cX7_orderOfPersons 14 = .ok (.iload_n 3, 1) := by decide +kernel
theorem dX7_orderOfPersons_15 : decode cX7_orderOfPersons 15 = .ok (.aload_n 0, 1) := by decide +kernel
theorem dX7_orderOfPersons_16 : decode cX7_orderOfPersons 16 = .ok (.getfield 49, 3) := by decide +kernel
theorem dX7_orderOfPersons_19 : decode cX7_orderOfPersons 19 = .ok (.iconst 0, 1) := by decide +kernel
theorem dX7_orderOfPersons_20 : decode cX7_orderOfPersons 20 = .ok (.iaload, 1) := by decide +kernel
theorem dX7_orderOfPersons_21 : decode cX7_orderOfPersons 21 = .ok (.if_icmp .ge 71, 3) := by decide +kernel
theorem dX7_orderOfPersons_24 : decode cX7_orderOfPersons 24 = .ok (.iload_n 3, 1) := by decide +kernel
theorem dX7_orderOfPersons_25 : decode cX7_orderOfPersons 25 = .ok (.aload_n 0, 1) := by decide +kernel
theorem dX7_orderOfPersons_26 : decode cX7_orderOfPersons 26 = .ok (.getfield 49, 3) := by decide +kernel
theorem dX7_orderOfPersons_29 : decode cX7_orderOfPersons 29 = .ok (.iconst 1, 1) := by decide +kernel
theorem dX7_orderOfPersons_30 : decode cX7_orderOfPersons 30 = .ok (.iaload, 1) := by decide +kernel
theorem dX7_orderOfPersons_31 : decode cX7_orderOfPersons 31 = .ok (.if_icmp .ge 61, 3) := by decide +kernel
theorem dX7_orderOfPersons_34 : decode cX7_orderOfPersons 34 = .ok (.aload_n 0, 1) := by decide +kernel
theorem dX7_orderOfPersons_35 : decode cX7_orderOfPersons 35 = .ok (.iload_n 3, 1) := by decide +kernel
theorem dX7_orderOfPersons_36 : decode cX7_orderOfPersons 36 = .ok (.iconst 2, 1) := by decide +kernel
theorem dX7_orderOfPersons_37 : decode cX7_orderOfPersons 37 = .ok (.invokevirtual 170, 3) := by decide +kernel
theorem dX7_orderOfPersons_40 : decode cX7_orderOfPersons 40 = .ok (.istore 4, 2) := by decide +kernel
theorem dX7_orderOfPersons_42 : decode cX7_orderOfPersons 42 = .ok (.iload 4, 2) := by decide +kernel
theorem dX7_orderOfPersons_44 : decode cX7_orderOfPersons 44 = .ok (.ifCond .eq 8, 3) := by decide +kernel
theorem dX7_orderOfPersons_47 : decode cX7_orderOfPersons 47 = .ok (.iload 4, 2) := by decide +kernel
theorem dX7_orderOfPersons_49 : decode cX7_orderOfPersons 49 = .ok (.goto 9, 3) := by decide +kernel
theorem dX7_orderOfPersons_52 : decode cX7_orderOfPersons 52 = .ok (.aload_n 0, 1) := by decide +kernel
theorem dX7_orderOfPersons_53 : decode cX7_orderOfPersons 53 = .ok (.iload_n 3, 1) := by decide +kernel
theorem dX7_orderOfPersons_54 : decode cX7_orderOfPersons 54 = .ok (.iconst 0, 1) := by decide +kernel
theorem dX7_orderOfPersons_55 : decode cX7_orderOfPersons 55 = .ok (.invokevirtual 170, 3) := by decide +kernel
theorem dX7_orderOfPersons_58 : decode cX7_orderOfPersons 58 = .ok (.istore 4, 2) := by decide +kernel
theorem dX7_orderOfPersons_60 : decode cX7_orderOfPersons 60 = .ok (.iload 4, 2) := by decide +kernel
theorem dX7_orderOfPersons_62 : decode cX7_orderOfPersons 62 = .ok (.ifCond .eq 8, 3) := by decide +kernel
theorem dX7_orderOfPersons_65 : decode cX7_orderOfPersons 65 = .ok (.iload 4, 2) := by decide +kernel
theorem dX7_orderOfPersons_67 : decode cX7_orderOfPersons 67 = .ok (.goto 9, 3) := by decide +kernel
theorem dX7_orderOfPersons_70 : decode cX7_orderOfPersons 70 = .ok (.aload_n 0, 1) := by decide +kernel
theorem dX7_orderOfPersons_71 : decode cX7_orderOfPersons 71 = .ok (.iload_n 3, 1) := by decide +kernel
theorem dX7_orderOfPersons_72 : decode cX7_orderOfPersons 72 = .ok (.iconst 1, 1) := by decide +kernel
theorem dX7_orderOfPersons_73 : decode cX7_orderOfPersons 73 = .ok (.invokevirtual 170, 3) := by decide +kernel
theorem dX7_orderOfPersons_76 : decode cX7_orderOfPersons 76 = .ok (.istore 4, 2) := by decide +kernel
theorem dX7_orderOfPersons_78 : decode cX7_orderOfPersons 78 = .ok (.iload 4, 2) := by decide +kernel
theorem dX7_orderOfPersons_80 : decode cX7_orderOfPersons 80 = .ok (.ifCond .eq 6, 3) := by decide +kernel
theorem dX7_orderOfPersons_83 : decode cX7_orderOfPersons 83 = .ok (.iload 4, 2) := by decide +kernel
theorem dX7_orderOfPersons_85 : decode cX7_orderOfPersons 85 = .ok (.ireturn, 1) := by decide +kernel
theorem dX7_orderOfPersons_86 : decode cX7_orderOfPersons 86 = .ok (.iinc 3 1, 3) := by decide +kernel
theorem dX7_orderOfPersons_89 : decode cX7_orderOfPersons 89 = .ok (.goto (-75), 3) := by decide +kernel
theorem dX7_orderOfPersons_92 : decode cX7_orderOfPersons 92 = .ok (.aload_n 0, 1) := by decide +kernel
theorem dX7_orderOfPersons_93 : decode cX7_orderOfPersons 93 = .ok (.getfield 49, 3) := by decide +kernel
theorem dX7_orderOfPersons_96 : decode cX7_orderOfPersons 96 = .ok (.iconst 0, 1) := by decide +kernel
theorem dX7_orderOfPersons_97 : decode cX7_orderOfPersons 97 = .ok (.iaload, 1) := by decide +kernel
theorem dX7_orderOfPersons_98 : decode cX7_orderOfPersons 98 = .ok (.aload_n 0, 1) := by decide +kernel
theorem dX7_orderOfPersons_99 : decode cX7_orderOfPersons 99 = .ok (.getfield 49, 3) := by decide +kernel
theorem dX7_orderOfPersons_102 : decode cX7_orderOfPersons 102 = .ok (.iconst 1, 1) := by decide +kernel
theorem dX7_orderOfPersons_103 : decode cX7_orderOfPersons 103 = .ok (.iaload, 1) := by decide +kernel
theorem dX7_orderOfPersons_104 : decode cX7_orderOfPersons 104 = .ok (.isub, 1) := by decide +kernel
theorem dX7_orderOfPersons_105 : decode cX7_orderOfPersons 105 = .ok (.ireturn, 1) := by decide +kernel
theorem dX7_orderOfField_0 : decode cX7_orderOfField 0 = .ok (.aload_n 0, 1) := by decide +kernel
theorem dX7_orderOfField_1 : decode cX7_orderOfField 1 = .ok (.iconst 0, 1) := by decide +kernel
theorem dX7_orderOfField_2 : decode cX7_orderOfField 2 = .ok (.putfield 136, 3) := by decide +kernel
theorem dX7_orderOfField_5 : decode cX7_orderOfField 5 = .ok (.aload_n 0, 1) := by decide +kernel
theorem dX7_orderOfField_6 : decode cX7_orderOfField 6 = .ok (.aload_n 0, 1) := by decide +kernel
theorem dX7_orderOfField_7 : decode cX7_orderOfField 7 = .ok (.iload_n 1, 1) := by decide +kernel
theorem dX7_orderOfField_8 : decode cX7_orderOfField 8 = .ok (.iload_n 3, 1) := by decide +kernel
theorem dX7_orderOfField_9 : decode cX7_orderOfField 9 = .ok (.invokevirtual 125, 3) := by decide +kernel
theorem dX7_orderOfField_12 : decode cX7_orderOfField 12 = .ok (.invokevirtual 173, 3) := by decide +kernel
theorem dX7_orderOfField_15 : decode cX7_orderOfField 15 = .ok (.aload_n 0, 1) := by decide +kernel
theorem dX7_orderOfField_16 : decode cX7_orderOfField 16 = .ok (.invokevirtual 159, 3) := by decide +kernel
theorem dX7_orderOfField_19 : decode cX7_orderOfField 19 = .ok (.aload_n 0, 1) := by decide +kernel
theorem dX7_orderOfField_20 : decode cX7_orderOfField 20 = .ok (.aload_n 0, 1) := by decide +kernel
theorem dX7_orderOfField_21 : decode cX7_orderOfField 21 = .ok (.iload_n 2, 1) := by decide +kernel
theorem dX7_orderOfField_22 : decode cX7_orderOfField 22 = .ok (.iload_n 3, 1) := by decide +kernel
theorem dX7_orderOfField_23 : decode cX7_orderOfField 23 = .ok (.invokevirtual 125, 3) := by decide +kernel
theorem dX7_orderOfField_26 : decode cX7_orderOfField 26 = .ok (.invokevirtual 173, 3) := by decide +kernel
theorem dX7_orderOfField_29 : decode cX7_orderOfField 29 = .ok (.aload_n 0, 1) := by decide +kernel
theorem dX7_orderOfField_30 : decode cX7_orderOfField 30 = .ok (.iconst 1, 1) := by decide +kernel
theorem dX7_orderOfField_31 : decode cX7_orderOfField 31 = .ok (.invokevirtual 162, 3) := by decide +kernel
theorem dX7_orderOfField_34 : decode cX7_orderOfField 34 = .ok (.ireturn, 1) := by decide +kernel
theorem dX7_orderOf_0 : decode cX7_orderOf 0 = .ok (.aload_n 0, 1) := by decide +kernel
theorem dX7_orderOf_1 : decode cX7_orderOf 1 = .ok (.getfield 113, 3) := by decide +kernel
theorem dX7_orderOf_4 : decode cX7_orderOf 4 = .ok (.iconst 1, 1) := by decide +kernel
theorem dX7_orderOf_5 : decode cX7_orderOf 5 = .ok (.if_icmp .ne 12, 3) := by decide +kernel
theorem dX7_orderOf_8 : decode cX7_orderOf 8 = .ok (.aload_n 0, 1) := by decide +kernel
theorem dX7_orderOf_9 : decode cX7_orderOf 9 = .ok (.iload_n 1, 1) := by decide +kernel
theorem dX7_orderOf_10 : decode cX7_orderOf 10 = .ok (.iload_n 2, 1) := by decide +kernel
theorem dX7_orderOf_11 : decode cX7_orderOf 11 = .ok (.invokevirtual 176, 3) := by decide +kernel
theorem dX7_orderOf_14 : decode cX7_orderOf 14 = .ok (.goto 10, 3) := by decide +kernel
theorem dX7_orderOf_17 : decode cX7_orderOf 17 = .ok (.aload_n 0, 1) := by decide +kernel
theorem dX7_orderOf_18 : decode cX7_orderOf 18 = .ok (.iload_n 1, 1) := by decide +kernel
theorem dX7_orderOf_19 : decode cX7_orderOf 19 = .ok (.iload_n 2, 1) := by decide +kernel
theorem dX7_orderOf_20 : decode cX7_orderOf 20 = .ok (.iconst 2, 1) := by decide +kernel
theorem dX7_orderOf_21 : decode cX7_orderOf 21 = .ok (.invokevirtual 179, 3) := by decide +kernel
theorem dX7_orderOf_24 : decode cX7_orderOf 24 = .ok (.istore_n 3, 1) := by decide +kernel
theorem dX7_orderOf_25 : decode cX7_orderOf 25 = .ok (.iload_n 3, 1) := by decide +kernel
theorem dX7_orderOf_26 : decode cX7_orderOf 26 = .ok (.ifCond .eq 7, 3) := by decide +kernel
theorem dX7_orderOf_29 : decode cX7_orderOf 29 = .ok (.iload_n 3, 1) := by decide +kernel
theorem dX7_orderOf_30 : decode cX7_orderOf 30 = .ok (.goto 27, 3) := by decide +kernel
theorem dX7_orderOf_33 : decode cX7_orderOf 33 = .ok (.aload_n 0, 1) := by decide +kernel
theorem dX7_orderOf_34 : decode cX7_orderOf 34 = .ok (.getfield 113, 3) := by decide +kernel
theorem dX7_orderOf_37 : decode cX7_orderOf 37 = .ok (.iconst 1, 1) := by decide +kernel
theorem dX7_orderOf_38 : decode cX7_orderOf 38 = .ok (.if_icmp .ne 13, 3) := by decide +kernel
theorem dX7_orderOf_41 : decode cX7_orderOf 41 = .ok (.aload_n 0, 1) := by decide +kernel
theorem dX7_orderOf_42 : decode cX7_orderOf 42 = .ok (.iload_n 1, 1) := by decide +kernel
theorem dX7_orderOf_43 : decode cX7_orderOf 43 = .ok (.iload_n 2, 1) := by decide +kernel
theorem dX7_orderOf_44 : decode cX7_orderOf 44 = .ok (.iconst 2, 1) := by decide +kernel
theorem dX7_orderOf_45 : decode cX7_orderOf 45 = .ok (.invokevirtual 179, 3) := by decide +kernel
theorem dX7_orderOf_48 : decode cX7_orderOf 48 = .ok (.goto 9, 3) := by decide +kernel
theorem dX7_orderOf_51 : decode cX7_orderOf 51 = .ok (.aload_n 0, 1) := by decide +kernel
theorem dX7_orderOf_52 : decode cX7_orderOf 52 = .ok (.iload_n 1, 1) := by decide +kernel
theorem dX7_orderOf_53 : decode cX7_orderOf 53 = .ok (.iload_n 2, 1) := by decide +kernel
theorem dX7_orderOf_54 : decode cX7_orderOf 54 = .ok (.invokevirtual 176, 3) := by decide +kernel
theorem dX7_orderOf_57 : decode cX7_orderOf 57 = .ok (.istore_n 3, 1) := by decide +kernel
theorem dX7_orderOf_58 : decode cX7_orderOf 58 = .ok (.iload_n 3, 1) := by decide +kernel
theorem dX7_orderOf_59 : decode cX7_orderOf 59 = .ok (.ifCond .eq 7, 3) := by decide +kernel
theorem dX7_orderOf_62 : decode cX7_orderOf 62 = .ok (.iload_n 3, 1) := by decide +kernel
theorem dX7_orderOf_63 : decode cX7_orderOf 63 = .ok (.goto 10, 3) := by decide +kernel
theorem dX7_orderOf_66 : decode cX7_orderOf 66 = .ok (.aload_n 0, 1) := by decide +kernel
theorem dX7_orderOf_67 : decode cX7_orderOf 67 = .ok (.iload_n 1, 1) := by decide +kernel
theorem dX7_orderOf_68 : decode cX7_orderOf 68 = .ok (.iload_n 2, 1) := by decide +kernel
theorem dX7_orderOf_69 : decode cX7_orderOf 69 = .ok (.iconst 1, 1) := by decide +kernel
theorem dX7_orderOf_70 : decode cX7_orderOf 70 = .ok (.invokevirtual 179, 3) := by decide +kernel
theorem dX7_orderOf_73 : decode cX7_orderOf 73 = .ok (.ireturn, 1) := by decide +kernel
theorem dX7_list_0 : decode cX7_list 0 = .ok (.aload_n 0, 1) := by decide +kernel
theorem dX7_list_1 : decode cX7_list 1 = .ok (.iconst 0, 1) := by decide +kernel
theorem dX7_list_2 : decode cX7_list 2 = .ok (.putfield 183, 3) := by decide +kernel
theorem dX7_list_5 : decode cX7_list 5 = .ok (.iconst 0, 1) := by decide +kernel
theorem dX7_list_6 : decode cX7_list 6 = .ok (.istore_n 1, 1) := by decide +kernel
theorem dX7_list_7 : decode cX7_list 7 = .ok (.iload_n 1, 1) := by decide +kernel
theorem dX7_list_8 : decode cX7_list 8 = .ok (.aload_n 0, 1) := by decide +kernel
theorem dX7_list_9 : decode cX7_list 9 = .ok (.getfield 110, 3) := by decide +kernel
theorem dX7_list_12 : decode cX7_list 12 = .ok (.if_icmp .ge 85, 3) := by decide +kernel
theorem dX7_list_15 : decode cX7_list 15 = .ok (.aload_n 0, 1) := by decide +kernel
theorem dX7_list_16 : decode cX7_list 16 = .ok (.aload_n 0, 1) := by decide +kernel
theorem dX7_list_17 : decode cX7_list 17 = .ok (.getfield 28, 3) := by decide +kernel
theorem dX7_list_20 : decode cX7_list 20 = .ok (.iload_n 1, 1) := by decide +kernel
theorem dX7_list_21 : decode cX7_list 21 = .ok (.iaload, 1) := by decide +kernel
theorem dX7_list_22 : decode cX7_list 22 = .ok (.invokevirtual 186, 3) := by decide +kernel
theorem dX7_list_25 : decode cX7_list 25 = .ok (.istore_n 2, 1) := by decide +kernel
theorem dX7_list_26 : decode cX7_list 26 = .ok (.iconst 0, 1) := by decide +kernel
theorem dX7_list_27 : decode cX7_list 27 = .ok (.istore_n 3, 1) := by decide +kernel
theorem dX7_list_28 : decode cX7_list 28 = .ok (.iconst 0, 1) := by decide +kernel
theorem dX7_list_29 : decode cX7_list 29 = .ok (.istore 4, 2) := by decide +kernel
theorem dX7_list_31 : decode cX7_list 31 = .ok (.iload 4, 2) := by decide +kernel
theorem dX7_list_33 : decode cX7_list 33 = .ok (.aload_n 0, 1) := by decide +kernel
theorem dX7_list_34 : decode cX7_list 34 = .ok (.getfield 183, 3) := by decide +kernel
theorem dX7_list_37 : decode cX7_list 37 = .ok (.if_icmp .ge 30, 3) := by decide +kernel
theorem dX7_list_40 : decode cX7_list 40 = .ok (.iload_n 3, 1) := by decide +kernel
theorem dX7_list_41 : decode cX7_list 41 = .ok (.ifCond .ne 14, 3) := by decide +kernel
theorem dX7_list_44 : decode cX7_list 44 = .ok (.aload_n 0, 1) := by decide +kernel
theorem dX7_list_45 : decode cX7_list 45 = .ok (.getfield 58, 3) := by decide +kernel
theorem dX7_list_48 : decode cX7_list 48 = .ok (.iload 4, 2) := by decide +kernel
theorem dX7_list_50 : decode cX7_list 50 = .ok (.iaload, 1) := by decide +kernel
theorem dX7_list_51 : decode cX7_list 51 = .ok (.iload_n 2, 1) := by decide +kernel
theorem dX7_list_52 : decode cX7_list 52 = .ok (.if_icmp .ne 7, 3) := by decide +kernel
theorem dX7_list_55 : decode cX7_list 55 = .ok (.iconst 1, 1) := by decide +kernel
theorem dX7_list_56 : decode cX7_list 56 = .ok (.goto 4, 3) := by decide +kernel
theorem dX7_list_59 : decode cX7_list 59 = .ok (.iconst 0, 1) := by decide +kernel
theorem dX7_list_60 : decode cX7_list 60 = .ok (.istore_n 3, 1) := by decide +kernel
theorem dX7_list_61 : decode cX7_list 61 = .ok (.iinc 4 1, 3) := by decide +kernel
theorem dX7_list_64 : decode cX7_list 64 = .ok (.goto (-33), 3) := by decide +kernel
theorem dX7_list_67 : decode cX7_list 67 = .ok (.iload_n 3, 1) := by decide +kernel
theorem dX7_list_68 : decode cX7_list 68 = .ok (.ifCond .ne 23, 3) := by decide +kernel
theorem dX7_list_71 : decode cX7_list 71 = .ok (.aload_n 0, 1) := by decide +kernel
theorem dX7_list_72 : decode cX7_list 72 = .ok (.getfield 58, 3) := by decide +kernel
theorem dX7_list_75 : decode cX7_list 75 = .ok (.aload_n 0, 1) := by decide +kernel
theorem dX7_list_76 : decode cX7_list 76 = .ok (.getfield 183, 3) := by decide +kernel
theorem dX7_list_79 : decode cX7_list 79 = .ok (.iload_n 2, 1) := by decide +kernel
theorem dX7_list_80 : decode cX7_list 80 = .ok (.iastore, 1) := by decide +kernel
theorem dX7_list_81 : decode cX7_list 81 = .ok (.aload_n 0, 1) := by decide +kernel
theorem dX7_list_82 : decode cX7_list 82 = .ok (.dup, 1) := by decide +kernel
theorem dX7_list_83 : decode cX7_list 83 = .ok (.getfield 183, 3) := by decide +kernel
theorem dX7_list_86 : decode cX7_list 86 = .ok (.iconst 1, 1) := by decide +kernel
theorem dX7_list_87 : decode cX7_list 87 = .ok (.iadd, 1) := by decide +kernel
theorem dX7_list_88 : decode cX7_list 88 = .ok (.putfield 183, 3) := by decide +kernel
theorem dX7_list_91 : decode cX7_list 91 = .ok (.iinc 1 1, 3) := by decide +kernel
theorem dX7_list_94 : decode cX7_list 94 = .ok (.goto (-87), 3) := by decide +kernel
theorem dX7_list_97 : decode cX7_list 97 = .ok (.iconst 1, 1) := by decide +kernel
theorem dX7_list_98 : decode cX7_list 98 = .ok (.istore_n 1, 1) := by decide +kernel
theorem dX7_list_99 : decode cX7_list 99 = .ok (.iload_n 1, 1) := by decide +kernel
theorem dX7_list_100 : decode cX7_list 100 = .ok (.aload_n 0, 1) := by decide +kernel
theorem dX7_list_101 : decode cX7_list 101 = .ok (.getfield 183, 3) := by decide +kernel
theorem dX7_list_104 : decode cX7_list 104 = .ok (.if_icmp .ge 72, 3) := by decide +kernel
theorem dX7_list_107 : decode cX7_list 107 = .ok (.aload_n 0, 1) := by decide +kernel
theorem dX7_list_108 : decode cX7_list 108 = .ok (.getfield 113, 3) := by decide +kernel
theorem dX7_list_111 : decode cX7_list 111 = .ok (.ifCond .le 65, 3) := by decide +kernel
theorem dX7_list_114 : decode cX7_list 114 = .ok (.aload_n 0, 1) := by decide +kernel
theorem dX7_list_115 : decode cX7_list 115 = .ok (.getfield 58, 3) := by decide +kernel
theorem dX7_list_118 : decode cX7_list 118 = .ok (.iload_n 1, 1) := by decide +kernel
theorem dX7_list_119 : decode cX7_list 119 = .ok (.iaload, 1) := by decide +kernel
theorem dX7_list_120 : decode cX7_list 120 = .ok (.istore_n 2, 1) := by decide +kernel
theorem dX7_list_121 : decode cX7_list 121 = .ok (.iload_n 1, 1) := by decide +kernel
theorem dX7_list_122 : decode cX7_list 122 = .ok (.istore_n 3, 1) := by decide +kernel
theorem dX7_list_123 : decode cX7_list 123 = .ok (.iload_n 3, 1) := by decide +kernel
theorem dX7_list_124 : decode cX7_list 124 = .ok (.ifCond .le 39, 3) := by decide +kernel
theorem dX7_list_127 : decode cX7_list 127 = .ok (.aload_n 0, 1) := by decide +kernel
theorem dX7_list_128 : decode cX7_list 128 = .ok (.aload_n 0, 1) := by decide +kernel
theorem dX7_list_129 : decode cX7_list 129 = .ok (.getfield 58, 3) := by decide +kernel
theorem dX7_list_132 : decode cX7_list 132 = .ok (.iload_n 3, 1) := by decide +kernel
theorem dX7_list_133 : decode cX7_list 133 = .ok (.iconst 1, 1) := by decide +kernel
theorem dX7_list_134 : decode cX7_list 134 = .ok (.isub, 1) := by decide +kernel
theorem dX7_list_135 : decode cX7_list 135 = .ok (.iaload, 1) := by decide +kernel
theorem dX7_list_136 : decode cX7_list 136 = .ok (.iload_n 2, 1) := by decide +kernel
theorem dX7_list_137 : decode cX7_list 137 = .ok (.invokevirtual 189, 3) := by decide +kernel
theorem dX7_list_140 : decode cX7_list 140 = .ok (.ifCond .le 23, 3) := by decide +kernel
theorem dX7_list_143 : decode cX7_list 143 = .ok (.aload_n 0, 1) := by decide +kernel
theorem dX7_list_144 : decode cX7_list 144 = .ok (.getfield 58, 3) := by decide +kernel
theorem dX7_list_147 : decode cX7_list 147 = .ok (.iload_n 3, 1) := by decide +kernel
theorem dX7_list_148 : decode cX7_list 148 = .ok (.aload_n 0, 1) := by decide +kernel
theorem dX7_list_149 : decode cX7_list 149 = .ok (.getfield 58, 3) := by decide +kernel
theorem dX7_list_152 : decode cX7_list 152 = .ok (.iload_n 3, 1) := by decide +kernel
theorem dX7_list_153 : decode cX7_list 153 = .ok (.iconst 1, 1) := by decide +kernel
theorem dX7_list_154 : decode cX7_list 154 = .ok (.isub, 1) := by decide +kernel
theorem dX7_list_155 : decode cX7_list 155 = .ok (.iaload, 1) := by decide +kernel
theorem dX7_list_156 : decode cX7_list 156 = .ok (.iastore, 1) := by decide +kernel
theorem dX7_list_157 : decode cX7_list 157 = .ok (.iinc 3 (-1), 3) := by decide +kernel
theorem dX7_list_160 : decode cX7_list 160 = .ok (.goto (-37), 3) := by decide +kernel
theorem dX7_list_163 : decode cX7_list 163 = .ok (.aload_n 0, 1) := by decide +kernel
theorem dX7_list_164 : decode cX7_list 164 = .ok (.getfield 58, 3) := by decide +kernel
theorem dX7_list_167 : decode cX7_list 167 = .ok (.iload_n 3, 1) := by decide +kernel
theorem dX7_list_168 : decode cX7_list 168 = .ok (.iload_n 2, 1) := by decide +kernel
theorem dX7_list_169 : decode cX7_list 169 = .ok (.iastore, 1) := by decide +kernel
theorem dX7_list_170 : decode cX7_list 170 = .ok (.iinc 1 1, 3) := by decide +kernel
theorem dX7_list_173 : decode cX7_list 173 = .ok (.goto (-74), 3) := by decide +kernel
theorem dX7_list_176 : decode cX7_list 176 = .ok (.return_, 1) := by decide +kernel
theorem dX7_isAlike_0 : decode cX7_isAlike 0 = .ok (.iconst 0, 1) := by decide +kernel
theorem dX7_isAlike_1 : decode cX7_isAlike 1 = .ok (.istore_n 2, 1) := by decide +kernel
theorem dX7_isAlike_2 : decode cX7_isAlike 2 = .ok (.iconst 0, 1) := by decide +kernel
theorem dX7_isAlike_3 : decode cX7_isAlike 3 = .ok (.istore_n 3, 1) := by decide +kernel
theorem dX7_isAlike_4 : decode cX7_isAlike 4 = .ok (.iload_n 3, 1) := by decide +kernel
theorem dX7_isAlike_5 : decode cX7_isAlike 5 = .ok (.aload_n 0, 1) := by decide +kernel
theorem dX7_isAlike_6 : decode cX7_isAlike 6 = .ok (.getfield 183, 3) := by decide +kernel
theorem dX7_isAlike_9 : decode cX7_isAlike 9 = .ok (.if_icmp .ge 102, 3) := by decide +kernel
theorem dX7_isAlike_12 : decode cX7_isAlike 12 = .ok (.aload_n 0, 1) := by decide +kernel
theorem dX7_isAlike_13 : decode cX7_isAlike 13 = .ok (.getfield 58, 3) := by decide +kernel
theorem dX7_isAlike_16 : decode cX7_isAlike 16 = .ok (.iload_n 3, 1) := by decide +kernel
theorem dX7_isAlike_17 : decode cX7_isAlike 17 = .ok (.iaload, 1) := by decide +kernel
theorem dX7_isAlike_18 : decode cX7_isAlike 18 = .ok (.iload_n 1, 1) := by decide +kernel
theorem dX7_isAlike_19 : decode cX7_isAlike 19 = .ok (.if_icmp .eq 86, 3) := by decide +kernel
theorem dX7_isAlike_22 : decode cX7_isAlike 22 = .ok (.aload_n 0, 1) := by decide +kernel
theorem dX7_isAlike_23 : decode cX7_isAlike 23 = .ok (.iconst 0, 1) := by decide +kernel
theorem dX7_isAlike_24 : decode cX7_isAlike 24 = .ok (.iload_n 1, 1) := by decide +kernel
theorem dX7_isAlike_25 : decode cX7_isAlike 25 = .ok (.invokevirtual 166, 3) := by decide +kernel
theorem dX7_isAlike_28 : decode cX7_isAlike 28 = .ok (.aload_n 0, 1) := by decide +kernel
theorem dX7_isAlike_29 : decode cX7_isAlike 29 = .ok (.iconst 1, 1) := by decide +kernel
theorem dX7_isAlike_30 : decode cX7_isAlike 30 = .ok (.aload_n 0, 1) := by decide +kernel
theorem dX7_isAlike_31 : decode cX7_isAlike 31 = .ok (.getfield 58, 3) := by decide +kernel
theorem dX7_isAlike_34 : decode cX7_isAlike 34 = .ok (.iload_n 3, 1) := by decide +kernel
theorem dX7_isAlike_35 : decode cX7_isAlike 35 = .ok (.iaload, 1) := by decide +kernel
theorem dX7_isAlike_36 : decode cX7_isAlike 36 = .ok (.invokevirtual 166, 3) := by decide +kernel
theorem dX7_isAlike_39 : decode cX7_isAlike 39 = .ok (.aload_n 0, 1) := by decide +kernel
theorem dX7_isAlike_40 : decode cX7_isAlike 40 = .ok (.getfield 49, 3) := by decide +kernel
theorem dX7_isAlike_43 : decode cX7_isAlike 43 = .ok (.iconst 0, 1) := by decide +kernel
theorem dX7_isAlike_44 : decode cX7_isAlike 44 = .ok (.iaload, 1) := by decide +kernel
theorem dX7_isAlike_45 : decode cX7_isAlike 45 = .ok (.ifCond .le 60, 3) := by decide +kernel
theorem dX7_isAlike_48 : decode cX7_isAlike 48 = .ok (.aload_n 0, 1) := by decide +kernel
theorem dX7_isAlike_49 : decode cX7_isAlike 49 = .ok (.getfield 49, 3) := by decide +kernel
theorem dX7_isAlike_52 : decode cX7_isAlike 52 = .ok (.iconst 1, 1) := by decide +kernel
theorem dX7_isAlike_53 : decode cX7_isAlike 53 = .ok (.iaload, 1) := by decide +kernel
theorem dX7_isAlike_54 : decode cX7_isAlike 54 = .ok (.ifCond .le 51, 3) := by decide +kernel
theorem dX7_isAlike_57 : decode cX7_isAlike 57 = .ok (.aload_n 0, 1) := by decide +kernel
theorem dX7_isAlike_58 : decode cX7_isAlike 58 = .ok (.iconst 0, 1) := by decide +kernel
theorem dX7_isAlike_59 : decode cX7_isAlike 59 = .ok (.iconst 2, 1) := by decide +kernel
theorem dX7_isAlike_60 : decode cX7_isAlike 60 = .ok (.invokevirtual 170, 3) := by decide +kernel
theorem dX7_isAlike_63 : decode cX7_isAlike 63 = .ok (.ifCond .ne 42, 3) := by decide +kernel
theorem dX7_isAlike_66 : decode cX7_isAlike 66 = .ok (.aload_n 0, 1) := by decide +kernel
theorem dX7_isAlike_67 : decode cX7_isAlike 67 = .ok (.iconst 0, 1) := by decide +kernel
theorem dX7_isAlike_68 : decode cX7_isAlike 68 = .ok (.putfield 136, 3) := by decide +kernel
theorem dX7_isAlike_71 : decode cX7_isAlike 71 = .ok (.aload_n 0, 1) := by decide +kernel
theorem dX7_isAlike_72 : decode cX7_isAlike 72 = .ok (.iconst 0, 1) := by decide +kernel
theorem dX7_isAlike_73 : decode cX7_isAlike 73 = .ok (.iconst 0, 1) := by decide +kernel
theorem dX7_isAlike_74 : decode cX7_isAlike 74 = .ok (.invokevirtual 192, 3) := by decide +kernel
theorem dX7_isAlike_77 : decode cX7_isAlike 77 = .ok (.aload_n 0, 1) := by decide +kernel
theorem dX7_isAlike_78 : decode cX7_isAlike 78 = .ok (.invokevirtual 159, 3) := by decide +kernel
theorem dX7_isAlike_81 : decode cX7_isAlike 81 = .ok (.aload_n 0, 1) := by decide +kernel
theorem dX7_isAlike_82 : decode cX7_isAlike 82 = .ok (.iconst 1, 1) := by decide +kernel
theorem dX7_isAlike_83 : decode cX7_isAlike 83 = .ok (.iconst 0, 1) := by decide +kernel
theorem dX7_isAlike_84 : decode cX7_isAlike 84 = .ok (.invokevirtual 192, 3) := by decide +kernel
theorem dX7_isAlike_87 : decode cX7_isAlike 87 = .ok (.iload_n 2, 1) := by decide +kernel
theorem dX7_isAlike_88 : decode cX7_isAlike 88 = .ok (.ifCond .ne 11, 3) := by decide +kernel
theorem dX7_isAlike_91 : decode cX7_isAlike 91 = .ok (.aload_n 0, 1) := by decide +kernel
theorem dX7_isAlike_92 : decode cX7_isAlike 92 = .ok (.iconst 0, 1) := by decide +kernel
theorem dX7_isAlike_93 : decode cX7_isAlike 93 = .ok (.invokevirtual 162, 3) := by decide +kernel
theorem dX7_isAlike_96 : decode cX7_isAlike 96 = .ok (.ifCond .eq 7, 3) := by decide +kernel
theorem dX7_isAlike_99 : decode cX7_isAlike 99 = .ok (.iconst 1, 1) := by decide +kernel
theorem dX7_isAlike_100 : decode cX7_isAlike 100 = .ok (.goto 4, 3) := by decide +kernel
theorem dX7_isAlike_103 : decode cX7_isAlike 103 = .ok (.iconst 0, 1) := by decide +kernel
theorem dX7_isAlike_104 : decode cX7_isAlike 104 = .ok (.istore_n 2, 1) := by decide +kernel
theorem dX7_isAlike_105 : decode cX7_isAlike 105 = .ok (.iinc 3 1, 3) := by decide +kernel
theorem dX7_isAlike_108 : decode cX7_isAlike 108 = .ok (.goto (-104), 3) := by decide +kernel
theorem dX7_isAlike_111 : decode cX7_isAlike 111 = .ok (.iload_n 2, 1) := by decide +kernel
theorem dX7_isAlike_112 : decode cX7_isAlike 112 = .ok (.ireturn, 1) := by decide +kernel
theorem dX7_makeShort_0 : decode cX7_makeShort 0 = .ok (.aload_n 0, 1) := by decide +kernel
theorem dX7_makeShort_1 : decode cX7_makeShort 1 = .ok (.iconst 0, 1) := by decide +kernel
theorem dX7_makeShort_2 : decode cX7_makeShort 2 = .ok (.iload_n 1, 1) := by decide +kernel
theorem dX7_makeShort_3 : decode cX7_makeShort 3 = .ok (.invokevirtual 166, 3) := by decide +kernel
theorem dX7_makeShort_6 : decode cX7_makeShort 6 = .ok (.aload_n 0, 1) := by decide +kernel
theorem dX7_makeShort_7 : decode cX7_makeShort 7 = .ok (.getfield 49, 3) := by decide +kernel
theorem dX7_makeShort_10 : decode cX7_makeShort 10 = .ok (.iconst 0, 1) := by decide +kernel
theorem dX7_makeShort_11 : decode cX7_makeShort 11 = .ok (.iaload, 1) := by decide +kernel
theorem dX7_makeShort_12 : decode cX7_makeShort 12 = .ok (.istore_n 2, 1) := by decide +kernel
theorem dX7_makeShort_13 : decode cX7_makeShort 13 = .ok (.iload_n 2, 1) := by decide +kernel
theorem dX7_makeShort_14 : decode cX7_makeShort 14 = .ok (.ifCond .ne 12, 3) := by decide +kernel
theorem dX7_makeShort_17 : decode cX7_makeShort 17 = .ok (.aload_n 0, 1) := by decide +kernel
theorem dX7_makeShort_18 : decode cX7_makeShort 18 = .ok (.iload_n 1, 1) := by decide +kernel
theorem dX7_makeShort_19 : decode cX7_makeShort 19 = .ok (.iconst 3, 1) := by decide +kernel
theorem dX7_makeShort_20 : decode cX7_makeShort 20 = .ok (.invokevirtual 195, 3) := by decide +kernel
theorem dX7_makeShort_23 : decode cX7_makeShort 23 = .ok (.goto 16, 3) := by decide +kernel
theorem dX7_makeShort_26 : decode cX7_makeShort 26 = .ok (.iload_n 2, 1) := by decide +kernel
theorem dX7_makeShort_27 : decode cX7_makeShort 27 = .ok (.iconst 1, 1) := by decide +kernel
theorem dX7_makeShort_28 : decode cX7_makeShort 28 = .ok (.if_icmp .ne 11, 3) := by decide +kernel
theorem dX7_makeShort_31 : decode cX7_makeShort 31 = .ok (.aload_n 0, 1) := by decide +kernel
theorem dX7_makeShort_32 : decode cX7_makeShort 32 = .ok (.iconst 0, 1) := by decide +kernel
theorem dX7_makeShort_33 : decode cX7_makeShort 33 = .ok (.iconst 0, 1) := by decide +kernel
theorem dX7_makeShort_34 : decode cX7_makeShort 34 = .ok (.iconst 2, 1) := by decide +kernel
theorem dX7_makeShort_35 : decode cX7_makeShort 35 = .ok (.iconst 3, 1) := by decide +kernel
theorem dX7_makeShort_36 : decode cX7_makeShort 36 = .ok (.invokevirtual 145, 3) := by decide +kernel
theorem dX7_makeShort_39 : decode cX7_makeShort 39 = .ok (.iconst 0, 1) := by decide +kernel
theorem dX7_makeShort_40 : decode cX7_makeShort 40 = .ok (.istore_n 3, 1) := by decide +kernel
theorem dX7_makeShort_41 : decode cX7_makeShort 41 = .ok (.iload_n 3, 1) := by decide +kernel
theorem dX7_makeShort_42 : decode cX7_makeShort 42 = .ok (.iload_n 2, 1) := by decide +kernel
theorem dX7_makeShort_43 : decode cX7_makeShort 43 = .ok (.if_icmp .ge 27, 3) := by decide +kernel
theorem dX7_makeShort_46 : decode cX7_makeShort 46 = .ok (.iload_n 3, 1) := by decide +kernel
theorem dX7_makeShort_47 : decode cX7_makeShort 47 = .ok (.iconst 4, 1) := by decide +kernel
theorem dX7_makeShort_48 : decode cX7_makeShort 48 = .ok (.if_icmp .ge 22, 3) := by decide +kernel
theorem dX7_makeShort_51 : decode cX7_makeShort 51 = .ok (.iload_n 2, 1) := by decide +kernel
theorem dX7_makeShort_52 : decode cX7_makeShort 52 = .ok (.iconst 1, 1) := by decide +kernel
theorem dX7_makeShort_53 : decode cX7_makeShort 53 = .ok (.if_icmp .le 17, 3) := by decide +kernel
theorem dX7_makeShort_56 : decode cX7_makeShort 56 = .ok (.aload_n 0, 1) := by decide +kernel
theorem dX7_makeShort_57 : decode cX7_makeShort 57 = .ok (.iconst 0, 1) := by decide +kernel
theorem dX7_makeShort_58 : decode cX7_makeShort 58 = .ok (.iload_n 3, 1) := by decide +kernel
theorem dX7_makeShort_59 : decode cX7_makeShort 59 = .ok (.iconst 2, 1) := by decide +kernel
theorem dX7_makeShort_60 : decode cX7_makeShort 60 = .ok (.iconst 1, 1) := by decide +kernel
theorem dX7_makeShort_61 : decode cX7_makeShort 61 = .ok (.invokevirtual 145, 3) := by decide +kernel
theorem dX7_makeShort_64 : decode cX7_makeShort 64 = .ok (.iinc 3 1, 3) := by decide +kernel
theorem dX7_makeShort_67 : decode cX7_makeShort 67 = .ok (.goto (-26), 3) := by decide +kernel
theorem dX7_makeShort_70 : decode cX7_makeShort 70 = .ok (.iload_n 2, 1) := by decide +kernel
theorem dX7_makeShort_71 : decode cX7_makeShort 71 = .ok (.iconst 4, 1) := by decide +kernel
theorem dX7_makeShort_72 : decode cX7_makeShort 72 = .ok (.if_icmp .le 9, 3) := by decide +kernel
theorem dX7_makeShort_75 : decode cX7_makeShort 75 = .ok (.aload_n 0, 1) := by decide +kernel
theorem dX7_makeShort_76 : decode cX7_makeShort 76 = .ok (.bipush 43, 2) := by decide +kernel
theorem dX7_makeShort_78 : decode cX7_makeShort 78 = .ok (.invokevirtual 141, 3) := by decide +kernel
theorem dX7_makeShort_81 : decode cX7_makeShort 81 = .ok (.aload_n 0, 1) := by decide +kernel
theorem dX7_makeShort_82 : decode cX7_makeShort 82 = .ok (.iload_n 1, 1) := by decide +kernel
theorem dX7_makeShort_83 : decode cX7_makeShort 83 = .ok (.iconst 2, 1) := by decide +kernel
theorem dX7_makeShort_84 : decode cX7_makeShort 84 = .ok (.invokevirtual 125, 3) := by decide +kernel
theorem dX7_makeShort_87 : decode cX7_makeShort 87 = .ok (.istore_n 3, 1) := by decide +kernel
theorem dX7_makeShort_88 : decode cX7_makeShort 88 = .ok (.iload_n 3, 1) := by decide +kernel
theorem dX7_makeShort_89 : decode cX7_makeShort 89 = .ok (.iconst (-1), 1) := by decide +kernel
theorem dX7_makeShort_90 : decode cX7_makeShort 90 = .ok (.if_icmp .eq 13, 3) := by decide +kernel
theorem dX7_makeShort_93 : decode cX7_makeShort 93 = .ok (.aload_n 0, 1) := by decide +kernel
theorem dX7_makeShort_94 : decode cX7_makeShort 94 = .ok (.getfield 19, 3) := by decide +kernel
theorem dX7_makeShort_97 : decode cX7_makeShort 97 = .ok (.iload_n 3, 1) := by decide +kernel
theorem dX7_makeShort_98 : decode cX7_makeShort 98 = .ok (.iaload, 1) := by decide +kernel
theorem dX7_makeShort_99 : decode cX7_makeShort 99 = .ok (.iconst 2, 1) := by decide +kernel
theorem dX7_makeShort_100 : decode cX7_makeShort 100 = .ok (.if_icmp .ge 7, 3) := by decide +kernel
theorem dX7_makeShort_103 : decode cX7_makeShort 103 = .ok (.iconst 0, 1) := by decide +kernel
theorem dX7_makeShort_104 : decode cX7_makeShort 104 = .ok (.goto 11, 3) := by decide +kernel
theorem dX7_makeShort_107 : decode cX7_makeShort 107 = .ok (.aload_n 0, 1) := by decide +kernel
theorem dX7_makeShort_108 : decode cX7_makeShort 108 = .ok (.getfield 19, 3) := by decide +kernel
theorem dX7_makeShort_111 : decode cX7_makeShort 111 = .ok (.iload_n 3, 1) := by decide +kernel
theorem dX7_makeShort_112 : decode cX7_makeShort 112 = .ok (.iaload, 1) := by decide +kernel
theorem dX7_makeShort_113 : decode cX7_makeShort 113 = .ok (.iconst 2, 1) := by decide +kernel
theorem dX7_makeShort_114 : decode cX7_makeShort 114 = .ok (.isub, 1) := by decide +kernel
theorem dX7_makeShort_115 : decode cX7_makeShort 115 = .ok (.istore 4, 2) := by decide +kernel
theorem dX7_makeShort_117 : decode cX7_makeShort 117 = .ok (.iload 4, 2) := by decide +kernel
theorem dX7_makeShort_119 : decode cX7_makeShort 119 = .ok (.istore 5, 2) := by decide +kernel
theorem dX7_makeShort_121 : decode cX7_makeShort 121 = .ok (.iload_n 3, 1) := by decide +kernel
theorem dX7_makeShort_122 : decode cX7_makeShort 122 = .ok (.iconst (-1), 1) := by decide +kernel
theorem dX7_makeShort_123 : decode cX7_makeShort 123 = .ok (.if_icmp .eq 36, 3) := by decide +kernel
theorem dX7_makeShort_126 : decode cX7_makeShort 126 = .ok (.iload 5, 2) := by decide +kernel
theorem dX7_makeShort_128 : decode cX7_makeShort 128 = .ok (.aload_n 0, 1) := by decide +kernel
theorem dX7_makeShort_129 : decode cX7_makeShort 129 = .ok (.getfield 19, 3) := by decide +kernel
theorem dX7_makeShort_132 : decode cX7_makeShort 132 = .ok (.iload_n 3, 1) := by decide +kernel
theorem dX7_makeShort_133 : decode cX7_makeShort 133 = .ok (.iaload, 1) := by decide +kernel
theorem dX7_makeShort_134 : decode cX7_makeShort 134 = .ok (.if_icmp .ge 25, 3) := by decide +kernel
theorem dX7_makeShort_137 : decode cX7_makeShort 137 = .ok (.aload_n 0, 1) := by decide +kernel
theorem dX7_makeShort_138 : decode cX7_makeShort 138 = .ok (.aload_n 0, 1) := by decide +kernel
theorem dX7_makeShort_139 : decode cX7_makeShort 139 = .ok (.getfield 22, 3) := by decide +kernel
theorem dX7_makeShort_142 : decode cX7_makeShort 142 = .ok (.bipush 80, 2) := by decide +kernel
theorem dX7_makeShort_144 : decode cX7_makeShort 144 = .ok (.iload_n 3, 1) := by decide +kernel
theorem dX7_makeShort_145 : decode cX7_makeShort 145 = .ok (.imul, 1) := by decide +kernel
theorem dX7_makeShort_146 : decode cX7_makeShort 146 = .ok (.iload 5, 2) := by decide +kernel
theorem dX7_makeShort_148 : decode cX7_makeShort 148 = .ok (.iadd, 1) := by decide +kernel
theorem dX7_makeShort_149 : decode cX7_makeShort 149 = .ok (.iaload, 1) := by decide +kernel
theorem dX7_makeShort_150 : decode cX7_makeShort 150 = .ok (.invokevirtual 141, 3) := by decide +kernel
theorem dX7_makeShort_153 : decode cX7_makeShort 153 = .ok (.iinc 5 1, 3) := by decide +kernel
theorem dX7_makeShort_156 : decode cX7_makeShort 156 = .ok (.goto (-35), 3) := by decide +kernel
theorem dX7_makeShort_159 : decode cX7_makeShort 159 = .ok (.return_, 1) := by decide +kernel
theorem dX7_makeLong_0 : decode cX7_makeLong 0 = .ok (.aload_n 0, 1) := by decide +kernel
theorem dX7_makeLong_1 : decode cX7_makeLong 1 = .ok (.iconst 0, 1) := by decide +kernel
theorem dX7_makeLong_2 : decode cX7_makeLong 2 = .ok (.iload_n 1, 1) := by decide +kernel
theorem dX7_makeLong_3 : decode cX7_makeLong 3 = .ok (.invokevirtual 166, 3) := by decide +kernel
theorem dX7_makeLong_6 : decode cX7_makeLong 6 = .ok (.aload_n 0, 1) := by decide +kernel
theorem dX7_makeLong_7 : decode cX7_makeLong 7 = .ok (.getfield 49, 3) := by decide +kernel
theorem dX7_makeLong_10 : decode cX7_makeLong 10 = .ok (.iconst 0, 1) := by decide +kernel
theorem dX7_makeLong_11 : decode cX7_makeLong 11 = .ok (.iaload, 1) := by decide +kernel
theorem dX7_makeLong_12 : decode cX7_makeLong 12 = .ok (.istore_n 3, 1) := by decide +kernel
theorem dX7_makeLong_13 : decode cX7_makeLong 13 = .ok (.iload_n 3, 1) := by decide +kernel
theorem dX7_makeLong_14 : decode cX7_makeLong 14 = .ok (.ifCond .ne 13, 3) := by decide +kernel
theorem dX7_makeLong_17 : decode cX7_makeLong 17 = .ok (.aload_n 0, 1) := by decide +kernel
theorem dX7_makeLong_18 : decode cX7_makeLong 18 = .ok (.iload_n 1, 1) := by decide +kernel
theorem dX7_makeLong_19 : decode cX7_makeLong 19 = .ok (.bipush 16, 2) := by decide +kernel
theorem dX7_makeLong_21 : decode cX7_makeLong 21 = .ok (.invokevirtual 195, 3) := by decide +kernel
theorem dX7_makeLong_24 : decode cX7_makeLong 24 = .ok (.goto 35, 3) := by decide +kernel
theorem dX7_makeLong_27 : decode cX7_makeLong 27 = .ok (.iload_n 2, 1) := by decide +kernel
theorem dX7_makeLong_28 : decode cX7_makeLong 28 = .ok (.ifCond .eq 25, 3) := by decide +kernel
theorem dX7_makeLong_31 : decode cX7_makeLong 31 = .ok (.aload_n 0, 1) := by decide +kernel
theorem dX7_makeLong_32 : decode cX7_makeLong 32 = .ok (.iconst 0, 1) := by decide +kernel
theorem dX7_makeLong_33 : decode cX7_makeLong 33 = .ok (.iconst 0, 1) := by decide +kernel
theorem dX7_makeLong_34 : decode cX7_makeLong 34 = .ok (.iconst 0, 1) := by decide +kernel
theorem dX7_makeLong_35 : decode cX7_makeLong 35 = .ok (.invokevirtual 149, 3) := by decide +kernel
theorem dX7_makeLong_38 : decode cX7_makeLong 38 = .ok (.ifCond .eq 15, 3) := by decide +kernel
theorem dX7_makeLong_41 : decode cX7_makeLong 41 = .ok (.aload_n 0, 1) := by decide +kernel
theorem dX7_makeLong_42 : decode cX7_makeLong 42 = .ok (.iconst 0, 1) := by decide +kernel
theorem dX7_makeLong_43 : decode cX7_makeLong 43 = .ok (.iconst 0, 1) := by decide +kernel
theorem dX7_makeLong_44 : decode cX7_makeLong 44 = .ok (.invokevirtual 192, 3) := by decide +kernel
theorem dX7_makeLong_47 : decode cX7_makeLong 47 = .ok (.aload_n 0, 1) := by decide +kernel
theorem dX7_makeLong_48 : decode cX7_makeLong 48 = .ok (.bipush 32, 2) := by decide +kernel
theorem dX7_makeLong_50 : decode cX7_makeLong 50 = .ok (.invokevirtual 141, 3) := by decide +kernel
theorem dX7_makeLong_53 : decode cX7_makeLong 53 = .ok (.aload_n 0, 1) := by decide +kernel
theorem dX7_makeLong_54 : decode cX7_makeLong 54 = .ok (.iconst 0, 1) := by decide +kernel
theorem dX7_makeLong_55 : decode cX7_makeLong 55 = .ok (.iconst 0, 1) := by decide +kernel
theorem dX7_makeLong_56 : decode cX7_makeLong 56 = .ok (.invokevirtual 198, 3) := by decide +kernel
theorem dX7_makeLong_59 : decode cX7_makeLong 59 = .ok (.iload_n 3, 1) := by decide +kernel
theorem dX7_makeLong_60 : decode cX7_makeLong 60 = .ok (.iconst 2, 1) := by decide +kernel
theorem dX7_makeLong_61 : decode cX7_makeLong 61 = .ok (.if_icmp .ne 16, 3) := by decide +kernel
theorem dX7_makeLong_64 : decode cX7_makeLong 64 = .ok (.aload_n 0, 1) := by decide +kernel
theorem dX7_makeLong_65 : decode cX7_makeLong 65 = .ok (.ldc2_w 201, 3) := by decide +kernel
theorem dX7_makeLong_68 : decode cX7_makeLong 68 = .ok (.invokevirtual 203, 3) := by decide +kernel
theorem dX7_makeLong_71 : decode cX7_makeLong 71 = .ok (.aload_n 0, 1) := by decide +kernel
theorem dX7_makeLong_72 : decode cX7_makeLong 72 = .ok (.iconst 0, 1) := by decide +kernel
theorem dX7_makeLong_73 : decode cX7_makeLong 73 = .ok (.iconst 1, 1) := by decide +kernel
theorem dX7_makeLong_74 : decode cX7_makeLong 74 = .ok (.invokevirtual 198, 3) := by decide +kernel
theorem dX7_makeLong_77 : decode cX7_makeLong 77 = .ok (.iload_n 3, 1) := by decide +kernel
theorem dX7_makeLong_78 : decode cX7_makeLong 78 = .ok (.iconst 2, 1) := by decide +kernel
theorem dX7_makeLong_79 : decode cX7_makeLong 79 = .ok (.if_icmp .le 10, 3) := by decide +kernel
theorem dX7_makeLong_82 : decode cX7_makeLong 82 = .ok (.aload_n 0, 1) := by decide +kernel
theorem dX7_makeLong_83 : decode cX7_makeLong 83 = .ok (.ldc2_w 207, 3) := by decide +kernel
theorem dX7_makeLong_86 : decode cX7_makeLong 86 = .ok (.invokevirtual 203, 3) := by decide +kernel
theorem dX7_makeLong_89 : decode cX7_makeLong 89 = .ok (.aload_n 0, 1) := by decide +kernel
theorem dX7_makeLong_90 : decode cX7_makeLong 90 = .ok (.iload_n 1, 1) := by decide +kernel
theorem dX7_makeLong_91 : decode cX7_makeLong 91 = .ok (.iconst 2, 1) := by decide +kernel
theorem dX7_makeLong_92 : decode cX7_makeLong 92 = .ok (.invokevirtual 125, 3) := by decide +kernel
theorem dX7_makeLong_95 : decode cX7_makeLong 95 = .ok (.istore 4, 2) := by decide +kernel
theorem dX7_makeLong_97 : decode cX7_makeLong 97 = .ok (.iload 4, 2) := by decide +kernel
theorem dX7_makeLong_99 : decode cX7_makeLong 99 = .ok (.iconst (-1), 1) := by decide +kernel
theorem dX7_makeLong_100 : decode cX7_makeLong 100 = .ok (.if_icmp .eq 15, 3) := by decide +kernel
theorem dX7_makeLong_103 : decode cX7_makeLong 103 = .ok (.aload_n 0, 1) := by decide +kernel
theorem dX7_makeLong_104 : decode cX7_makeLong 104 = .ok (.bipush 32, 2) := by decide +kernel
theorem dX7_makeLong_106 : decode cX7_makeLong 106 = .ok (.invokevirtual 141, 3) := by decide +kernel
theorem dX7_makeLong_109 : decode cX7_makeLong 109 = .ok (.aload_n 0, 1) := by decide +kernel
theorem dX7_makeLong_110 : decode cX7_makeLong 110 = .ok (.iload 4, 2) := by decide +kernel
theorem dX7_makeLong_112 : decode cX7_makeLong 112 = .ok (.invokevirtual 173, 3) := by decide +kernel
theorem dX7_makeLong_115 : decode cX7_makeLong 115 = .ok (.return_, 1) := by decide +kernel
theorem dX7_makeBase_0 : decode cX7_makeBase 0 = .ok (.aload_n 0, 1) := by decide +kernel
theorem dX7_makeBase_1 : decode cX7_makeBase 1 = .ok (.getfield 58, 3) := by decide +kernel
theorem dX7_makeBase_4 : decode cX7_makeBase 4 = .ok (.iload_n 1, 1) := by decide +kernel
theorem dX7_makeBase_5 : decode cX7_makeBase 5 = .ok (.iaload, 1) := by decide +kernel
theorem dX7_makeBase_6 : decode cX7_makeBase 6 = .ok (.istore_n 2, 1) := by decide +kernel
theorem dX7_makeBase_7 : decode cX7_makeBase 7 = .ok (.aload_n 0, 1) := by decide +kernel
theorem dX7_makeBase_8 : decode cX7_makeBase 8 = .ok (.getfield 116, 3) := by decide +kernel
theorem dX7_makeBase_11 : decode cX7_makeBase 11 = .ok (.iconst 2, 1) := by decide +kernel
theorem dX7_makeBase_12 : decode cX7_makeBase 12 = .ok (.if_icmp .ne 15, 3) := by decide +kernel
theorem dX7_makeBase_15 : decode cX7_makeBase 15 = .ok (.aload_n 0, 1) := by decide +kernel
theorem dX7_makeBase_16 : decode cX7_makeBase 16 = .ok (.iload_n 2, 1) := by decide +kernel
theorem dX7_makeBase_17 : decode cX7_makeBase 17 = .ok (.invokevirtual 209, 3) := by decide +kernel
theorem dX7_makeBase_20 : decode cX7_makeBase 20 = .ok (.ifCond .eq 7, 3) := by decide +kernel
theorem dX7_makeBase_23 : decode cX7_makeBase 23 = .ok (.iconst 1, 1) := by decide +kernel
theorem dX7_makeBase_24 : decode cX7_makeBase 24 = .ok (.goto 4, 3) := by decide +kernel
theorem dX7_makeBase_27 : decode cX7_makeBase 27 = .ok (.iconst 0, 1) := by decide +kernel
theorem dX7_makeBase_28 : decode cX7_makeBase 28 = .ok (.istore_n 3, 1) := by decide +kernel
theorem dX7_makeBase_29 : decode cX7_makeBase 29 = .ok (.aload_n 0, 1) := by decide +kernel
theorem dX7_makeBase_30 : decode cX7_makeBase 30 = .ok (.iconst 0, 1) := by decide +kernel
theorem dX7_makeBase_31 : decode cX7_makeBase 31 = .ok (.putfield 136, 3) := by decide +kernel
theorem dX7_makeBase_34 : decode cX7_makeBase 34 = .ok (.aload_n 0, 1) := by decide +kernel
theorem dX7_makeBase_35 : decode cX7_makeBase 35 = .ok (.getfield 116, 3) := by decide +kernel
theorem dX7_makeBase_38 : decode cX7_makeBase 38 = .ok (.iconst 1, 1) := by decide +kernel
theorem dX7_makeBase_39 : decode cX7_makeBase 39 = .ok (.if_icmp .ne 11, 3) := by decide +kernel
theorem dX7_makeBase_42 : decode cX7_makeBase 42 = .ok (.aload_n 0, 1) := by decide +kernel
theorem dX7_makeBase_43 : decode cX7_makeBase 43 = .ok (.iload_n 2, 1) := by decide +kernel
theorem dX7_makeBase_44 : decode cX7_makeBase 44 = .ok (.invokevirtual 212, 3) := by decide +kernel
theorem dX7_makeBase_47 : decode cX7_makeBase 47 = .ok (.goto 17, 3) := by decide +kernel
theorem dX7_makeBase_50 : decode cX7_makeBase 50 = .ok (.aload_n 0, 1) := by decide +kernel
theorem dX7_makeBase_51 : decode cX7_makeBase 51 = .ok (.getfield 116, 3) := by decide +kernel
theorem dX7_makeBase_54 : decode cX7_makeBase 54 = .ok (.iconst 2, 1) := by decide +kernel
theorem dX7_makeBase_55 : decode cX7_makeBase 55 = .ok (.if_icmp .ne 9, 3) := by decide +kernel
theorem dX7_makeBase_58 : decode cX7_makeBase 58 = .ok (.aload_n 0, 1) := by decide +kernel
theorem dX7_makeBase_59 : decode cX7_makeBase 59 = .ok (.iload_n 2, 1) := by decide +kernel
theorem dX7_makeBase_60 : decode cX7_makeBase 60 = .ok (.iload_n 3, 1) := by decide +kernel
theorem dX7_makeBase_61 : decode cX7_makeBase 61 = .ok (.invokevirtual 215, 3) := by decide +kernel
theorem dX7_makeBase_64 : decode cX7_makeBase 64 = .ok (.aload_n 0, 1) := by decide +kernel
theorem dX7_makeBase_65 : decode cX7_makeBase 65 = .ok (.getfield 64, 3) := by decide +kernel
theorem dX7_makeBase_68 : decode cX7_makeBase 68 = .ok (.iload_n 1, 1) := by decide +kernel
theorem dX7_makeBase_69 : decode cX7_makeBase 69 = .ok (.aload_n 0, 1) := by decide +kernel
theorem dX7_makeBase_70 : decode cX7_makeBase 70 = .ok (.getfield 136, 3) := by decide +kernel
theorem dX7_makeBase_73 : decode cX7_makeBase 73 = .ok (.iastore, 1) := by decide +kernel
theorem dX7_makeBase_74 : decode cX7_makeBase 74 = .ok (.iconst 0, 1) := by decide +kernel
end
section
theorem dX7_makeBase_75 : decode cX7_makeBase 75 = .ok (.istore 4, 2) := by decide +kernel
theorem dX7_makeBase_77 : decode cX7_makeBase 77 = .ok (.iload 4, 2) := by decide +kernel
theorem dX7_makeBase_79 : decode cX7_makeBase 79 = .ok (.aload_n 0, 1) := by decide +kernel
theorem dX7_makeBase_80 : decode cX7_makeBase 80 = .ok (.getfield 136, 3) := by decide +kernel
theorem dX7_makeBase_83 : decode cX7_makeBase 83 = .ok (.if_icmp .ge 29, 3) := by decide +kernel
theorem dX7_makeBase_86 : decode cX7_makeBase 86 = .ok (.aload_n 0, 1) := by decide +kernel
theorem dX7_makeBase_87 : decode cX7_makeBase 87 = .ok (.getfield 67, 3) := by decide +kernel
theorem dX7_makeBase_90 : decode cX7_makeBase 90 = .ok (.sipush 400, 3) := by decide +kernel
theorem dX7_makeBase_93 : decode cX7_makeBase 93 = .ok (.iload_n 1, 1) := by decide +kernel
theorem dX7_makeBase_94 : decode cX7_makeBase 94 = .ok (.imul, 1) := by decide +kernel
theorem dX7_makeBase_95 : decode cX7_makeBase 95 = .ok (.iload 4, 2) := by decide +kernel
theorem dX7_makeBase_97 : decode cX7_makeBase 97 = .ok (.iadd, 1) := by decide +kernel
theorem dX7_makeBase_98 : decode cX7_makeBase 98 = .ok (.aload_n 0, 1) := by decide +kernel
theorem dX7_makeBase_99 : decode cX7_makeBase 99 = .ok (.getfield 52, 3) := by decide +kernel
theorem dX7_makeBase_102 : decode cX7_makeBase 102 = .ok (.iload 4, 2) := by decide +kernel
theorem dX7_makeBase_104 : decode cX7_makeBase 104 = .ok (.iaload, 1) := by decide +kernel
theorem dX7_makeBase_105 : decode cX7_makeBase 105 = .ok (.iastore, 1) := by decide +kernel
theorem dX7_makeBase_106 : decode cX7_makeBase 106 = .ok (.iinc 4 1, 3) := by decide +kernel
theorem dX7_makeBase_109 : decode cX7_makeBase 109 = .ok (.goto (-32), 3) := by decide +kernel
theorem dX7_makeBase_112 : decode cX7_makeBase 112 = .ok (.return_, 1) := by decide +kernel
theorem dX7_isSameBase_0 : decode cX7_isSameBase 0 = .ok (.aload_n 0, 1) := by decide +kernel
theorem dX7_isSameBase_1 : decode cX7_isSameBase 1 = .ok (.getfield 64, 3) := by decide +kernel
theorem dX7_isSameBase_4 : decode cX7_isSameBase 4 = .ok (.iload_n 1, 1) := by decide +kernel
theorem dX7_isSameBase_5 : decode cX7_isSameBase 5 = .ok (.iaload, 1) := by decide +kernel
theorem dX7_isSameBase_6 : decode cX7_isSameBase 6 = .ok (.aload_n 0, 1) := by decide +kernel
theorem dX7_isSameBase_7 : decode cX7_isSameBase 7 = .ok (.getfield 64, 3) := by decide +kernel
theorem dX7_isSameBase_10 : decode cX7_isSameBase 10 = .ok (.iload_n 2, 1) := by decide +kernel
theorem dX7_isSameBase_11 : decode cX7_isSameBase 11 = .ok (.iaload, 1) := by decide +kernel
theorem dX7_isSameBase_12 : decode cX7_isSameBase 12 = .ok (.if_icmp .ne 7, 3) := by decide +kernel
theorem dX7_isSameBase_15 : decode cX7_isSameBase 15 = .ok (.iconst 1, 1) := by decide +kernel
theorem dX7_isSameBase_16 : decode cX7_isSameBase 16 = .ok (.goto 4, 3) := by decide +kernel
theorem dX7_isSameBase_19 : decode cX7_isSameBase 19 = .ok (.iconst 0, 1) := by decide +kernel
theorem dX7_isSameBase_20 : decode cX7_isSameBase 20 = .ok (.istore_n 3, 1) := by decide +kernel
theorem dX7_isSameBase_21 : decode cX7_isSameBase 21 = .ok (.iconst 0, 1) := by decide +kernel
theorem dX7_isSameBase_22 : decode cX7_isSameBase 22 = .ok (.istore 4, 2) := by decide +kernel
theorem dX7_isSameBase_24 : decode cX7_isSameBase 24 = .ok (.iload 4, 2) := by decide +kernel
theorem dX7_isSameBase_26 : decode cX7_isSameBase 26 = .ok (.aload_n 0, 1) := by decide +kernel
theorem dX7_isSameBase_27 : decode cX7_isSameBase 27 = .ok (.getfield 64, 3) := by decide +kernel
theorem dX7_isSameBase_30 : decode cX7_isSameBase 30 = .ok (.iload_n 1, 1) := by decide +kernel
theorem dX7_isSameBase_31 : decode cX7_isSameBase 31 = .ok (.iaload, 1) := by decide +kernel
theorem dX7_isSameBase_32 : decode cX7_isSameBase 32 = .ok (.if_icmp .ge 48, 3) := by decide +kernel
theorem dX7_isSameBase_35 : decode cX7_isSameBase 35 = .ok (.iload_n 3, 1) := by decide +kernel
theorem dX7_isSameBase_36 : decode cX7_isSameBase 36 = .ok (.ifCond .eq 44, 3) := by decide +kernel
theorem dX7_isSameBase_39 : decode cX7_isSameBase 39 = .ok (.aload_n 0, 1) := by decide +kernel
theorem dX7_isSameBase_40 : decode cX7_isSameBase 40 = .ok (.getfield 67, 3) := by decide +kernel
theorem dX7_isSameBase_43 : decode cX7_isSameBase 43 = .ok (.sipush 400, 3) := by decide +kernel
theorem dX7_isSameBase_46 : decode cX7_isSameBase 46 = .ok (.iload_n 1, 1) := by decide +kernel
theorem dX7_isSameBase_47 : decode cX7_isSameBase 47 = .ok (.imul, 1) := by decide +kernel
theorem dX7_isSameBase_48 : decode cX7_isSameBase 48 = .ok (.iload 4, 2) := by decide +kernel
theorem dX7_isSameBase_50 : decode cX7_isSameBase 50 = .ok (.iadd, 1) := by decide +kernel
theorem dX7_isSameBase_51 : decode cX7_isSameBase 51 = .ok (.iaload, 1) := by decide +kernel
theorem dX7_isSameBase_52 : decode cX7_isSameBase 52 = .ok (.aload_n 0, 1) := by decide +kernel
theorem dX7_isSameBase_53 : decode cX7_isSameBase 53 = .ok (.getfield 67, 3) := by decide +kernel
theorem dX7_isSameBase_56 : decode cX7_isSameBase 56 = .ok (.sipush 400, 3) := by decide +kernel
theorem dX7_isSameBase_59 : decode cX7_isSameBase 59 = .ok (.iload_n 2, 1) := by decide +kernel
theorem dX7_isSameBase_60 : decode cX7_isSameBase 60 = .ok (.imul, 1) := by decide +kernel
theorem dX7_isSameBase_61 : decode cX7_isSameBase 61 = .ok (.iload 4, 2) := by decide +kernel
theorem dX7_isSameBase_63 : decode cX7_isSameBase 63 = .ok (.iadd, 1) := by decide +kernel
theorem dX7_isSameBase_64 : decode cX7_isSameBase 64 = .ok (.iaload, 1) := by decide +kernel
theorem dX7_isSameBase_65 : decode cX7_isSameBase 65 = .ok (.if_icmp .ne 7, 3) := by decide +kernel
theorem dX7_isSameBase_68 : decode cX7_isSameBase 68 = .ok (.iconst 1, 1) := by decide +kernel
theorem dX7_isSameBase_69 : decode cX7_isSameBase 69 = .ok (.goto 4, 3) := by decide +kernel
theorem dX7_isSameBase_72 : decode cX7_isSameBase 72 = .ok (.iconst 0, 1) := by decide +kernel
theorem dX7_isSameBase_73 : decode cX7_isSameBase 73 = .ok (.istore_n 3, 1) := by decide +kernel
theorem dX7_isSameBase_74 : decode cX7_isSameBase 74 = .ok (.iinc 4 1, 3) := by decide +kernel
theorem dX7_isSameBase_77 : decode cX7_isSameBase 77 = .ok (.goto (-53), 3) := by decide +kernel
theorem dX7_isSameBase_80 : decode cX7_isSameBase 80 = .ok (.iload_n 3, 1) := by decide +kernel
theorem dX7_isSameBase_81 : decode cX7_isSameBase 81 = .ok (.ireturn, 1) := by decide +kernel
theorem dX7_setLetters_0 : decode cX7_setLetters 0 = .ok (.iconst 0, 1) := by decide +kernel
theorem dX7_setLetters_1 : decode cX7_setLetters 1 = .ok (.istore_n 1, 1) := by decide +kernel
theorem dX7_setLetters_2 : decode cX7_setLetters 2 = .ok (.iload_n 1, 1) := by decide +kernel
theorem dX7_setLetters_3 : decode cX7_setLetters 3 = .ok (.aload_n 0, 1) := by decide +kernel
theorem dX7_setLetters_4 : decode cX7_setLetters 4 = .ok (.getfield 183, 3) := by decide +kernel
theorem dX7_setLetters_7 : decode cX7_setLetters 7 = .ok (.if_icmp .ge 83, 3) := by decide +kernel
theorem dX7_setLetters_10 : decode cX7_setLetters 10 = .ok (.iconst 0, 1) := by decide +kernel
theorem dX7_setLetters_11 : decode cX7_setLetters 11 = .ok (.istore_n 2, 1) := by decide +kernel
theorem dX7_setLetters_12 : decode cX7_setLetters 12 = .ok (.iconst 0, 1) := by decide +kernel
theorem dX7_setLetters_13 : decode cX7_setLetters 13 = .ok (.istore_n 3, 1) := by decide +kernel
theorem dX7_setLetters_14 : decode cX7_setLetters 14 = .ok (.iconst 0, 1) := by decide +kernel
theorem dX7_setLetters_15 : decode cX7_setLetters 15 = .ok (.istore 4, 2) := by decide +kernel
theorem dX7_setLetters_17 : decode cX7_setLetters 17 = .ok (.iload 4, 2) := by decide +kernel
theorem dX7_setLetters_19 : decode cX7_setLetters 19 = .ok (.aload_n 0, 1) := by decide +kernel
theorem dX7_setLetters_20 : decode cX7_setLetters 20 = .ok (.getfield 183, 3) := by decide +kernel
theorem dX7_setLetters_23 : decode cX7_setLetters 23 = .ok (.if_icmp .ge 36, 3) := by decide +kernel
theorem dX7_setLetters_26 : decode cX7_setLetters 26 = .ok (.aload_n 0, 1) := by decide +kernel
theorem dX7_setLetters_27 : decode cX7_setLetters 27 = .ok (.iload_n 1, 1) := by decide +kernel
theorem dX7_setLetters_28 : decode cX7_setLetters 28 = .ok (.iload 4, 2) := by decide +kernel
theorem dX7_setLetters_30 : decode cX7_setLetters 30 = .ok (.invokevirtual 219, 3) := by decide +kernel
theorem dX7_setLetters_33 : decode cX7_setLetters 33 = .ok (.ifCond .eq 20, 3) := by decide +kernel
theorem dX7_setLetters_36 : decode cX7_setLetters 36 = .ok (.iinc 3 1, 3) := by decide +kernel
theorem dX7_setLetters_39 : decode cX7_setLetters 39 = .ok (.iload 4, 2) := by decide +kernel
theorem dX7_setLetters_41 : decode cX7_setLetters 41 = .ok (.iload_n 1, 1) := by decide +kernel
theorem dX7_setLetters_42 : decode cX7_setLetters 42 = .ok (.if_icmp .gt 9, 3) := by decide +kernel
theorem dX7_setLetters_45 : decode cX7_setLetters 45 = .ok (.iload_n 2, 1) := by decide +kernel
theorem dX7_setLetters_46 : decode cX7_setLetters 46 = .ok (.iconst 1, 1) := by decide +kernel
theorem dX7_setLetters_47 : decode cX7_setLetters 47 = .ok (.iadd, 1) := by decide +kernel
theorem dX7_setLetters_48 : decode cX7_setLetters 48 = .ok (.goto 4, 3) := by decide +kernel
theorem dX7_setLetters_51 : decode cX7_setLetters 51 = .ok (.iload_n 2, 1) := by decide +kernel
theorem dX7_setLetters_52 : decode cX7_setLetters 52 = .ok (.istore_n 2, 1) := by decide +kernel
theorem dX7_setLetters_53 : decode cX7_setLetters 53 = .ok (.iinc 4 1, 3) := by decide +kernel
theorem dX7_setLetters_56 : decode cX7_setLetters 56 = .ok (.goto (-39), 3) := by decide +kernel
theorem dX7_setLetters_59 : decode cX7_setLetters 59 = .ok (.aload_n 0, 1) := by decide +kernel
theorem dX7_setLetters_60 : decode cX7_setLetters 60 = .ok (.getfield 61, 3) := by decide +kernel
theorem dX7_setLetters_63 : decode cX7_setLetters 63 = .ok (.iload_n 1, 1) := by decide +kernel
theorem dX7_setLetters_64 : decode cX7_setLetters 64 = .ok (.aload_n 0, 1) := by decide +kernel
theorem dX7_setLetters_65 : decode cX7_setLetters 65 = .ok (.getfield 64, 3) := by decide +kernel
theorem dX7_setLetters_68 : decode cX7_setLetters 68 = .ok (.iload_n 1, 1) := by decide +kernel
theorem dX7_setLetters_69 : decode cX7_setLetters 69 = .ok (.iaload, 1) := by decide +kernel
theorem dX7_setLetters_70 : decode cX7_setLetters 70 = .ok (.ifCond .le 12, 3) := by decide +kernel
theorem dX7_setLetters_73 : decode cX7_setLetters 73 = .ok (.iload_n 3, 1) := by decide +kernel
theorem dX7_setLetters_74 : decode cX7_setLetters 74 = .ok (.iconst 1, 1) := by decide +kernel
theorem dX7_setLetters_75 : decode cX7_setLetters 75 = .ok (.if_icmp .le 7, 3) := by decide +kernel
theorem dX7_setLetters_78 : decode cX7_setLetters 78 = .ok (.iload_n 2, 1) := by decide +kernel
theorem dX7_setLetters_79 : decode cX7_setLetters 79 = .ok (.goto 4, 3) := by decide +kernel
theorem dX7_setLetters_82 : decode cX7_setLetters 82 = .ok (.iconst 0, 1) := by decide +kernel
theorem dX7_setLetters_83 : decode cX7_setLetters 83 = .ok (.iastore, 1) := by decide +kernel
theorem dX7_setLetters_84 : decode cX7_setLetters 84 = .ok (.iinc 1 1, 3) := by decide +kernel
theorem dX7_setLetters_87 : decode cX7_setLetters 87 = .ok (.goto (-85), 3) := by decide +kernel
theorem dX7_setLetters_90 : decode cX7_setLetters 90 = .ok (.return_, 1) := by decide +kernel
theorem dX7_nextPiece_0 : decode cX7_nextPiece 0 = .ok (.aload_n 0, 1) := by decide +kernel
theorem dX7_nextPiece_1 : decode cX7_nextPiece 1 = .ok (.aload_n 0, 1) := by decide +kernel
theorem dX7_nextPiece_2 : decode cX7_nextPiece 2 = .ok (.getfield 136, 3) := by decide +kernel
theorem dX7_nextPiece_5 : decode cX7_nextPiece 5 = .ok (.aload_n 0, 1) := by decide +kernel
theorem dX7_nextPiece_6 : decode cX7_nextPiece 6 = .ok (.getfield 223, 3) := by decide +kernel
theorem dX7_nextPiece_9 : decode cX7_nextPiece 9 = .ok (.if_icmp .le 8, 3) := by decide +kernel
theorem dX7_nextPiece_12 : decode cX7_nextPiece 12 = .ok (.bipush 46, 2) := by decide +kernel
theorem dX7_nextPiece_14 : decode cX7_nextPiece 14 = .ok (.goto 5, 3) := by decide +kernel
theorem dX7_nextPiece_17 : decode cX7_nextPiece 17 = .ok (.bipush 32, 2) := by decide +kernel
theorem dX7_nextPiece_19 : decode cX7_nextPiece 19 = .ok (.invokevirtual 141, 3) := by decide +kernel
theorem dX7_nextPiece_22 : decode cX7_nextPiece 22 = .ok (.aload_n 0, 1) := by decide +kernel
theorem dX7_nextPiece_23 : decode cX7_nextPiece 23 = .ok (.getfield 136, 3) := by decide +kernel
theorem dX7_nextPiece_26 : decode cX7_nextPiece 26 = .ok (.iconst 1, 1) := by decide +kernel
theorem dX7_nextPiece_27 : decode cX7_nextPiece 27 = .ok (.isub, 1) := by decide +kernel
theorem dX7_nextPiece_28 : decode cX7_nextPiece 28 = .ok (.aload_n 0, 1) := by decide +kernel
theorem dX7_nextPiece_29 : decode cX7_nextPiece 29 = .ok (.getfield 223, 3) := by decide +kernel
theorem dX7_nextPiece_32 : decode cX7_nextPiece 32 = .ok (.if_icmp .le 9, 3) := by decide +kernel
theorem dX7_nextPiece_35 : decode cX7_nextPiece 35 = .ok (.aload_n 0, 1) := by decide +kernel
theorem dX7_nextPiece_36 : decode cX7_nextPiece 36 = .ok (.bipush 32, 2) := by decide +kernel
theorem dX7_nextPiece_38 : decode cX7_nextPiece 38 = .ok (.invokevirtual 141, 3) := by decide +kernel
theorem dX7_nextPiece_41 : decode cX7_nextPiece 41 = .ok (.return_, 1) := by decide +kernel
theorem dX7_putFull_0 : decode cX7_putFull 0 = .ok (.aload_n 0, 1) := by decide +kernel
theorem dX7_putFull_1 : decode cX7_putFull 1 = .ok (.iconst 0, 1) := by decide +kernel
theorem dX7_putFull_2 : decode cX7_putFull 2 = .ok (.iload_n 1, 1) := by decide +kernel
theorem dX7_putFull_3 : decode cX7_putFull 3 = .ok (.invokevirtual 198, 3) := by decide +kernel
theorem dX7_putFull_6 : decode cX7_putFull 6 = .ok (.aload_n 0, 1) := by decide +kernel
theorem dX7_putFull_7 : decode cX7_putFull 7 = .ok (.iconst 0, 1) := by decide +kernel
theorem dX7_putFull_8 : decode cX7_putFull 8 = .ok (.iload_n 1, 1) := by decide +kernel
theorem dX7_putFull_9 : decode cX7_putFull 9 = .ok (.iconst 0, 1) := by decide +kernel
theorem dX7_putFull_10 : decode cX7_putFull 10 = .ok (.invokevirtual 149, 3) := by decide +kernel
theorem dX7_putFull_13 : decode cX7_putFull 13 = .ok (.ifCond .eq 21, 3) := by decide +kernel
theorem dX7_putFull_16 : decode cX7_putFull 16 = .ok (.aload_n 0, 1) := by decide +kernel
theorem dX7_putFull_17 : decode cX7_putFull 17 = .ok (.bipush 44, 2) := by decide +kernel
theorem dX7_putFull_19 : decode cX7_putFull 19 = .ok (.invokevirtual 141, 3) := by decide +kernel
theorem dX7_putFull_22 : decode cX7_putFull 22 = .ok (.aload_n 0, 1) := by decide +kernel
theorem dX7_putFull_23 : decode cX7_putFull 23 = .ok (.bipush 32, 2) := by decide +kernel
theorem dX7_putFull_25 : decode cX7_putFull 25 = .ok (.invokevirtual 141, 3) := by decide +kernel
theorem dX7_putFull_28 : decode cX7_putFull 28 = .ok (.aload_n 0, 1) := by decide +kernel
theorem dX7_putFull_29 : decode cX7_putFull 29 = .ok (.iconst 0, 1) := by decide +kernel
theorem dX7_putFull_30 : decode cX7_putFull 30 = .ok (.iload_n 1, 1) := by decide +kernel
theorem dX7_putFull_31 : decode cX7_putFull 31 = .ok (.invokevirtual 192, 3) := by decide +kernel
theorem dX7_putFull_34 : decode cX7_putFull 34 = .ok (.return_, 1) := by decide +kernel
theorem dX7_piecePersons_0 : decode cX7_piecePersons 0 = .ok (.aload_n 0, 1) := by decide +kernel
theorem dX7_piecePersons_1 : decode cX7_piecePersons 1 = .ok (.iconst 0, 1) := by decide +kernel
theorem dX7_piecePersons_2 : decode cX7_piecePersons 2 = .ok (.iload_n 1, 1) := by decide +kernel
theorem dX7_piecePersons_3 : decode cX7_piecePersons 3 = .ok (.invokevirtual 166, 3) := by decide +kernel
theorem dX7_piecePersons_6 : decode cX7_piecePersons 6 = .ok (.aload_n 0, 1) := by decide +kernel
theorem dX7_piecePersons_7 : decode cX7_piecePersons 7 = .ok (.getfield 49, 3) := by decide +kernel
theorem dX7_piecePersons_10 : decode cX7_piecePersons 10 = .ok (.iconst 0, 1) := by decide +kernel
theorem dX7_piecePersons_11 : decode cX7_piecePersons 11 = .ok (.iaload, 1) := by decide +kernel
theorem dX7_piecePersons_12 : decode cX7_piecePersons 12 = .ok (.istore_n 2, 1) := by decide +kernel
theorem dX7_piecePersons_13 : decode cX7_piecePersons 13 = .ok (.iload_n 2, 1) := by decide +kernel
theorem dX7_piecePersons_14 : decode cX7_piecePersons 14 = .ok (.ifCond .ne 4, 3) := by decide +kernel
theorem dX7_piecePersons_17 : decode cX7_piecePersons 17 = .ok (.return_, 1) := by decide +kernel
theorem dX7_piecePersons_18 : decode cX7_piecePersons 18 = .ok (.aload_n 0, 1) := by decide +kernel
theorem dX7_piecePersons_19 : decode cX7_piecePersons 19 = .ok (.invokevirtual 226, 3) := by decide +kernel
theorem dX7_piecePersons_22 : decode cX7_piecePersons 22 = .ok (.iload_n 2, 1) := by decide +kernel
theorem dX7_piecePersons_23 : decode cX7_piecePersons 23 = .ok (.iconst 3, 1) := by decide +kernel
theorem dX7_piecePersons_24 : decode cX7_piecePersons 24 = .ok (.if_icmp .le 16, 3) := by decide +kernel
theorem dX7_piecePersons_27 : decode cX7_piecePersons 27 = .ok (.aload_n 0, 1) := by decide +kernel
theorem dX7_piecePersons_28 : decode cX7_piecePersons 28 = .ok (.iconst 0, 1) := by decide +kernel
theorem dX7_piecePersons_29 : decode cX7_piecePersons 29 = .ok (.invokevirtual 229, 3) := by decide +kernel
theorem dX7_piecePersons_32 : decode cX7_piecePersons 32 = .ok (.aload_n 0, 1) := by decide +kernel
theorem dX7_piecePersons_33 : decode cX7_piecePersons 33 = .ok (.ldc2_w 207, 3) := by decide +kernel
theorem dX7_piecePersons_36 : decode cX7_piecePersons 36 = .ok (.invokevirtual 203, 3) := by decide +kernel
theorem dX7_piecePersons_39 : decode cX7_piecePersons 39 = .ok (.return_, 1) := by decide +kernel
theorem dX7_piecePersons_40 : decode cX7_piecePersons 40 = .ok (.iconst 0, 1) := by decide +kernel
theorem dX7_piecePersons_41 : decode cX7_piecePersons 41 = .ok (.istore_n 3, 1) := by decide +kernel
theorem dX7_piecePersons_42 : decode cX7_piecePersons 42 = .ok (.iload_n 3, 1) := by decide +kernel
theorem dX7_piecePersons_43 : decode cX7_piecePersons 43 = .ok (.iload_n 2, 1) := by decide +kernel
theorem dX7_piecePersons_44 : decode cX7_piecePersons 44 = .ok (.if_icmp .ge 38, 3) := by decide +kernel
theorem dX7_piecePersons_47 : decode cX7_piecePersons 47 = .ok (.iload_n 3, 1) := by decide +kernel
theorem dX7_piecePersons_48 : decode cX7_piecePersons 48 = .ok (.ifCond .le 23, 3) := by decide +kernel
theorem dX7_piecePersons_51 : decode cX7_piecePersons 51 = .ok (.aload_n 0, 1) := by decide +kernel
theorem dX7_piecePersons_52 : decode cX7_piecePersons 52 = .ok (.iload_n 3, 1) := by decide +kernel
theorem dX7_piecePersons_53 : decode cX7_piecePersons 53 = .ok (.iload_n 2, 1) := by decide +kernel
theorem dX7_piecePersons_54 : decode cX7_piecePersons 54 = .ok (.iconst 1, 1) := by decide +kernel
theorem dX7_piecePersons_55 : decode cX7_piecePersons 55 = .ok (.isub, 1) := by decide +kernel
theorem dX7_piecePersons_56 : decode cX7_piecePersons 56 = .ok (.if_icmp .ne 9, 3) := by decide +kernel
theorem dX7_piecePersons_59 : decode cX7_piecePersons 59 = .ok (.ldc2_w 201, 3) := by decide +kernel
theorem dX7_piecePersons_62 : decode cX7_piecePersons 62 = .ok (.goto 6, 3) := by decide +kernel
theorem dX7_piecePersons_65 : decode cX7_piecePersons 65 = .ok (.ldc2_w 232, 3) := by decide +kernel
theorem dX7_piecePersons_68 : decode cX7_piecePersons 68 = .ok (.invokevirtual 203, 3) := by decide +kernel
theorem dX7_piecePersons_71 : decode cX7_piecePersons 71 = .ok (.aload_n 0, 1) := by decide +kernel
theorem dX7_piecePersons_72 : decode cX7_piecePersons 72 = .ok (.iload_n 3, 1) := by decide +kernel
theorem dX7_piecePersons_73 : decode cX7_piecePersons 73 = .ok (.invokevirtual 229, 3) := by decide +kernel
theorem dX7_piecePersons_76 : decode cX7_piecePersons 76 = .ok (.iinc 3 1, 3) := by decide +kernel
theorem dX7_piecePersons_79 : decode cX7_piecePersons 79 = .ok (.goto (-37), 3) := by decide +kernel
theorem dX7_piecePersons_82 : decode cX7_piecePersons 82 = .ok (.return_, 1) := by decide +kernel
theorem dX7_pieceField_0 : decode cX7_pieceField 0 = .ok (.iload_n 1, 1) := by decide +kernel
theorem dX7_pieceField_1 : decode cX7_pieceField 1 = .ok (.iconst (-1), 1) := by decide +kernel
theorem dX7_pieceField_2 : decode cX7_pieceField 2 = .ok (.if_icmp .eq 12, 3) := by decide +kernel
theorem dX7_pieceField_5 : decode cX7_pieceField 5 = .ok (.aload_n 0, 1) := by decide +kernel
theorem dX7_pieceField_6 : decode cX7_pieceField 6 = .ok (.invokevirtual 226, 3) := by decide +kernel
theorem dX7_pieceField_9 : decode cX7_pieceField 9 = .ok (.aload_n 0, 1) := by decide +kernel
theorem dX7_pieceField_10 : decode cX7_pieceField 10 = .ok (.iload_n 1, 1) := by decide +kernel
theorem dX7_pieceField_11 : decode cX7_pieceField 11 = .ok (.invokevirtual 173, 3) := by decide +kernel
theorem dX7_pieceField_14 : decode cX7_pieceField 14 = .ok (.return_, 1) := by decide +kernel
theorem dX7_pieceThird_0 : decode cX7_pieceThird 0 = .ok (.aload_n 0, 1) := by decide +kernel
theorem dX7_pieceThird_1 : decode cX7_pieceThird 1 = .ok (.getfield 7, 3) := by decide +kernel
theorem dX7_pieceThird_4 : decode cX7_pieceThird 4 = .ok (.iload_n 1, 1) := by decide +kernel
theorem dX7_pieceThird_5 : decode cX7_pieceThird 5 = .ok (.iaload, 1) := by decide +kernel
theorem dX7_pieceThird_6 : decode cX7_pieceThird 6 = .ok (.istore_n 2, 1) := by decide +kernel
theorem dX7_pieceThird_7 : decode cX7_pieceThird 7 = .ok (.iload_n 2, 1) := by decide +kernel
theorem dX7_pieceThird_8 : decode cX7_pieceThird 8 = .ok (.ifCond .eq 29, 3) := by decide +kernel
theorem dX7_pieceThird_11 : decode cX7_pieceThird 11 = .ok (.iload_n 2, 1) := by decide +kernel
theorem dX7_pieceThird_12 : decode cX7_pieceThird 12 = .ok (.iconst 2, 1) := by decide +kernel
theorem dX7_pieceThird_13 : decode cX7_pieceThird 13 = .ok (.if_icmp .eq 24, 3) := by decide +kernel
theorem dX7_pieceThird_16 : decode cX7_pieceThird 16 = .ok (.aload_n 0, 1) := by decide +kernel
theorem dX7_pieceThird_17 : decode cX7_pieceThird 17 = .ok (.aload_n 0, 1) := by decide +kernel
theorem dX7_pieceThird_18 : decode cX7_pieceThird 18 = .ok (.iload_n 1, 1) := by decide +kernel
theorem dX7_pieceThird_19 : decode cX7_pieceThird 19 = .ok (.iload_n 2, 1) := by decide +kernel
theorem dX7_pieceThird_20 : decode cX7_pieceThird 20 = .ok (.iconst 4, 1) := by decide +kernel
theorem dX7_pieceThird_21 : decode cX7_pieceThird 21 = .ok (.if_icmp .ne 8, 3) := by decide +kernel
theorem dX7_pieceThird_24 : decode cX7_pieceThird 24 = .ok (.bipush 7, 2) := by decide +kernel
theorem dX7_pieceThird_26 : decode cX7_pieceThird 26 = .ok (.goto 4, 3) := by decide +kernel
theorem dX7_pieceThird_29 : decode cX7_pieceThird 29 = .ok (.iconst 4, 1) := by decide +kernel
theorem dX7_pieceThird_30 : decode cX7_pieceThird 30 = .ok (.invokevirtual 125, 3) := by decide +kernel
theorem dX7_pieceThird_33 : decode cX7_pieceThird 33 = .ok (.invokevirtual 234, 3) := by decide +kernel
theorem dX7_pieceThird_36 : decode cX7_pieceThird 36 = .ok (.return_, 1) := by decide +kernel
theorem dX7_pieceThird_37 : decode cX7_pieceThird 37 = .ok (.aload_n 0, 1) := by decide +kernel
theorem dX7_pieceThird_38 : decode cX7_pieceThird 38 = .ok (.iload_n 1, 1) := by decide +kernel
theorem dX7_pieceThird_39 : decode cX7_pieceThird 39 = .ok (.iload_n 2, 1) := by decide +kernel
theorem dX7_pieceThird_40 : decode cX7_pieceThird 40 = .ok (.ifCond .ne 7, 3) := by decide +kernel
theorem dX7_pieceThird_43 : decode cX7_pieceThird 43 = .ok (.iconst 3, 1) := by decide +kernel
theorem dX7_pieceThird_44 : decode cX7_pieceThird 44 = .ok (.goto 5, 3) := by decide +kernel
theorem dX7_pieceThird_47 : decode cX7_pieceThird 47 = .ok (.bipush 6, 2) := by decide +kernel
theorem dX7_pieceThird_49 : decode cX7_pieceThird 49 = .ok (.invokevirtual 125, 3) := by decide +kernel
theorem dX7_pieceThird_52 : decode cX7_pieceThird 52 = .ok (.istore_n 3, 1) := by decide +kernel
theorem dX7_pieceThird_53 : decode cX7_pieceThird 53 = .ok (.iload_n 3, 1) := by decide +kernel
theorem dX7_pieceThird_54 : decode cX7_pieceThird 54 = .ok (.iconst (-1), 1) := by decide +kernel
theorem dX7_pieceThird_55 : decode cX7_pieceThird 55 = .ok (.if_icmp .ne 4, 3) := by decide +kernel
theorem dX7_pieceThird_58 : decode cX7_pieceThird 58 = .ok (.return_, 1) := by decide +kernel
theorem dX7_pieceThird_59 : decode cX7_pieceThird 59 = .ok (.aload_n 0, 1) := by decide +kernel
theorem dX7_pieceThird_60 : decode cX7_pieceThird 60 = .ok (.invokevirtual 226, 3) := by decide +kernel
theorem dX7_pieceThird_63 : decode cX7_pieceThird 63 = .ok (.iload_n 2, 1) := by decide +kernel
theorem dX7_pieceThird_64 : decode cX7_pieceThird 64 = .ok (.iconst 2, 1) := by decide +kernel
theorem dX7_pieceThird_65 : decode cX7_pieceThird 65 = .ok (.if_icmp .ne 10, 3) := by decide +kernel
theorem dX7_pieceThird_68 : decode cX7_pieceThird 68 = .ok (.aload_n 0, 1) := by decide +kernel
theorem dX7_pieceThird_69 : decode cX7_pieceThird 69 = .ok (.ldc2_w 237, 3) := by decide +kernel
theorem dX7_pieceThird_72 : decode cX7_pieceThird 72 = .ok (.invokevirtual 203, 3) := by decide +kernel
theorem dX7_pieceThird_75 : decode cX7_pieceThird 75 = .ok (.aload_n 0, 1) := by decide +kernel
theorem dX7_pieceThird_76 : decode cX7_pieceThird 76 = .ok (.iload_n 3, 1) := by decide +kernel
theorem dX7_pieceThird_77 : decode cX7_pieceThird 77 = .ok (.invokevirtual 173, 3) := by decide +kernel
theorem dX7_pieceThird_80 : decode cX7_pieceThird 80 = .ok (.aload_n 0, 1) := by decide +kernel
theorem dX7_pieceThird_81 : decode cX7_pieceThird 81 = .ok (.iload_n 1, 1) := by decide +kernel
theorem dX7_pieceThird_82 : decode cX7_pieceThird 82 = .ok (.iconst 5, 1) := by decide +kernel
theorem dX7_pieceThird_83 : decode cX7_pieceThird 83 = .ok (.invokevirtual 125, 3) := by decide +kernel
theorem dX7_pieceThird_86 : decode cX7_pieceThird 86 = .ok (.istore 4, 2) := by decide +kernel
theorem dX7_pieceThird_88 : decode cX7_pieceThird 88 = .ok (.iload 4, 2) := by decide +kernel
theorem dX7_pieceThird_90 : decode cX7_pieceThird 90 = .ok (.iconst (-1), 1) := by decide +kernel
theorem dX7_pieceThird_91 : decode cX7_pieceThird 91 = .ok (.if_icmp .eq 26, 3) := by decide +kernel
theorem dX7_pieceThird_94 : decode cX7_pieceThird 94 = .ok (.aload_n 0, 1) := by decide +kernel
theorem dX7_pieceThird_95 : decode cX7_pieceThird 95 = .ok (.iload_n 2, 1) := by decide +kernel
theorem dX7_pieceThird_96 : decode cX7_pieceThird 96 = .ok (.ifCond .ne 9, 3) := by decide +kernel
theorem dX7_pieceThird_99 : decode cX7_pieceThird 99 = .ok (.ldc2_w 232, 3) := by decide +kernel
theorem dX7_pieceThird_102 : decode cX7_pieceThird 102 = .ok (.goto 6, 3) := by decide +kernel
theorem dX7_pieceThird_105 : decode cX7_pieceThird 105 = .ok (.ldc2_w 239, 3) := by decide +kernel
theorem dX7_pieceThird_108 : decode cX7_pieceThird 108 = .ok (.invokevirtual 203, 3) := by decide +kernel
theorem dX7_pieceThird_111 : decode cX7_pieceThird 111 = .ok (.aload_n 0, 1) := by decide +kernel
theorem dX7_pieceThird_112 : decode cX7_pieceThird 112 = .ok (.iload 4, 2) := by decide +kernel
theorem dX7_pieceThird_114 : decode cX7_pieceThird 114 = .ok (.invokevirtual 173, 3) := by decide +kernel
theorem dX7_pieceThird_117 : decode cX7_pieceThird 117 = .ok (.return_, 1) := by decide +kernel
theorem dX7_putNumber_0 : decode cX7_putNumber 0 = .ok (.iload_n 1, 1) := by decide +kernel
theorem dX7_putNumber_1 : decode cX7_putNumber 1 = .ok (.bipush 9, 2) := by decide +kernel
theorem dX7_putNumber_3 : decode cX7_putNumber 3 = .ok (.if_icmp .le 14, 3) := by decide +kernel
theorem dX7_putNumber_6 : decode cX7_putNumber 6 = .ok (.aload_n 0, 1) := by decide +kernel
theorem dX7_putNumber_7 : decode cX7_putNumber 7 = .ok (.bipush 48, 2) := by decide +kernel
theorem dX7_putNumber_9 : decode cX7_putNumber 9 = .ok (.iload_n 1, 1) := by decide +kernel
theorem dX7_putNumber_10 : decode cX7_putNumber 10 = .ok (.bipush 10, 2) := by decide +kernel
theorem dX7_putNumber_12 : decode cX7_putNumber 12 = .ok (.idiv, 1) := by decide +kernel
theorem dX7_putNumber_13 : decode cX7_putNumber 13 = .ok (.iadd, 1) := by decide +kernel
theorem dX7_putNumber_14 : decode cX7_putNumber 14 = .ok (.invokevirtual 141, 3) := by decide +kernel
theorem dX7_putNumber_17 : decode cX7_putNumber 17 = .ok (.aload_n 0, 1) := by decide +kernel
theorem dX7_putNumber_18 : decode cX7_putNumber 18 = .ok (.bipush 48, 2) := by decide +kernel
theorem dX7_putNumber_20 : decode cX7_putNumber 20 = .ok (.iload_n 1, 1) := by decide +kernel
theorem dX7_putNumber_21 : decode cX7_putNumber 21 = .ok (.bipush 10, 2) := by decide +kernel
theorem dX7_putNumber_23 : decode cX7_putNumber 23 = .ok (.irem, 1) := by decide +kernel
theorem dX7_putNumber_24 : decode cX7_putNumber 24 = .ok (.iadd, 1) := by decide +kernel
theorem dX7_putNumber_25 : decode cX7_putNumber 25 = .ok (.invokevirtual 141, 3) := by decide +kernel
theorem dX7_putNumber_28 : decode cX7_putNumber 28 = .ok (.return_, 1) := by decide +kernel
theorem dX7_makeText_0 : decode cX7_makeText 0 = .ok (.aload_n 0, 1) := by decide +kernel
theorem dX7_makeText_1 : decode cX7_makeText 1 = .ok (.getfield 58, 3) := by decide +kernel
theorem dX7_makeText_4 : decode cX7_makeText 4 = .ok (.iload_n 1, 1) := by decide +kernel
theorem dX7_makeText_5 : decode cX7_makeText 5 = .ok (.iaload, 1) := by decide +kernel
theorem dX7_makeText_6 : decode cX7_makeText 6 = .ok (.istore_n 2, 1) := by decide +kernel
theorem dX7_makeText_7 : decode cX7_makeText 7 = .ok (.aload_n 0, 1) := by decide +kernel
theorem dX7_makeText_8 : decode cX7_makeText 8 = .ok (.iconst 0, 1) := by decide +kernel
theorem dX7_makeText_9 : decode cX7_makeText 9 = .ok (.putfield 136, 3) := by decide +kernel
theorem dX7_makeText_12 : decode cX7_makeText 12 = .ok (.aload_n 0, 1) := by decide +kernel
theorem dX7_makeText_13 : decode cX7_makeText 13 = .ok (.aload_n 0, 1) := by decide +kernel
theorem dX7_makeText_14 : decode cX7_makeText 14 = .ok (.getfield 116, 3) := by decide +kernel
theorem dX7_makeText_17 : decode cX7_makeText 17 = .ok (.iconst 2, 1) := by decide +kernel
theorem dX7_makeText_18 : decode cX7_makeText 18 = .ok (.if_icmp .ne 8, 3) := by decide +kernel
theorem dX7_makeText_21 : decode cX7_makeText 21 = .ok (.bipush 40, 2) := by decide +kernel
theorem dX7_makeText_23 : decode cX7_makeText 23 = .ok (.goto 5, 3) := by decide +kernel
theorem dX7_makeText_26 : decode cX7_makeText 26 = .ok (.bipush 91, 2) := by decide +kernel
theorem dX7_makeText_28 : decode cX7_makeText 28 = .ok (.invokevirtual 141, 3) := by decide +kernel
theorem dX7_makeText_31 : decode cX7_makeText 31 = .ok (.aload_n 0, 1) := by decide +kernel
theorem dX7_makeText_32 : decode cX7_makeText 32 = .ok (.getfield 116, 3) := by decide +kernel
theorem dX7_makeText_35 : decode cX7_makeText 35 = .ok (.ifCond .ne 10, 3) := by decide +kernel
theorem dX7_makeText_38 : decode cX7_makeText 38 = .ok (.aload_n 0, 1) := by decide +kernel
theorem dX7_makeText_39 : decode cX7_makeText 39 = .ok (.iload_n 1, 1) := by decide +kernel
theorem dX7_makeText_40 : decode cX7_makeText 40 = .ok (.iconst 1, 1) := by decide +kernel
theorem dX7_makeText_41 : decode cX7_makeText 41 = .ok (.iadd, 1) := by decide +kernel
theorem dX7_makeText_42 : decode cX7_makeText 42 = .ok (.invokevirtual 241, 3) := by decide +kernel
theorem dX7_makeText_45 : decode cX7_makeText 45 = .ok (.iconst 0, 1) := by decide +kernel
theorem dX7_makeText_46 : decode cX7_makeText 46 = .ok (.istore_n 3, 1) := by decide +kernel
theorem dX7_makeText_47 : decode cX7_makeText 47 = .ok (.iload_n 3, 1) := by decide +kernel
theorem dX7_makeText_48 : decode cX7_makeText 48 = .ok (.aload_n 0, 1) := by decide +kernel
theorem dX7_makeText_49 : decode cX7_makeText 49 = .ok (.getfield 64, 3) := by decide +kernel
theorem dX7_makeText_52 : decode cX7_makeText 52 = .ok (.iload_n 1, 1) := by decide +kernel
theorem dX7_makeText_53 : decode cX7_makeText 53 = .ok (.iaload, 1) := by decide +kernel
theorem dX7_makeText_54 : decode cX7_makeText 54 = .ok (.if_icmp .ge 25, 3) := by decide +kernel
theorem dX7_makeText_57 : decode cX7_makeText 57 = .ok (.aload_n 0, 1) := by decide +kernel
theorem dX7_makeText_58 : decode cX7_makeText 58 = .ok (.aload_n 0, 1) := by decide +kernel
theorem dX7_makeText_59 : decode cX7_makeText 59 = .ok (.getfield 67, 3) := by decide +kernel
theorem dX7_makeText_62 : decode cX7_makeText 62 = .ok (.sipush 400, 3) := by decide +kernel
theorem dX7_makeText_65 : decode cX7_makeText 65 = .ok (.iload_n 1, 1) := by decide +kernel
theorem dX7_makeText_66 : decode cX7_makeText 66 = .ok (.imul, 1) := by decide +kernel
theorem dX7_makeText_67 : decode cX7_makeText 67 = .ok (.iload_n 3, 1) := by decide +kernel
theorem dX7_makeText_68 : decode cX7_makeText 68 = .ok (.iadd, 1) := by decide +kernel
theorem dX7_makeText_69 : decode cX7_makeText 69 = .ok (.iaload, 1) := by decide +kernel
theorem dX7_makeText_70 : decode cX7_makeText 70 = .ok (.invokevirtual 141, 3) := by decide +kernel
theorem dX7_makeText_73 : decode cX7_makeText 73 = .ok (.iinc 3 1, 3) := by decide +kernel
theorem dX7_makeText_76 : decode cX7_makeText 76 = .ok (.goto (-29), 3) := by decide +kernel
theorem dX7_makeText_79 : decode cX7_makeText 79 = .ok (.aload_n 0, 1) := by decide +kernel
theorem dX7_makeText_80 : decode cX7_makeText 80 = .ok (.getfield 61, 3) := by decide +kernel
theorem dX7_makeText_83 : decode cX7_makeText 83 = .ok (.iload_n 1, 1) := by decide +kernel
theorem dX7_makeText_84 : decode cX7_makeText 84 = .ok (.iaload, 1) := by decide +kernel
theorem dX7_makeText_85 : decode cX7_makeText 85 = .ok (.ifCond .le 16, 3) := by decide +kernel
theorem dX7_makeText_88 : decode cX7_makeText 88 = .ok (.aload_n 0, 1) := by decide +kernel
theorem dX7_makeText_89 : decode cX7_makeText 89 = .ok (.bipush 96, 2) := by decide +kernel
theorem dX7_makeText_91 : decode cX7_makeText 91 = .ok (.aload_n 0, 1) := by decide +kernel
theorem dX7_makeText_92 : decode cX7_makeText 92 = .ok (.getfield 61, 3) := by decide +kernel
theorem dX7_makeText_95 : decode cX7_makeText 95 = .ok (.iload_n 1, 1) := by decide +kernel
theorem dX7_makeText_96 : decode cX7_makeText 96 = .ok (.iaload, 1) := by decide +kernel
theorem dX7_makeText_97 : decode cX7_makeText 97 = .ok (.iadd, 1) := by decide +kernel
theorem dX7_makeText_98 : decode cX7_makeText 98 = .ok (.invokevirtual 141, 3) := by decide +kernel
theorem dX7_makeText_101 : decode cX7_makeText 101 = .ok (.aload_n 0, 1) := by decide +kernel
theorem dX7_makeText_102 : decode cX7_makeText 102 = .ok (.aload_n 0, 1) := by decide +kernel
theorem dX7_makeText_103 : decode cX7_makeText 103 = .ok (.getfield 116, 3) := by decide +kernel
theorem dX7_makeText_106 : decode cX7_makeText 106 = .ok (.iconst 2, 1) := by decide +kernel
theorem dX7_makeText_107 : decode cX7_makeText 107 = .ok (.if_icmp .ne 8, 3) := by decide +kernel
theorem dX7_makeText_110 : decode cX7_makeText 110 = .ok (.bipush 41, 2) := by decide +kernel
theorem dX7_makeText_112 : decode cX7_makeText 112 = .ok (.goto 5, 3) := by decide +kernel
theorem dX7_makeText_115 : decode cX7_makeText 115 = .ok (.bipush 93, 2) := by decide +kernel
theorem dX7_makeText_117 : decode cX7_makeText 117 = .ok (.invokevirtual 141, 3) := by decide +kernel
theorem dX7_makeText_120 : decode cX7_makeText 120 = .ok (.aload_n 0, 1) := by decide +kernel
theorem dX7_makeText_121 : decode cX7_makeText 121 = .ok (.aload_n 0, 1) := by decide +kernel
theorem dX7_makeText_122 : decode cX7_makeText 122 = .ok (.getfield 136, 3) := by decide +kernel
theorem dX7_makeText_125 : decode cX7_makeText 125 = .ok (.putfield 223, 3) := by decide +kernel
theorem dX7_makeText_128 : decode cX7_makeText 128 = .ok (.aload_n 0, 1) := by decide +kernel
theorem dX7_makeText_129 : decode cX7_makeText 129 = .ok (.iload_n 2, 1) := by decide +kernel
theorem dX7_makeText_130 : decode cX7_makeText 130 = .ok (.invokevirtual 244, 3) := by decide +kernel
theorem dX7_makeText_133 : decode cX7_makeText 133 = .ok (.aload_n 0, 1) := by decide +kernel
theorem dX7_makeText_134 : decode cX7_makeText 134 = .ok (.aload_n 0, 1) := by decide +kernel
theorem dX7_makeText_135 : decode cX7_makeText 135 = .ok (.iload_n 2, 1) := by decide +kernel
theorem dX7_makeText_136 : decode cX7_makeText 136 = .ok (.iconst 1, 1) := by decide +kernel
theorem dX7_makeText_137 : decode cX7_makeText 137 = .ok (.invokevirtual 125, 3) := by decide +kernel
theorem dX7_makeText_140 : decode cX7_makeText 140 = .ok (.invokevirtual 234, 3) := by decide +kernel
theorem dX7_makeText_143 : decode cX7_makeText 143 = .ok (.aload_n 0, 1) := by decide +kernel
theorem dX7_makeText_144 : decode cX7_makeText 144 = .ok (.iload_n 2, 1) := by decide +kernel
theorem dX7_makeText_145 : decode cX7_makeText 145 = .ok (.invokevirtual 247, 3) := by decide +kernel
theorem dX7_makeText_148 : decode cX7_makeText 148 = .ok (.aload_n 0, 1) := by decide +kernel
theorem dX7_makeText_149 : decode cX7_makeText 149 = .ok (.aload_n 0, 1) := by decide +kernel
theorem dX7_makeText_150 : decode cX7_makeText 150 = .ok (.iload_n 2, 1) := by decide +kernel
theorem dX7_makeText_151 : decode cX7_makeText 151 = .ok (.iconst 2, 1) := by decide +kernel
theorem dX7_makeText_152 : decode cX7_makeText 152 = .ok (.invokevirtual 125, 3) := by decide +kernel
theorem dX7_makeText_155 : decode cX7_makeText 155 = .ok (.invokevirtual 234, 3) := by decide +kernel
theorem dX7_makeText_158 : decode cX7_makeText 158 = .ok (.aload_n 0, 1) := by decide +kernel
theorem dX7_makeText_159 : decode cX7_makeText 159 = .ok (.getfield 136, 3) := by decide +kernel
theorem dX7_makeText_162 : decode cX7_makeText 162 = .ok (.aload_n 0, 1) := by decide +kernel
theorem dX7_makeText_163 : decode cX7_makeText 163 = .ok (.getfield 223, 3) := by decide +kernel
theorem dX7_makeText_166 : decode cX7_makeText 166 = .ok (.if_icmp .le 9, 3) := by decide +kernel
theorem dX7_makeText_169 : decode cX7_makeText 169 = .ok (.aload_n 0, 1) := by decide +kernel
theorem dX7_makeText_170 : decode cX7_makeText 170 = .ok (.bipush 46, 2) := by decide +kernel
theorem dX7_makeText_172 : decode cX7_makeText 172 = .ok (.invokevirtual 141, 3) := by decide +kernel
theorem dX7_makeText_175 : decode cX7_makeText 175 = .ok (.aload_n 0, 1) := by decide +kernel
theorem dX7_makeText_176 : decode cX7_makeText 176 = .ok (.getfield 70, 3) := by decide +kernel
theorem dX7_makeText_179 : decode cX7_makeText 179 = .ok (.iload_n 1, 1) := by decide +kernel
theorem dX7_makeText_180 : decode cX7_makeText 180 = .ok (.aload_n 0, 1) := by decide +kernel
theorem dX7_makeText_181 : decode cX7_makeText 181 = .ok (.getfield 136, 3) := by decide +kernel
theorem dX7_makeText_184 : decode cX7_makeText 184 = .ok (.iastore, 1) := by decide +kernel
theorem dX7_makeText_185 : decode cX7_makeText 185 = .ok (.iconst 0, 1) := by decide +kernel
theorem dX7_makeText_186 : decode cX7_makeText 186 = .ok (.istore_n 3, 1) := by decide +kernel
theorem dX7_makeText_187 : decode cX7_makeText 187 = .ok (.iload_n 3, 1) := by decide +kernel
theorem dX7_makeText_188 : decode cX7_makeText 188 = .ok (.aload_n 0, 1) := by decide +kernel
theorem dX7_makeText_189 : decode cX7_makeText 189 = .ok (.getfield 136, 3) := by decide +kernel
theorem dX7_makeText_192 : decode cX7_makeText 192 = .ok (.if_icmp .ge 27, 3) := by decide +kernel
theorem dX7_makeText_195 : decode cX7_makeText 195 = .ok (.aload_n 0, 1) := by decide +kernel
theorem dX7_makeText_196 : decode cX7_makeText 196 = .ok (.getfield 73, 3) := by decide +kernel
theorem dX7_makeText_199 : decode cX7_makeText 199 = .ok (.sipush 1000, 3) := by decide +kernel
theorem dX7_makeText_202 : decode cX7_makeText 202 = .ok (.iload_n 1, 1) := by decide +kernel
theorem dX7_makeText_203 : decode cX7_makeText 203 = .ok (.imul, 1) := by decide +kernel
theorem dX7_makeText_204 : decode cX7_makeText 204 = .ok (.iload_n 3, 1) := by decide +kernel
theorem dX7_makeText_205 : decode cX7_makeText 205 = .ok (.iadd, 1) := by decide +kernel
theorem dX7_makeText_206 : decode cX7_makeText 206 = .ok (.aload_n 0, 1) := by decide +kernel
theorem dX7_makeText_207 : decode cX7_makeText 207 = .ok (.getfield 52, 3) := by decide +kernel
theorem dX7_makeText_210 : decode cX7_makeText 210 = .ok (.iload_n 3, 1) := by decide +kernel
theorem dX7_makeText_211 : decode cX7_makeText 211 = .ok (.iaload, 1) := by decide +kernel
theorem dX7_makeText_212 : decode cX7_makeText 212 = .ok (.iastore, 1) := by decide +kernel
theorem dX7_makeText_213 : decode cX7_makeText 213 = .ok (.iinc 3 1, 3) := by decide +kernel
theorem dX7_makeText_216 : decode cX7_makeText 216 = .ok (.goto (-29), 3) := by decide +kernel
theorem dX7_makeText_219 : decode cX7_makeText 219 = .ok (.return_, 1) := by decide +kernel
theorem dX7_want_0 : decode cX7_want 0 = .ok (.aload_n 0, 1) := by decide +kernel
theorem dX7_want_1 : decode cX7_want 1 = .ok (.iload_n 1, 1) := by decide +kernel
theorem dX7_want_2 : decode cX7_want 2 = .ok (.iload_n 2, 1) := by decide +kernel
theorem dX7_want_3 : decode cX7_want 3 = .ok (.invokevirtual 125, 3) := by decide +kernel
theorem dX7_want_6 : decode cX7_want 6 = .ok (.iconst (-1), 1) := by decide +kernel
theorem dX7_want_7 : decode cX7_want 7 = .ok (.if_icmp .ne 33, 3) := by decide +kernel
theorem dX7_want_10 : decode cX7_want 10 = .ok (.aload_n 0, 1) := by decide +kernel
theorem dX7_want_11 : decode cX7_want 11 = .ok (.getfield 76, 3) := by decide +kernel
theorem dX7_want_14 : decode cX7_want 14 = .ok (.aload_n 0, 1) := by decide +kernel
theorem dX7_want_15 : decode cX7_want 15 = .ok (.getfield 250, 3) := by decide +kernel
theorem dX7_want_18 : decode cX7_want 18 = .ok (.iload_n 1, 1) := by decide +kernel
theorem dX7_want_19 : decode cX7_want 19 = .ok (.iastore, 1) := by decide +kernel
theorem dX7_want_20 : decode cX7_want 20 = .ok (.aload_n 0, 1) := by decide +kernel
theorem dX7_want_21 : decode cX7_want 21 = .ok (.getfield 79, 3) := by decide +kernel
theorem dX7_want_24 : decode cX7_want 24 = .ok (.aload_n 0, 1) := by decide +kernel
theorem dX7_want_25 : decode cX7_want 25 = .ok (.getfield 250, 3) := by decide +kernel
theorem dX7_want_28 : decode cX7_want 28 = .ok (.iload_n 2, 1) := by decide +kernel
theorem dX7_want_29 : decode cX7_want 29 = .ok (.iastore, 1) := by decide +kernel
theorem dX7_want_30 : decode cX7_want 30 = .ok (.aload_n 0, 1) := by decide +kernel
theorem dX7_want_31 : decode cX7_want 31 = .ok (.dup, 1) := by decide +kernel
theorem dX7_want_32 : decode cX7_want 32 = .ok (.getfield 250, 3) := by decide +kernel
theorem dX7_want_35 : decode cX7_want 35 = .ok (.iconst 1, 1) := by decide +kernel
theorem dX7_want_36 : decode cX7_want 36 = .ok (.iadd, 1) := by decide +kernel
theorem dX7_want_37 : decode cX7_want 37 = .ok (.putfield 250, 3) := by decide +kernel
theorem dX7_want_40 : decode cX7_want 40 = .ok (.return_, 1) := by decide +kernel
theorem dX7_lookWhatLacks_0 : decode cX7_lookWhatLacks 0 = .ok (.aload_n 0, 1) := by decide +kernel
theorem dX7_lookWhatLacks_1 : decode cX7_lookWhatLacks 1 = .ok (.getfield 7, 3) := by decide +kernel
theorem dX7_lookWhatLacks_4 : decode cX7_lookWhatLacks 4 = .ok (.iload_n 1, 1) := by decide +kernel
theorem dX7_lookWhatLacks_5 : decode cX7_lookWhatLacks 5 = .ok (.iaload, 1) := by decide +kernel
theorem dX7_lookWhatLacks_6 : decode cX7_lookWhatLacks 6 = .ok (.istore_n 2, 1) := by decide +kernel
theorem dX7_lookWhatLacks_7 : decode cX7_lookWhatLacks 7 = .ok (.iload_n 2, 1) := by decide +kernel
theorem dX7_lookWhatLacks_8 : decode cX7_lookWhatLacks 8 = .ok (.iconst 3, 1) := by decide +kernel
theorem dX7_lookWhatLacks_9 : decode cX7_lookWhatLacks 9 = .ok (.if_icmp .ge 9, 3) := by decide +kernel
theorem dX7_lookWhatLacks_12 : decode cX7_lookWhatLacks 12 = .ok (.aload_n 0, 1) := by decide +kernel
theorem dX7_lookWhatLacks_13 : decode cX7_lookWhatLacks 13 = .ok (.iload_n 1, 1) := by decide +kernel
theorem dX7_lookWhatLacks_14 : decode cX7_lookWhatLacks 14 = .ok (.iconst 0, 1) := by decide +kernel
theorem dX7_lookWhatLacks_15 : decode cX7_lookWhatLacks 15 = .ok (.invokevirtual 253, 3) := by decide +kernel
theorem dX7_lookWhatLacks_18 : decode cX7_lookWhatLacks 18 = .ok (.aload_n 0, 1) := by decide +kernel
theorem dX7_lookWhatLacks_19 : decode cX7_lookWhatLacks 19 = .ok (.iload_n 1, 1) := by decide +kernel
theorem dX7_lookWhatLacks_20 : decode cX7_lookWhatLacks 20 = .ok (.iconst 1, 1) := by decide +kernel
theorem dX7_lookWhatLacks_21 : decode cX7_lookWhatLacks 21 = .ok (.invokevirtual 253, 3) := by decide +kernel
theorem dX7_lookWhatLacks_24 : decode cX7_lookWhatLacks 24 = .ok (.iload_n 2, 1) := by decide +kernel
theorem dX7_lookWhatLacks_25 : decode cX7_lookWhatLacks 25 = .ok (.iconst 4, 1) := by decide +kernel
theorem dX7_lookWhatLacks_26 : decode cX7_lookWhatLacks 26 = .ok (.if_icmp .ge 9, 3) := by decide +kernel
theorem dX7_lookWhatLacks_29 : decode cX7_lookWhatLacks 29 = .ok (.aload_n 0, 1) := by decide +kernel
theorem dX7_lookWhatLacks_30 : decode cX7_lookWhatLacks 30 = .ok (.iload_n 1, 1) := by decide +kernel
theorem dX7_lookWhatLacks_31 : decode cX7_lookWhatLacks 31 = .ok (.iconst 2, 1) := by decide +kernel
theorem dX7_lookWhatLacks_32 : decode cX7_lookWhatLacks 32 = .ok (.invokevirtual 253, 3) := by decide +kernel
theorem dX7_lookWhatLacks_35 : decode cX7_lookWhatLacks 35 = .ok (.iload_n 2, 1) := by decide +kernel
theorem dX7_lookWhatLacks_36 : decode cX7_lookWhatLacks 36 = .ok (.iconst 3, 1) := by decide +kernel
theorem dX7_lookWhatLacks_37 : decode cX7_lookWhatLacks 37 = .ok (.if_icmp .ge 27, 3) := by decide +kernel
theorem dX7_lookWhatLacks_40 : decode cX7_lookWhatLacks 40 = .ok (.aload_n 0, 1) := by decide +kernel
theorem dX7_lookWhatLacks_41 : decode cX7_lookWhatLacks 41 = .ok (.iload_n 1, 1) := by decide +kernel
theorem dX7_lookWhatLacks_42 : decode cX7_lookWhatLacks 42 = .ok (.iload_n 2, 1) := by decide +kernel
theorem dX7_lookWhatLacks_43 : decode cX7_lookWhatLacks 43 = .ok (.ifCond .ne 7, 3) := by decide +kernel
theorem dX7_lookWhatLacks_46 : decode cX7_lookWhatLacks 46 = .ok (.iconst 3, 1) := by decide +kernel
theorem dX7_lookWhatLacks_47 : decode cX7_lookWhatLacks 47 = .ok (.goto 14, 3) := by decide +kernel
theorem dX7_lookWhatLacks_50 : decode cX7_lookWhatLacks 50 = .ok (.iload_n 2, 1) := by decide +kernel
theorem dX7_lookWhatLacks_51 : decode cX7_lookWhatLacks 51 = .ok (.iconst 1, 1) := by decide +kernel
theorem dX7_lookWhatLacks_52 : decode cX7_lookWhatLacks 52 = .ok (.if_icmp .ne 7, 3) := by decide +kernel
theorem dX7_lookWhatLacks_55 : decode cX7_lookWhatLacks 55 = .ok (.iconst 4, 1) := by decide +kernel
theorem dX7_lookWhatLacks_56 : decode cX7_lookWhatLacks 56 = .ok (.goto 5, 3) := by decide +kernel
theorem dX7_lookWhatLacks_59 : decode cX7_lookWhatLacks 59 = .ok (.bipush 6, 2) := by decide +kernel
theorem dX7_lookWhatLacks_61 : decode cX7_lookWhatLacks 61 = .ok (.invokevirtual 253, 3) := by decide +kernel
theorem dX7_lookWhatLacks_64 : decode cX7_lookWhatLacks 64 = .ok (.return_, 1) := by decide +kernel
theorem dX7_run_0 : decode cX7_run 0 = .ok (.aload_n 0, 1) := by decide +kernel
theorem dX7_run_1 : decode cX7_run 1 = .ok (.iconst 0, 1) := by decide +kernel
theorem dX7_run_2 : decode cX7_run 2 = .ok (.putfield 85, 3) := by decide +kernel
theorem dX7_run_5 : decode cX7_run 5 = .ok (.aload_n 0, 1) := by decide +kernel
theorem dX7_run_6 : decode cX7_run 6 = .ok (.invokevirtual 256, 3) := by decide +kernel
theorem dX7_run_9 : decode cX7_run 9 = .ok (.iconst 0, 1) := by decide +kernel
theorem dX7_run_10 : decode cX7_run 10 = .ok (.istore_n 1, 1) := by decide +kernel
theorem dX7_run_11 : decode cX7_run 11 = .ok (.iload_n 1, 1) := by decide +kernel
theorem dX7_run_12 : decode cX7_run 12 = .ok (.aload_n 0, 1) := by decide +kernel
theorem dX7_run_13 : decode cX7_run 13 = .ok (.getfield 183, 3) := by decide +kernel
theorem dX7_run_16 : decode cX7_run 16 = .ok (.if_icmp .ge 14, 3) := by decide +kernel
theorem dX7_run_19 : decode cX7_run 19 = .ok (.aload_n 0, 1) := by decide +kernel
theorem dX7_run_20 : decode cX7_run 20 = .ok (.iload_n 1, 1) := by decide +kernel
theorem dX7_run_21 : decode cX7_run 21 = .ok (.invokevirtual 259, 3) := by decide +kernel
theorem dX7_run_24 : decode cX7_run 24 = .ok (.iinc 1 1, 3) := by decide +kernel
theorem dX7_run_27 : decode cX7_run 27 = .ok (.goto (-16), 3) := by decide +kernel
theorem dX7_run_30 : decode cX7_run 30 = .ok (.aload_n 0, 1) := by decide +kernel
theorem dX7_run_31 : decode cX7_run 31 = .ok (.invokevirtual 262, 3) := by decide +kernel
theorem dX7_run_34 : decode cX7_run 34 = .ok (.aload_n 0, 1) := by decide +kernel
theorem dX7_run_35 : decode cX7_run 35 = .ok (.iconst 0, 1) := by decide +kernel
theorem dX7_run_36 : decode cX7_run 36 = .ok (.putfield 250, 3) := by decide +kernel
theorem dX7_run_39 : decode cX7_run 39 = .ok (.iconst 0, 1) := by decide +kernel
theorem dX7_run_40 : decode cX7_run 40 = .ok (.istore_n 1, 1) := by decide +kernel
theorem dX7_run_41 : decode cX7_run 41 = .ok (.iload_n 1, 1) := by decide +kernel
theorem dX7_run_42 : decode cX7_run 42 = .ok (.aload_n 0, 1) := by decide +kernel
theorem dX7_run_43 : decode cX7_run 43 = .ok (.getfield 183, 3) := by decide +kernel
theorem dX7_run_46 : decode cX7_run 46 = .ok (.if_icmp .ge 24, 3) := by decide +kernel
theorem dX7_run_49 : decode cX7_run 49 = .ok (.aload_n 0, 1) := by decide +kernel
theorem dX7_run_50 : decode cX7_run 50 = .ok (.iload_n 1, 1) := by decide +kernel
theorem dX7_run_51 : decode cX7_run 51 = .ok (.invokevirtual 265, 3) := by decide +kernel
theorem dX7_run_54 : decode cX7_run 54 = .ok (.aload_n 0, 1) := by decide +kernel
theorem dX7_run_55 : decode cX7_run 55 = .ok (.aload_n 0, 1) := by decide +kernel
theorem dX7_run_56 : decode cX7_run 56 = .ok (.getfield 58, 3) := by decide +kernel
theorem dX7_run_59 : decode cX7_run 59 = .ok (.iload_n 1, 1) := by decide +kernel
theorem dX7_run_60 : decode cX7_run 60 = .ok (.iaload, 1) := by decide +kernel
theorem dX7_run_61 : decode cX7_run 61 = .ok (.invokevirtual 268, 3) := by decide +kernel
theorem dX7_run_64 : decode cX7_run 64 = .ok (.iinc 1 1, 3) := by decide +kernel
theorem dX7_run_67 : decode cX7_run 67 = .ok (.goto (-26), 3) := by decide +kernel
theorem dX7_run_70 : decode cX7_run 70 = .ok (.aload_n 0, 1) := by decide +kernel
theorem dX7_run_71 : decode cX7_run 71 = .ok (.iconst 1, 1) := by decide +kernel
theorem dX7_run_72 : decode cX7_run 72 = .ok (.putfield 271, 3) := by decide +kernel
theorem dX7_run_75 : decode cX7_run 75 = .ok (.aload_n 0, 1) := by decide +kernel
theorem dX7_run_76 : decode cX7_run 76 = .ok (.getfield 183, 3) := by decide +kernel
theorem dX7_run_79 : decode cX7_run 79 = .ok (.ireturn, 1) := by decide +kernel
theorem dX7_isRow_0 : decode cX7_isRow 0 = .ok (.iload_n 1, 1) := by decide +kernel
theorem dX7_isRow_1 : decode cX7_isRow 1 = .ok (.ifCond .lt 15, 3) := by decide +kernel
theorem dX7_isRow_4 : decode cX7_isRow 4 = .ok (.iload_n 1, 1) := by decide +kernel
theorem dX7_isRow_5 : decode cX7_isRow 5 = .ok (.aload_n 0, 1) := by decide +kernel
theorem dX7_isRow_6 : decode cX7_isRow 6 = .ok (.getfield 183, 3) := by decide +kernel
theorem dX7_isRow_9 : decode cX7_isRow 9 = .ok (.if_icmp .ge 7, 3) := by decide +kernel
theorem dX7_isRow_12 : decode cX7_isRow 12 = .ok (.iconst 1, 1) := by decide +kernel
theorem dX7_isRow_13 : decode cX7_isRow 13 = .ok (.goto 4, 3) := by decide +kernel
theorem dX7_isRow_16 : decode cX7_isRow 16 = .ok (.iconst 0, 1) := by decide +kernel
theorem dX7_isRow_17 : decode cX7_isRow 17 = .ok (.ireturn, 1) := by decide +kernel
theorem dX7_row_0 : decode cX7_row 0 = .ok (.aload_n 0, 1) := by decide +kernel
theorem dX7_row_1 : decode cX7_row 1 = .ok (.aload_n 0, 1) := by decide +kernel
theorem dX7_row_2 : decode cX7_row 2 = .ok (.iload_n 1, 1) := by decide +kernel
theorem dX7_row_3 : decode cX7_row 3 = .ok (.invokevirtual 275, 3) := by decide +kernel
theorem dX7_row_6 : decode cX7_row 6 = .ok (.ifCond .eq 7, 3) := by decide +kernel
theorem dX7_row_9 : decode cX7_row 9 = .ok (.iconst 0, 1) := by decide +kernel
theorem dX7_row_10 : decode cX7_row 10 = .ok (.goto 4, 3) := by decide +kernel
theorem dX7_row_13 : decode cX7_row 13 = .ok (.iconst 1, 1) := by decide +kernel
theorem dX7_row_14 : decode cX7_row 14 = .ok (.putfield 85, 3) := by decide +kernel
theorem dX7_row_17 : decode cX7_row 17 = .ok (.aload_n 0, 1) := by decide +kernel
theorem dX7_row_18 : decode cX7_row 18 = .ok (.getfield 85, 3) := by decide +kernel
theorem dX7_row_21 : decode cX7_row 21 = .ok (.ifCond .le 7, 3) := by decide +kernel
theorem dX7_row_24 : decode cX7_row 24 = .ok (.iconst 0, 1) := by decide +kernel
theorem dX7_row_25 : decode cX7_row 25 = .ok (.goto 9, 3) := by decide +kernel
theorem dX7_row_28 : decode cX7_row 28 = .ok (.aload_n 0, 1) := by decide +kernel
theorem dX7_row_29 : decode cX7_row 29 = .ok (.getfield 58, 3) := by decide +kernel
theorem dX7_row_32 : decode cX7_row 32 = .ok (.iload_n 1, 1) := by decide +kernel
theorem dX7_row_33 : decode cX7_row 33 = .ok (.iaload, 1) := by decide +kernel
theorem dX7_row_34 : decode cX7_row 34 = .ok (.ireturn, 1) := by decide +kernel
theorem dX7_letter_0 : decode cX7_letter 0 = .ok (.aload_n 0, 1) := by decide +kernel
theorem dX7_letter_1 : decode cX7_letter 1 = .ok (.aload_n 0, 1) := by decide +kernel
theorem dX7_letter_2 : decode cX7_letter 2 = .ok (.iload_n 1, 1) := by decide +kernel
theorem dX7_letter_3 : decode cX7_letter 3 = .ok (.invokevirtual 275, 3) := by decide +kernel
theorem dX7_letter_6 : decode cX7_letter 6 = .ok (.ifCond .eq 7, 3) := by decide +kernel
theorem dX7_letter_9 : decode cX7_letter 9 = .ok (.iconst 0, 1) := by decide +kernel
theorem dX7_letter_10 : decode cX7_letter 10 = .ok (.goto 4, 3) := by decide +kernel
theorem dX7_letter_13 : decode cX7_letter 13 = .ok (.iconst 1, 1) := by decide +kernel
theorem dX7_letter_14 : decode cX7_letter 14 = .ok (.putfield 85, 3) := by decide +kernel
theorem dX7_letter_17 : decode cX7_letter 17 = .ok (.aload_n 0, 1) := by decide +kernel
theorem dX7_letter_18 : decode cX7_letter 18 = .ok (.getfield 85, 3) := by decide +kernel
theorem dX7_letter_21 : decode cX7_letter 21 = .ok (.ifCond .le 7, 3) := by decide +kernel
theorem dX7_letter_24 : decode cX7_letter 24 = .ok (.iconst 0, 1) := by decide +kernel
theorem dX7_letter_25 : decode cX7_letter 25 = .ok (.goto 9, 3) := by decide +kernel
theorem dX7_letter_28 : decode cX7_letter 28 = .ok (.aload_n 0, 1) := by decide +kernel
theorem dX7_letter_29 : decode cX7_letter 29 = .ok (.getfield 61, 3) := by decide +kernel
theorem dX7_letter_32 : decode cX7_letter 32 = .ok (.iload_n 1, 1) := by decide +kernel
theorem dX7_letter_33 : decode cX7_letter 33 = .ok (.iaload, 1) := by decide +kernel
theorem dX7_letter_34 : decode cX7_letter 34 = .ok (.ireturn, 1) := by decide +kernel
theorem dX7_initials_0 : decode cX7_initials 0 = .ok (.aload_n 0, 1) := by decide +kernel
theorem dX7_initials_1 : decode cX7_initials 1 = .ok (.aload_n 0, 1) := by decide +kernel
theorem dX7_initials_2 : decode cX7_initials 2 = .ok (.iload_n 1, 1) := by decide +kernel
theorem dX7_initials_3 : decode cX7_initials 3 = .ok (.invokevirtual 100, 3) := by decide +kernel
theorem dX7_initials_6 : decode cX7_initials 6 = .ok (.ifCond .eq 7, 3) := by decide +kernel
theorem dX7_initials_9 : decode cX7_initials 9 = .ok (.iconst 0, 1) := by decide +kernel
theorem dX7_initials_10 : decode cX7_initials 10 = .ok (.goto 4, 3) := by decide +kernel
theorem dX7_initials_13 : decode cX7_initials 13 = .ok (.iconst 1, 1) := by decide +kernel
theorem dX7_initials_14 : decode cX7_initials 14 = .ok (.putfield 85, 3) := by decide +kernel
theorem dX7_initials_17 : decode cX7_initials 17 = .ok (.aload_n 0, 1) := by decide +kernel
theorem dX7_initials_18 : decode cX7_initials 18 = .ok (.getfield 85, 3) := by decide +kernel
theorem dX7_initials_21 : decode cX7_initials 21 = .ok (.ifCond .le 5, 3) := by decide +kernel
theorem dX7_initials_24 : decode cX7_initials 24 = .ok (.iconst 0, 1) := by decide +kernel
theorem dX7_initials_25 : decode cX7_initials 25 = .ok (.ireturn, 1) := by decide +kernel
theorem dX7_initials_26 : decode cX7_initials 26 = .ok (.aload_n 0, 1) := by decide +kernel
theorem dX7_initials_27 : decode cX7_initials 27 = .ok (.iconst 0, 1) := by decide +kernel
theorem dX7_initials_28 : decode cX7_initials 28 = .ok (.iload_n 1, 1) := by decide +kernel
theorem dX7_initials_29 : decode cX7_initials 29 = .ok (.invokevirtual 166, 3) := by decide +kernel
theorem dX7_initials_32 : decode cX7_initials 32 = .ok (.aload_n 0, 1) := by decide +kernel
theorem dX7_initials_33 : decode cX7_initials 33 = .ok (.iload_n 2, 1) := by decide +kernel
theorem dX7_initials_34 : decode cX7_initials 34 = .ok (.ifCond .lt 13, 3) := by decide +kernel
theorem dX7_initials_37 : decode cX7_initials 37 = .ok (.iload_n 2, 1) := by decide +kernel
theorem dX7_initials_38 : decode cX7_initials 38 = .ok (.aload_n 0, 1) := by decide +kernel
theorem dX7_initials_39 : decode cX7_initials 39 = .ok (.getfield 49, 3) := by decide +kernel
theorem dX7_initials_42 : decode cX7_initials 42 = .ok (.iconst 0, 1) := by decide +kernel
theorem dX7_initials_43 : decode cX7_initials 43 = .ok (.iaload, 1) := by decide +kernel
theorem dX7_initials_44 : decode cX7_initials 44 = .ok (.if_icmp .lt 7, 3) := by decide +kernel
theorem dX7_initials_47 : decode cX7_initials 47 = .ok (.iconst 2, 1) := by decide +kernel
theorem dX7_initials_48 : decode cX7_initials 48 = .ok (.goto 4, 3) := by decide +kernel
theorem dX7_initials_51 : decode cX7_initials 51 = .ok (.iconst 0, 1) := by decide +kernel
theorem dX7_initials_52 : decode cX7_initials 52 = .ok (.putfield 85, 3) := by decide +kernel
theorem dX7_initials_55 : decode cX7_initials 55 = .ok (.aload_n 0, 1) := by decide +kernel
theorem dX7_initials_56 : decode cX7_initials 56 = .ok (.getfield 85, 3) := by decide +kernel
theorem dX7_initials_59 : decode cX7_initials 59 = .ok (.ifCond .le 5, 3) := by decide +kernel
theorem dX7_initials_62 : decode cX7_initials 62 = .ok (.iconst 0, 1) := by decide +kernel
theorem dX7_initials_63 : decode cX7_initials 63 = .ok (.ireturn, 1) := by decide +kernel
theorem dX7_initials_64 : decode cX7_initials 64 = .ok (.aload_n 0, 1) := by decide +kernel
theorem dX7_initials_65 : decode cX7_initials 65 = .ok (.iconst 0, 1) := by decide +kernel
theorem dX7_initials_66 : decode cX7_initials 66 = .ok (.putfield 136, 3) := by decide +kernel
theorem dX7_initials_69 : decode cX7_initials 69 = .ok (.aload_n 0, 1) := by decide +kernel
theorem dX7_initials_70 : decode cX7_initials 70 = .ok (.iconst 0, 1) := by decide +kernel
theorem dX7_initials_71 : decode cX7_initials 71 = .ok (.iload_n 2, 1) := by decide +kernel
theorem dX7_initials_72 : decode cX7_initials 72 = .ok (.invokevirtual 192, 3) := by decide +kernel
theorem dX7_initials_75 : decode cX7_initials 75 = .ok (.aload_n 0, 1) := by decide +kernel
theorem dX7_initials_76 : decode cX7_initials 76 = .ok (.iload_n 3, 1) := by decide +kernel
theorem dX7_initials_77 : decode cX7_initials 77 = .ok (.iconst (-1), 1) := by decide +kernel
theorem dX7_initials_78 : decode cX7_initials 78 = .ok (.if_icmp .lt 11, 3) := by decide +kernel
theorem dX7_initials_81 : decode cX7_initials 81 = .ok (.iload_n 3, 1) := by decide +kernel
theorem dX7_initials_82 : decode cX7_initials 82 = .ok (.aload_n 0, 1) := by decide +kernel
theorem dX7_initials_83 : decode cX7_initials 83 = .ok (.getfield 136, 3) := by decide +kernel
theorem dX7_initials_86 : decode cX7_initials 86 = .ok (.if_icmp .lt 7, 3) := by decide +kernel
theorem dX7_initials_89 : decode cX7_initials 89 = .ok (.iconst 2, 1) := by decide +kernel
theorem dX7_initials_90 : decode cX7_initials 90 = .ok (.goto 4, 3) := by decide +kernel
theorem dX7_initials_93 : decode cX7_initials 93 = .ok (.iconst 0, 1) := by decide +kernel
theorem dX7_initials_94 : decode cX7_initials 94 = .ok (.putfield 85, 3) := by decide +kernel
theorem dX7_initials_97 : decode cX7_initials 97 = .ok (.aload_n 0, 1) := by decide +kernel
theorem dX7_initials_98 : decode cX7_initials 98 = .ok (.getfield 85, 3) := by decide +kernel
theorem dX7_initials_101 : decode cX7_initials 101 = .ok (.ifCond .le 7, 3) := by decide +kernel
theorem dX7_initials_104 : decode cX7_initials 104 = .ok (.iconst 0, 1) := by decide +kernel
theorem dX7_initials_105 : decode cX7_initials 105 = .ok (.goto 21, 3) := by decide +kernel
theorem dX7_initials_108 : decode cX7_initials 108 = .ok (.iload_n 3, 1) := by decide +kernel
theorem dX7_initials_109 : decode cX7_initials 109 = .ok (.iconst (-1), 1) := by decide +kernel
theorem dX7_initials_110 : decode cX7_initials 110 = .ok (.if_icmp .ne 10, 3) := by decide +kernel
theorem dX7_initials_113 : decode cX7_initials 113 = .ok (.aload_n 0, 1) := by decide +kernel
theorem dX7_initials_114 : decode cX7_initials 114 = .ok (.getfield 136, 3) := by decide +kernel
theorem dX7_initials_117 : decode cX7_initials 117 = .ok (.goto 9, 3) := by decide +kernel
theorem dX7_initials_120 : decode cX7_initials 120 = .ok (.aload_n 0, 1) := by decide +kernel
theorem dX7_initials_121 : decode cX7_initials 121 = .ok (.getfield 52, 3) := by decide +kernel
theorem dX7_initials_124 : decode cX7_initials 124 = .ok (.iload_n 3, 1) := by decide +kernel
theorem dX7_initials_125 : decode cX7_initials 125 = .ok (.iaload, 1) := by decide +kernel
theorem dX7_initials_126 : decode cX7_initials 126 = .ok (.ireturn, 1) := by decide +kernel
theorem dX7_missing_0 : decode cX7_missing 0 = .ok (.aload_n 0, 1) := by decide +kernel
theorem dX7_missing_1 : decode cX7_missing 1 = .ok (.iconst 0, 1) := by decide +kernel
theorem dX7_missing_2 : decode cX7_missing 2 = .ok (.putfield 85, 3) := by decide +kernel
theorem dX7_missing_5 : decode cX7_missing 5 = .ok (.iload_n 1, 1) := by decide +kernel
theorem dX7_missing_6 : decode cX7_missing 6 = .ok (.iconst (-1), 1) := by decide +kernel
theorem dX7_missing_7 : decode cX7_missing 7 = .ok (.if_icmp .ne 8, 3) := by decide +kernel
theorem dX7_missing_10 : decode cX7_missing 10 = .ok (.aload_n 0, 1) := by decide +kernel
theorem dX7_missing_11 : decode cX7_missing 11 = .ok (.getfield 250, 3) := by decide +kernel
theorem dX7_missing_14 : decode cX7_missing 14 = .ok (.ireturn, 1) := by decide +kernel
theorem dX7_missing_15 : decode cX7_missing 15 = .ok (.aload_n 0, 1) := by decide +kernel
theorem dX7_missing_16 : decode cX7_missing 16 = .ok (.iload_n 1, 1) := by decide +kernel
theorem dX7_missing_17 : decode cX7_missing 17 = .ok (.ifCond .lt 20, 3) := by decide +kernel
theorem dX7_missing_20 : decode cX7_missing 20 = .ok (.iload_n 1, 1) := by decide +kernel
theorem dX7_missing_21 : decode cX7_missing 21 = .ok (.aload_n 0, 1) := by decide +kernel
theorem dX7_missing_22 : decode cX7_missing 22 = .ok (.getfield 250, 3) := by decide +kernel
theorem dX7_missing_25 : decode cX7_missing 25 = .ok (.if_icmp .ge 12, 3) := by decide +kernel
theorem dX7_missing_28 : decode cX7_missing 28 = .ok (.iload_n 2, 1) := by decide +kernel
theorem dX7_missing_29 : decode cX7_missing 29 = .ok (.ifCond .lt 8, 3) := by decide +kernel
theorem dX7_missing_32 : decode cX7_missing 32 = .ok (.iload_n 2, 1) := by decide +kernel
theorem dX7_missing_33 : decode cX7_missing 33 = .ok (.iconst 1, 1) := by decide +kernel
theorem dX7_missing_34 : decode cX7_missing 34 = .ok (.if_icmp .le 7, 3) := by decide +kernel
theorem dX7_missing_37 : decode cX7_missing 37 = .ok (.iconst 1, 1) := by decide +kernel
theorem dX7_missing_38 : decode cX7_missing 38 = .ok (.goto 4, 3) := by decide +kernel
theorem dX7_missing_41 : decode cX7_missing 41 = .ok (.iconst 0, 1) := by decide +kernel
theorem dX7_missing_42 : decode cX7_missing 42 = .ok (.putfield 85, 3) := by decide +kernel
theorem dX7_missing_45 : decode cX7_missing 45 = .ok (.aload_n 0, 1) := by decide +kernel
theorem dX7_missing_46 : decode cX7_missing 46 = .ok (.getfield 85, 3) := by decide +kernel
theorem dX7_missing_49 : decode cX7_missing 49 = .ok (.ifCond .le 7, 3) := by decide +kernel
theorem dX7_missing_52 : decode cX7_missing 52 = .ok (.iconst 0, 1) := by decide +kernel
theorem dX7_missing_53 : decode cX7_missing 53 = .ok (.goto 22, 3) := by decide +kernel
theorem dX7_missing_56 : decode cX7_missing 56 = .ok (.iload_n 2, 1) := by decide +kernel
theorem dX7_missing_57 : decode cX7_missing 57 = .ok (.ifCond .ne 12, 3) := by decide +kernel
theorem dX7_missing_60 : decode cX7_missing 60 = .ok (.aload_n 0, 1) := by decide +kernel
theorem dX7_missing_61 : decode cX7_missing 61 = .ok (.getfield 76, 3) := by decide +kernel
theorem dX7_missing_64 : decode cX7_missing 64 = .ok (.iload_n 1, 1) := by decide +kernel
theorem dX7_missing_65 : decode cX7_missing 65 = .ok (.iaload, 1) := by decide +kernel
theorem dX7_missing_66 : decode cX7_missing 66 = .ok (.goto 9, 3) := by decide +kernel
theorem dX7_missing_69 : decode cX7_missing 69 = .ok (.aload_n 0, 1) := by decide +kernel
theorem dX7_missing_70 : decode cX7_missing 70 = .ok (.getfield 79, 3) := by decide +kernel
theorem dX7_missing_73 : decode cX7_missing 73 = .ok (.iload_n 1, 1) := by decide +kernel
theorem dX7_missing_74 : decode cX7_missing 74 = .ok (.iaload, 1) := by decide +kernel
theorem dX7_missing_75 : decode cX7_missing 75 = .ok (.ireturn, 1) := by decide +kernel
theorem dX7_print_0 : decode cX7_print 0 = .ok (.aload_n 0, 1) := by decide +kernel
theorem dX7_print_1 : decode cX7_print 1 = .ok (.aload_n 0, 1) := by decide +kernel
theorem dX7_print_2 : decode cX7_print 2 = .ok (.getfield 271, 3) := by decide +kernel
theorem dX7_print_5 : decode cX7_print 5 = .ok (.ifCond .eq 20, 3) := by decide +kernel
theorem dX7_print_8 : decode cX7_print 8 = .ok (.iload_n 1, 1) := by decide +kernel
theorem dX7_print_9 : decode cX7_print 9 = .ok (.iconst (-1), 1) := by decide +kernel
theorem dX7_print_10 : decode cX7_print 10 = .ok (.if_icmp .eq 11, 3) := by decide +kernel
theorem dX7_print_13 : decode cX7_print 13 = .ok (.aload_n 0, 1) := by decide +kernel
theorem dX7_print_14 : decode cX7_print 14 = .ok (.iload_n 1, 1) := by decide +kernel
theorem dX7_print_15 : decode cX7_print 15 = .ok (.invokevirtual 275, 3) := by decide +kernel
theorem dX7_print_18 : decode cX7_print 18 = .ok (.ifCond .eq 7, 3) := by decide +kernel
theorem dX7_print_21 : decode cX7_print 21 = .ok (.iconst 0, 1) := by decide +kernel
theorem dX7_print_22 : decode cX7_print 22 = .ok (.goto 4, 3) := by decide +kernel
theorem dX7_print_25 : decode cX7_print 25 = .ok (.iconst 1, 1) := by decide +kernel
theorem dX7_print_26 : decode cX7_print 26 = .ok (.putfield 85, 3) := by decide +kernel
theorem dX7_print_29 : decode cX7_print 29 = .ok (.aload_n 0, 1) := by decide +kernel
theorem dX7_print_30 : decode cX7_print 30 = .ok (.getfield 85, 3) := by decide +kernel
theorem dX7_print_33 : decode cX7_print 33 = .ok (.ifCond .le 5, 3) := by decide +kernel
theorem dX7_print_36 : decode cX7_print 36 = .ok (.iconst 0, 1) := by decide +kernel
theorem dX7_print_37 : decode cX7_print 37 = .ok (.ireturn, 1) := by decide +kernel
theorem dX7_print_38 : decode cX7_print 38 = .ok (.aload_n 0, 1) := by decide +kernel
theorem dX7_print_39 : decode cX7_print 39 = .ok (.iconst 0, 1) := by decide +kernel
theorem dX7_print_40 : decode cX7_print 40 = .ok (.putfield 136, 3) := by decide +kernel
theorem dX7_print_43 : decode cX7_print 43 = .ok (.iload_n 1, 1) := by decide +kernel
theorem dX7_print_44 : decode cX7_print 44 = .ok (.iconst (-1), 1) := by decide +kernel
theorem dX7_print_45 : decode cX7_print 45 = .ok (.if_icmp .ne 31, 3) := by decide +kernel
theorem dX7_print_48 : decode cX7_print 48 = .ok (.aload_n 0, 1) := by decide +kernel
theorem dX7_print_49 : decode cX7_print 49 = .ok (.ldc2_w 278, 3) := by decide +kernel
theorem dX7_print_52 : decode cX7_print 52 = .ok (.invokevirtual 203, 3) := by decide +kernel
theorem dX7_print_55 : decode cX7_print 55 = .ok (.aload_n 0, 1) := by decide +kernel
theorem dX7_print_56 : decode cX7_print 56 = .ok (.ldc2_w 280, 3) := by decide +kernel
theorem dX7_print_59 : decode cX7_print 59 = .ok (.invokevirtual 203, 3) := by decide +kernel
theorem dX7_print_62 : decode cX7_print 62 = .ok (.aload_n 0, 1) := by decide +kernel
theorem dX7_print_63 : decode cX7_print 63 = .ok (.aload_n 0, 1) := by decide +kernel
theorem dX7_print_64 : decode cX7_print 64 = .ok (.getfield 183, 3) := by decide +kernel
theorem dX7_print_67 : decode cX7_print 67 = .ok (.invokevirtual 241, 3) := by decide +kernel
theorem dX7_print_70 : decode cX7_print 70 = .ok (.aload_n 0, 1) := by decide +kernel
theorem dX7_print_71 : decode cX7_print 71 = .ok (.bipush 41, 2) := by decide +kernel
theorem dX7_print_73 : decode cX7_print 73 = .ok (.invokevirtual 141, 3) := by decide +kernel
theorem dX7_print_76 : decode cX7_print 76 = .ok (.aload_n 0, 1) := by decide +kernel
theorem dX7_print_77 : decode cX7_print 77 = .ok (.iload_n 1, 1) := by decide +kernel
theorem dX7_print_78 : decode cX7_print 78 = .ok (.iconst (-1), 1) := by decide +kernel
theorem dX7_print_79 : decode cX7_print 79 = .ok (.if_icmp .ne 10, 3) := by decide +kernel
theorem dX7_print_82 : decode cX7_print 82 = .ok (.aload_n 0, 1) := by decide +kernel
theorem dX7_print_83 : decode cX7_print 83 = .ok (.getfield 136, 3) := by decide +kernel
theorem dX7_print_86 : decode cX7_print 86 = .ok (.goto 9, 3) := by decide +kernel
theorem dX7_print_89 : decode cX7_print 89 = .ok (.aload_n 0, 1) := by decide +kernel
theorem dX7_print_90 : decode cX7_print 90 = .ok (.getfield 70, 3) := by decide +kernel
theorem dX7_print_93 : decode cX7_print 93 = .ok (.iload_n 1, 1) := by decide +kernel
theorem dX7_print_94 : decode cX7_print 94 = .ok (.iaload, 1) := by decide +kernel
theorem dX7_print_95 : decode cX7_print 95 = .ok (.putfield 282, 3) := by decide +kernel
theorem dX7_print_98 : decode cX7_print 98 = .ok (.iconst 0, 1) := by decide +kernel
theorem dX7_print_99 : decode cX7_print 99 = .ok (.istore_n 2, 1) := by decide +kernel
theorem dX7_print_100 : decode cX7_print 100 = .ok (.iload_n 2, 1) := by decide +kernel
theorem dX7_print_101 : decode cX7_print 101 = .ok (.aload_n 0, 1) := by decide +kernel
theorem dX7_print_102 : decode cX7_print 102 = .ok (.getfield 282, 3) := by decide +kernel
theorem dX7_print_105 : decode cX7_print 105 = .ok (.if_icmp .ge 41, 3) := by decide +kernel
theorem dX7_print_108 : decode cX7_print 108 = .ok (.aload_n 0, 1) := by decide +kernel
theorem dX7_print_109 : decode cX7_print 109 = .ok (.getfield 82, 3) := by decide +kernel
theorem dX7_print_112 : decode cX7_print 112 = .ok (.iload_n 2, 1) := by decide +kernel
theorem dX7_print_113 : decode cX7_print 113 = .ok (.iload_n 1, 1) := by decide +kernel
theorem dX7_print_114 : decode cX7_print 114 = .ok (.iconst (-1), 1) := by decide +kernel
theorem dX7_print_115 : decode cX7_print 115 = .ok (.if_icmp .ne 12, 3) := by decide +kernel
theorem dX7_print_118 : decode cX7_print 118 = .ok (.aload_n 0, 1) := by decide +kernel
theorem dX7_print_119 : decode cX7_print 119 = .ok (.getfield 52, 3) := by decide +kernel
theorem dX7_print_122 : decode cX7_print 122 = .ok (.iload_n 2, 1) := by decide +kernel
theorem dX7_print_123 : decode cX7_print 123 = .ok (.iaload, 1) := by decide +kernel
theorem dX7_print_124 : decode cX7_print 124 = .ok (.goto 15, 3) := by decide +kernel
theorem dX7_print_127 : decode cX7_print 127 = .ok (.aload_n 0, 1) := by decide +kernel
theorem dX7_print_128 : decode cX7_print 128 = .ok (.getfield 73, 3) := by decide +kernel
theorem dX7_print_131 : decode cX7_print 131 = .ok (.sipush 1000, 3) := by decide +kernel
theorem dX7_print_134 : decode cX7_print 134 = .ok (.iload_n 1, 1) := by decide +kernel
theorem dX7_print_135 : decode cX7_print 135 = .ok (.imul, 1) := by decide +kernel
theorem dX7_print_136 : decode cX7_print 136 = .ok (.iload_n 2, 1) := by decide +kernel
theorem dX7_print_137 : decode cX7_print 137 = .ok (.iadd, 1) := by decide +kernel
theorem dX7_print_138 : decode cX7_print 138 = .ok (.iaload, 1) := by decide +kernel
theorem dX7_print_139 : decode cX7_print 139 = .ok (.iastore, 1) := by decide +kernel
theorem dX7_print_140 : decode cX7_print 140 = .ok (.iinc 2 1, 3) := by decide +kernel
theorem dX7_print_143 : decode cX7_print 143 = .ok (.goto (-43), 3) := by decide +kernel
theorem dX7_print_146 : decode cX7_print 146 = .ok (.aload_n 0, 1) := by decide +kernel
theorem dX7_print_147 : decode cX7_print 147 = .ok (.getfield 282, 3) := by decide +kernel
theorem dX7_print_150 : decode cX7_print 150 = .ok (.ireturn, 1) := by decide +kernel
theorem dX7_at_0 : decode cX7_at 0 = .ok (.aload_n 0, 1) := by decide +kernel
theorem dX7_at_1 : decode cX7_at 1 = .ok (.iload_n 1, 1) := by decide +kernel
theorem dX7_at_2 : decode cX7_at 2 = .ok (.ifCond .lt 11, 3) := by decide +kernel
theorem dX7_at_5 : decode cX7_at 5 = .ok (.iload_n 1, 1) := by decide +kernel
theorem dX7_at_6 : decode cX7_at 6 = .ok (.aload_n 0, 1) := by decide +kernel
theorem dX7_at_7 : decode cX7_at 7 = .ok (.getfield 282, 3) := by decide +kernel
theorem dX7_at_10 : decode cX7_at 10 = .ok (.if_icmp .lt 7, 3) := by decide +kernel
theorem dX7_at_13 : decode cX7_at 13 = .ok (.iconst 1, 1) := by decide +kernel
theorem dX7_at_14 : decode cX7_at 14 = .ok (.goto 4, 3) := by decide +kernel
theorem dX7_at_17 : decode cX7_at 17 = .ok (.iconst 0, 1) := by decide +kernel
theorem dX7_at_18 : decode cX7_at 18 = .ok (.putfield 85, 3) := by decide +kernel
theorem dX7_at_21 : decode cX7_at 21 = .ok (.aload_n 0, 1) := by decide +kernel
theorem dX7_at_22 : decode cX7_at 22 = .ok (.getfield 85, 3) := by decide +kernel
theorem dX7_at_25 : decode cX7_at 25 = .ok (.ifCond .le 7, 3) := by decide +kernel
theorem dX7_at_28 : decode cX7_at 28 = .ok (.iconst 0, 1) := by decide +kernel
theorem dX7_at_29 : decode cX7_at 29 = .ok (.goto 9, 3) := by decide +kernel
theorem dX7_at_32 : decode cX7_at 32 = .ok (.aload_n 0, 1) := by decide +kernel
theorem dX7_at_33 : decode cX7_at 33 = .ok (.getfield 82, 3) := by decide +kernel
theorem dX7_at_36 : decode cX7_at 36 = .ok (.iload_n 1, 1) := by decide +kernel
theorem dX7_at_37 : decode cX7_at 37 = .ok (.iaload, 1) := by decide +kernel
theorem dX7_at_38 : decode cX7_at 38 = .ok (.ireturn, 1) := by decide +kernel
theorem dX7_twice_0 : decode cX7_twice 0 = .ok (.aload_n 0, 1) := by decide +kernel
theorem dX7_twice_1 : decode cX7_twice 1 = .ok (.iconst 0, 1) := by decide +kernel
theorem dX7_twice_2 : decode cX7_twice 2 = .ok (.putfield 85, 3) := by decide +kernel
theorem dX7_twice_5 : decode cX7_twice 5 = .ok (.iconst 0, 1) := by decide +kernel
theorem dX7_twice_6 : decode cX7_twice 6 = .ok (.istore_n 2, 1) := by decide +kernel
theorem dX7_twice_7 : decode cX7_twice 7 = .ok (.iconst (-1), 1) := by decide +kernel
theorem dX7_twice_8 : decode cX7_twice 8 = .ok (.istore_n 3, 1) := by decide +kernel
theorem dX7_twice_9 : decode cX7_twice 9 = .ok (.iconst 0, 1) := by decide +kernel
theorem dX7_twice_10 : decode cX7_twice 10 = .ok (.istore 4, 2) := by decide +kernel
theorem dX7_twice_12 : decode cX7_twice 12 = .ok (.iload 4, 2) := by decide +kernel
theorem dX7_twice_14 : decode cX7_twice 14 = .ok (.aload_n 0, 1) := by decide +kernel
theorem dX7_twice_15 : decode cX7_twice 15 = .ok (.getfield 89, 3) := by decide +kernel
theorem dX7_twice_18 : decode cX7_twice 18 = .ok (.if_icmp .ge 35, 3) := by decide +kernel
theorem dX7_twice_21 : decode cX7_twice 21 = .ok (.aload_n 0, 1) := by decide +kernel
theorem dX7_twice_22 : decode cX7_twice 22 = .ok (.iload 4, 2) := by decide +kernel
theorem dX7_twice_24 : decode cX7_twice 24 = .ok (.invokevirtual 186, 3) := by decide +kernel
theorem dX7_twice_27 : decode cX7_twice 27 = .ok (.iload 4, 2) := by decide +kernel
theorem dX7_twice_29 : decode cX7_twice 29 = .ok (.if_icmp .eq 18, 3) := by decide +kernel
theorem dX7_twice_32 : decode cX7_twice 32 = .ok (.iload_n 2, 1) := by decide +kernel
theorem dX7_twice_33 : decode cX7_twice 33 = .ok (.iload_n 1, 1) := by decide +kernel
theorem dX7_twice_34 : decode cX7_twice 34 = .ok (.if_icmp .ne 8, 3) := by decide +kernel
theorem dX7_twice_37 : decode cX7_twice 37 = .ok (.iload 4, 2) := by decide +kernel
theorem dX7_twice_39 : decode cX7_twice 39 = .ok (.goto 4, 3) := by decide +kernel
theorem dX7_twice_42 : decode cX7_twice 42 = .ok (.iload_n 3, 1) := by decide +kernel
theorem dX7_twice_43 : decode cX7_twice 43 = .ok (.istore_n 3, 1) := by decide +kernel
theorem dX7_twice_44 : decode cX7_twice 44 = .ok (.iinc 2 1, 3) := by decide +kernel
theorem dX7_twice_47 : decode cX7_twice 47 = .ok (.iinc 4 1, 3) := by decide +kernel
theorem dX7_twice_50 : decode cX7_twice 50 = .ok (.goto (-38), 3) := by decide +kernel
theorem dX7_twice_53 : decode cX7_twice 53 = .ok (.iload_n 1, 1) := by decide +kernel
theorem dX7_twice_54 : decode cX7_twice 54 = .ok (.iconst (-1), 1) := by decide +kernel
theorem dX7_twice_55 : decode cX7_twice 55 = .ok (.if_icmp .ne 5, 3) := by decide +kernel
theorem dX7_twice_58 : decode cX7_twice 58 = .ok (.iload_n 2, 1) := by decide +kernel
theorem dX7_twice_59 : decode cX7_twice 59 = .ok (.ireturn, 1) := by decide +kernel
theorem dX7_twice_60 : decode cX7_twice 60 = .ok (.aload_n 0, 1) := by decide +kernel
theorem dX7_twice_61 : decode cX7_twice 61 = .ok (.iload_n 3, 1) := by decide +kernel
theorem dX7_twice_62 : decode cX7_twice 62 = .ok (.iconst (-1), 1) := by decide +kernel
theorem dX7_twice_63 : decode cX7_twice 63 = .ok (.if_icmp .ne 7, 3) := by decide +kernel
theorem dX7_twice_66 : decode cX7_twice 66 = .ok (.iconst 1, 1) := by decide +kernel
theorem dX7_twice_67 : decode cX7_twice 67 = .ok (.goto 4, 3) := by decide +kernel
theorem dX7_twice_70 : decode cX7_twice 70 = .ok (.iconst 0, 1) := by decide +kernel
theorem dX7_twice_71 : decode cX7_twice 71 = .ok (.putfield 85, 3) := by decide +kernel
theorem dX7_twice_74 : decode cX7_twice 74 = .ok (.aload_n 0, 1) := by decide +kernel
theorem dX7_twice_75 : decode cX7_twice 75 = .ok (.getfield 85, 3) := by decide +kernel
theorem dX7_twice_78 : decode cX7_twice 78 = .ok (.ifCond .le 7, 3) := by decide +kernel
theorem dX7_twice_81 : decode cX7_twice 81 = .ok (.iconst 0, 1) := by decide +kernel
theorem dX7_twice_82 : decode cX7_twice 82 = .ok (.goto 4, 3) := by decide +kernel
theorem dX7_twice_85 : decode cX7_twice 85 = .ok (.iload_n 3, 1) := by decide +kernel
theorem dX7_twice_86 : decode cX7_twice 86 = .ok (.ireturn, 1) := by decide +kernel
theorem dJ0_length_8abf5_0 : decode cJ0_length_8abf5 0 = .ok (.aload_n 0, 1) := by decide +kernel
theorem dJ0_length_8abf5_1 : decode cJ0_length_8abf5 1 = .ok (.getfield 9, 3) := by decide +kernel
theorem dJ0_length_8abf5_4 : decode cJ0_length_8abf5 4 = .ok (.arraylength, 1) := by decide +kernel
theorem dJ0_length_8abf5_5 : decode cJ0_length_8abf5 5 = .ok (.aload_n 0, 1) := by decide +kernel
theorem dJ0_length_8abf5_6 : decode cJ0_length_8abf5 6 = .ok (.invokevirtual 335, 3) := by decide +kernel
theorem dJ0_length_8abf5_9 : decode cJ0_length_8abf5 9 = .ok (.ishr, 1) := by decide +kernel
theorem dJ0_length_8abf5_10 : decode cJ0_length_8abf5 10 = .ok (.ireturn, 1) := by decide +kernel
theorem dJ0_charAt_5068e_0 : decode cJ0_charAt_5068e 0 = .ok (.aload_n 0, 1) := by decide +kernel
theorem dJ0_charAt_5068e_1 : decode cJ0_charAt_5068e 1 = .ok (.invokevirtual 492, 3) := by decide +kernel
theorem dJ0_charAt_5068e_4 : decode cJ0_charAt_5068e 4 = .ok (.ifCond .eq 12, 3) := by decide +kernel
theorem dJ0_charAt_5068e_7 : decode cJ0_charAt_5068e 7 = .ok (.aload_n 0, 1) := by decide +kernel
theorem dJ0_charAt_5068e_8 : decode cJ0_charAt_5068e 8 = .ok (.getfield 9, 3) := by decide +kernel
theorem dJ0_charAt_5068e_11 : decode cJ0_charAt_5068e 11 = .ok (.iload_n 1, 1) := by decide +kernel
theorem dJ0_charAt_5068e_12 : decode cJ0_charAt_5068e 12 = .ok (.invokestatic 495, 3) := by decide +kernel
theorem dJ0_charAt_5068e_15 : decode cJ0_charAt_5068e 15 = .ok (.ireturn, 1) := by decide +kernel
theorem dJ0_charAt_5068e_16 : decode cJ0_charAt_5068e 16 = .ok (.aload_n 0, 1) := by decide +kernel
theorem dJ0_charAt_5068e_17 : decode cJ0_charAt_5068e 17 = .ok (.getfield 9, 3) := by decide +kernel
theorem dJ0_charAt_5068e_20 : decode cJ0_charAt_5068e 20 = .ok (.iload_n 1, 1) := by decide +kernel
theorem dJ0_charAt_5068e_21 : decode cJ0_charAt_5068e 21 = .ok (.invokestatic 498, 3) := by decide +kernel
theorem dJ0_charAt_5068e_24 : decode cJ0_charAt_5068e 24 = .ok (.ireturn, 1) := by decide +kernel
theorem dJ0_coder_7d493_0 : decode cJ0_coder_7d493 0 = .ok (.getstatic 38, 3) := by decide +kernel
theorem dJ0_coder_7d493_3 : decode cJ0_coder_7d493 3 = .ok (.ifCond .eq 10, 3) := by decide +kernel
theorem dJ0_coder_7d493_6 : decode cJ0_coder_7d493 6 = .ok (.aload_n 0, 1) := by decide +kernel
theorem dJ0_coder_7d493_7 : decode cJ0_coder_7d493 7 = .ok (.getfield 15, 3) := by decide +kernel
theorem dJ0_coder_7d493_10 : decode cJ0_coder_7d493 10 = .ok (.goto 4, 3) := by decide +kernel
theorem dJ0_coder_7d493_13 : decode cJ0_coder_7d493 13 = .ok (.iconst 1, 1) := by decide +kernel
theorem dJ0_coder_7d493_14 : decode cJ0_coder_7d493 14 = .ok (.ireturn, 1) := by decide +kernel
theorem dJ0_isLatin1_aae02_0 : decode cJ0_isLatin1_aae02 0 = .ok (.getstatic 38, 3) := by decide +kernel
theorem dJ0_isLatin1_aae02_3 : decode cJ0_isLatin1_aae02 3 = .ok (.ifCond .eq 14, 3) := by decide +kernel
theorem dJ0_isLatin1_aae02_6 : decode cJ0_isLatin1_aae02 6 = .ok (.aload_n 0, 1) := by decide +kernel
theorem dJ0_isLatin1_aae02_7 : decode cJ0_isLatin1_aae02 7 = .ok (.getfield 15, 3) := by decide +kernel
theorem dJ0_isLatin1_aae02_10 : decode cJ0_isLatin1_aae02 10 = .ok (.ifCond .ne 7, 3) := by decide +kernel
theorem dJ0_isLatin1_aae02_13 : decode cJ0_isLatin1_aae02 13 = .ok (.iconst 1, 1) := by decide +kernel
theorem dJ0_isLatin1_aae02_14 : decode cJ0_isLatin1_aae02 14 = .ok (.goto 4, 3) := by decide +kernel
theorem dJ0_isLatin1_aae02_17 : decode cJ0_isLatin1_aae02 17 = .ok (.iconst 0, 1) := by decide +kernel
theorem dJ0_isLatin1_aae02_18 : decode cJ0_isLatin1_aae02 18 = .ok (.ireturn, 1) := by decide +kernel
theorem dJ0_checkIndex_df160_0 : decode cJ0_checkIndex_df160 0 = .ok (.iload_n 0, 1) := by decide +kernel
theorem dJ0_checkIndex_df160_1 : decode cJ0_checkIndex_df160 1 = .ok (.iload_n 1, 1) := by decide +kernel
theorem dJ0_checkIndex_df160_2 : decode cJ0_checkIndex_df160 2 = .ok (.getstatic 1053, 3) := by decide +kernel
theorem dJ0_checkIndex_df160_5 : decode cJ0_checkIndex_df160 5 = .ok (.invokestatic 1059, 3) := by decide +kernel
theorem dJ0_checkIndex_df160_8 : decode cJ0_checkIndex_df160 8 = .ok (.pop, 1) := by decide +kernel
theorem dJ0_checkIndex_df160_9 : decode cJ0_checkIndex_df160 9 = .ok (.return_, 1) := by decide +kernel
theorem dJ1_charAt_3b067_0 : decode cJ1_charAt_3b067 0 = .ok (.iload_n 1, 1) := by decide +kernel
theorem dJ1_charAt_3b067_1 : decode cJ1_charAt_3b067 1 = .ok (.aload_n 0, 1) := by decide +kernel
theorem dJ1_charAt_3b067_2 : decode cJ1_charAt_3b067 2 = .ok (.arraylength, 1) := by decide +kernel
theorem dJ1_charAt_3b067_3 : decode cJ1_charAt_3b067 3 = .ok (.invokestatic 9, 3) := by decide +kernel
theorem dJ1_charAt_3b067_6 : decode cJ1_charAt_3b067 6 = .ok (.aload_n 0, 1) := by decide +kernel
theorem dJ1_charAt_3b067_7 : decode cJ1_charAt_3b067 7 = .ok (.iload_n 1, 1) := by decide +kernel
theorem dJ1_charAt_3b067_8 : decode cJ1_charAt_3b067 8 = .ok (.baload, 1) := by decide +kernel
theorem dJ1_charAt_3b067_9 : decode cJ1_charAt_3b067 9 = .ok (.sipush 255, 3) := by decide +kernel
theorem dJ1_charAt_3b067_12 : decode cJ1_charAt_3b067 12 = .ok (.iand, 1) := by decide +kernel
theorem dJ1_charAt_3b067_13 : decode cJ1_charAt_3b067 13 = .ok (.i2c, 1) := by decide +kernel
theorem dJ1_charAt_3b067_14 : decode cJ1_charAt_3b067 14 = .ok (.ireturn, 1) := by decide +kernel
theorem dJxa1e45_init_da8c8_0 : decode cJxa1e45_init_da8c8 0 = .ok (.aload_n 0, 1) := by decide +kernel
theorem dJxa1e45_init_da8c8_1 : decode cJxa1e45_init_da8c8 1 = .ok (.invokespecial 1, 3) := by decide +kernel
theorem dJxa1e45_init_da8c8_4 : decode cJxa1e45_init_da8c8 4 = .ok (.return_, 1) := by decide +kernel
theorem dJxc12de_init_da8c8_0 : decode cJxc12de_init_da8c8 0 = .ok (.aload_n 0, 1) := by decide +kernel
theorem dJxc12de_init_da8c8_1 : decode cJxc12de_init_da8c8 1 = .ok (.invokespecial 1, 3) := by decide +kernel
theorem dJxc12de_init_da8c8_4 : decode cJxc12de_init_da8c8 4 = .ok (.aload_n 0, 1) := by decide +kernel
theorem dJxc12de_init_da8c8_5 : decode cJxc12de_init_da8c8 5 = .ok (.iconst 0, 1) := by decide +kernel
theorem dJxc12de_init_da8c8_6 : decode cJxc12de_init_da8c8 6 = .ok (.putfield 7, 3) := by decide +kernel
theorem dJxc12de_init_da8c8_9 : decode cJxc12de_init_da8c8 9 = .ok (.return_, 1) := by decide +kernel
theorem dJx4a65c_init_da8c8_0 : decode cJx4a65c_init_da8c8 0 = .ok (.aload_n 0, 1) := by decide +kernel
theorem dJx4a65c_init_da8c8_1 : decode cJx4a65c_init_da8c8 1 = .ok (.invokespecial 1, 3) := by decide +kernel
theorem dJx4a65c_init_da8c8_4 : decode cJx4a65c_init_da8c8 4 = .ok (.aload_n 0, 1) := by decide +kernel
theorem dJx4a65c_init_da8c8_5 : decode cJx4a65c_init_da8c8 5 = .ok (.getstatic 39, 3) := by decide +kernel
theorem dJx4a65c_init_da8c8_8 : decode cJx4a65c_init_da8c8 8 = .ok (.putfield 9, 3) := by decide +kernel
theorem dJx4a65c_init_da8c8_11 : decode cJx4a65c_init_da8c8 11 = .ok (.return_, 1) := by decide +kernel
theorem dJx4a65c_grow_92f84_0 : decode cJx4a65c_grow_92f84 0 = .ok (.aload_n 0, 1) := by decide +kernel
theorem dJx4a65c_grow_92f84_1 : decode cJx4a65c_grow_92f84 1 = .ok (.getfield 9, 3) := by decide +kernel
theorem dJx4a65c_grow_92f84_4 : decode cJx4a65c_grow_92f84 4 = .ok (.arraylength, 1) := by decide +kernel
theorem dJx4a65c_grow_92f84_5 : decode cJx4a65c_grow_92f84 5 = .ok (.istore_n 2, 1) := by decide +kernel
theorem dJx4a65c_grow_92f84_6 : decode cJx4a65c_grow_92f84 6 = .ok (.iload_n 2, 1) := by decide +kernel
theorem dJx4a65c_grow_92f84_7 : decode cJx4a65c_grow_92f84 7 = .ok (.ifCond .gt 13, 3) := by decide +kernel
theorem dJx4a65c_grow_92f84_10 : decode cJx4a65c_grow_92f84 10 = .ok (.aload_n 0, 1) := by decide +kernel
theorem dJx4a65c_grow_92f84_11 : decode cJx4a65c_grow_92f84 11 = .ok (.getfield 9, 3) := by decide +kernel
theorem dJx4a65c_grow_92f84_14 : decode cJx4a65c_grow_92f84 14 = .ok (.getstatic 39, 3) := by decide +kernel
theorem dJx4a65c_grow_92f84_17 : decode cJx4a65c_grow_92f84 17 = .ok (.if_acmp .eq 28, 3) := by decide +kernel
theorem dJx4a65c_grow_92f84_20 : decode cJx4a65c_grow_92f84 20 = .ok (.iload_n 2, 1) := by decide +kernel
theorem dJx4a65c_grow_92f84_21 : decode cJx4a65c_grow_92f84 21 = .ok (.iload_n 1, 1) := by decide +kernel
theorem dJx4a65c_grow_92f84_22 : decode cJx4a65c_grow_92f84 22 = .ok (.iload_n 2, 1) := by decide +kernel
theorem dJx4a65c_grow_92f84_23 : decode cJx4a65c_grow_92f84 23 = .ok (.isub, 1) := by decide +kernel
theorem dJx4a65c_grow_92f84_24 : decode cJx4a65c_grow_92f84 24 = .ok (.iload_n 2, 1) := by decide +kernel
theorem dJx4a65c_grow_92f84_25 : decode cJx4a65c_grow_92f84 25 = .ok (.iconst 1, 1) := by decide +kernel
theorem dJx4a65c_grow_92f84_26 : decode cJx4a65c_grow_92f84 26 = .ok (.ishr, 1) := by decide +kernel
theorem dJx4a65c_grow_92f84_27 : decode cJx4a65c_grow_92f84 27 = .ok (.invokestatic 73, 3) := by decide +kernel
theorem dJx4a65c_grow_92f84_30 : decode cJx4a65c_grow_92f84 30 = .ok (.istore_n 3, 1) := by decide +kernel
theorem dJx4a65c_grow_92f84_31 : decode cJx4a65c_grow_92f84 31 = .ok (.aload_n 0, 1) := by decide +kernel
theorem dJx4a65c_grow_92f84_32 : decode cJx4a65c_grow_92f84 32 = .ok (.aload_n 0, 1) := by decide +kernel
theorem dJx4a65c_grow_92f84_33 : decode cJx4a65c_grow_92f84 33 = .ok (.getfield 9, 3) := by decide +kernel
theorem dJx4a65c_grow_92f84_36 : decode cJx4a65c_grow_92f84 36 = .ok (.iload_n 3, 1) := by decide +kernel
theorem dJx4a65c_grow_92f84_37 : decode cJx4a65c_grow_92f84 37 = .ok (.invokestatic 66, 3) := by decide +kernel
theorem dJx4a65c_grow_92f84_40 : decode cJx4a65c_grow_92f84 40 = .ok (.dup_x1, 1) := by decide +kernel
theorem dJx4a65c_grow_92f84_41 : decode cJx4a65c_grow_92f84 41 = .ok (.putfield 9, 3) := by decide +kernel
theorem dJx4a65c_grow_92f84_44 : decode cJx4a65c_grow_92f84 44 = .ok (.areturn, 1) := by decide +kernel
theorem dJx4a65c_grow_92f84_45 : decode cJx4a65c_grow_92f84 45 = .ok (.aload_n 0, 1) := by decide +kernel
theorem dJx4a65c_grow_92f84_46 : decode cJx4a65c_grow_92f84 46 = .ok (.bipush 10, 2) := by decide +kernel
theorem dJx4a65c_grow_92f84_48 : decode cJx4a65c_grow_92f84 48 = .ok (.iload_n 1, 1) := by decide +kernel
theorem dJx4a65c_grow_92f84_49 : decode cJx4a65c_grow_92f84 49 = .ok (.invokestatic 79, 3) := by decide +kernel
theorem dJx4a65c_grow_92f84_52 : decode cJx4a65c_grow_92f84 52 = .ok (.anewarray 7, 3) := by decide +kernel
theorem dJx4a65c_grow_92f84_55 : decode cJx4a65c_grow_92f84 55 = .ok (.dup_x1, 1) := by decide +kernel
theorem dJx4a65c_grow_92f84_56 : decode cJx4a65c_grow_92f84 56 = .ok (.putfield 9, 3) := by decide +kernel
theorem dJx4a65c_grow_92f84_59 : decode cJx4a65c_grow_92f84 59 = .ok (.areturn, 1) := by decide +kernel
theorem dJx4a65c_grow_d5877_0 : decode cJx4a65c_grow_d5877 0 = .ok (.aload_n 0, 1) := by decide +kernel
theorem dJx4a65c_grow_d5877_1 : decode cJx4a65c_grow_d5877 1 = .ok (.aload_n 0, 1) := by decide +kernel
theorem dJx4a65c_grow_d5877_2 : decode cJx4a65c_grow_d5877 2 = .ok (.getfield 48, 3) := by decide +kernel
theorem dJx4a65c_grow_d5877_5 : decode cJx4a65c_grow_d5877 5 = .ok (.iconst 1, 1) := by decide +kernel
theorem dJx4a65c_grow_d5877_6 : decode cJx4a65c_grow_d5877 6 = .ok (.iadd, 1) := by decide +kernel
theorem dJx4a65c_grow_d5877_7 : decode cJx4a65c_grow_d5877 7 = .ok (.invokevirtual 69, 3) := by decide +kernel
theorem dJx4a65c_grow_d5877_10 : decode cJx4a65c_grow_d5877 10 = .ok (.areturn, 1) := by decide +kernel
theorem dJx4a65c_size_8abf5_0 : decode cJx4a65c_size_8abf5 0 = .ok (.aload_n 0, 1) := by decide +kernel
theorem dJx4a65c_size_8abf5_1 : decode cJx4a65c_size_8abf5 1 = .ok (.getfield 48, 3) := by decide +kernel
theorem dJx4a65c_size_8abf5_4 : decode cJx4a65c_size_8abf5 4 = .ok (.ireturn, 1) := by decide +kernel
theorem dJx4a65c_elementData_915e3_0 : decode cJx4a65c_elementData_915e3 0 = .ok (.aload_n 0, 1) := by decide +kernel
theorem dJx4a65c_elementData_915e3_1 : decode cJx4a65c_elementData_915e3 1 = .ok (.getfield 9, 3) := by decide +kernel
theorem dJx4a65c_elementData_915e3_4 : decode cJx4a65c_elementData_915e3 4 = .ok (.iload_n 1, 1) := by decide +kernel
theorem dJx4a65c_elementData_915e3_5 : decode cJx4a65c_elementData_915e3 5 = .ok (.aaload, 1) := by decide +kernel
theorem dJx4a65c_elementData_915e3_6 : decode cJx4a65c_elementData_915e3 6 = .ok (.areturn, 1) := by decide +kernel
theorem dJx4a65c_get_915e3_0 : decode cJx4a65c_get_915e3 0 = .ok (.iload_n 1, 1) := by decide +kernel
theorem dJx4a65c_get_915e3_1 : decode cJx4a65c_get_915e3 1 = .ok (.aload_n 0, 1) := by decide +kernel
theorem dJx4a65c_get_915e3_2 : decode cJx4a65c_get_915e3 2 = .ok (.getfield 48, 3) := by decide +kernel
theorem dJx4a65c_get_915e3_5 : decode cJx4a65c_get_915e3 5 = .ok (.invokestatic 118, 3) := by decide +kernel
theorem dJx4a65c_get_915e3_8 : decode cJx4a65c_get_915e3 8 = .ok (.pop, 1) := by decide +kernel
theorem dJx4a65c_get_915e3_9 : decode cJx4a65c_get_915e3 9 = .ok (.aload_n 0, 1) := by decide +kernel
theorem dJx4a65c_get_915e3_10 : decode cJx4a65c_get_915e3 10 = .ok (.iload_n 1, 1) := by decide +kernel
theorem dJx4a65c_get_915e3_11 : decode cJx4a65c_get_915e3 11 = .ok (.invokevirtual 123, 3) := by decide +kernel
theorem dJx4a65c_get_915e3_14 : decode cJx4a65c_get_915e3 14 = .ok (.areturn, 1) := by decide +kernel
theorem dJx4a65c_set_bcc79_0 : decode cJx4a65c_set_bcc79 0 = .ok (.iload_n 1, 1) := by decide +kernel
theorem dJx4a65c_set_bcc79_1 : decode cJx4a65c_set_bcc79 1 = .ok (.aload_n 0, 1) := by decide +kernel
theorem dJx4a65c_set_bcc79_2 : decode cJx4a65c_set_bcc79 2 = .ok (.getfield 48, 3) := by decide +kernel
theorem dJx4a65c_set_bcc79_5 : decode cJx4a65c_set_bcc79 5 = .ok (.invokestatic 118, 3) := by decide +kernel
theorem dJx4a65c_set_bcc79_8 : decode cJx4a65c_set_bcc79 8 = .ok (.pop, 1) := by decide +kernel
theorem dJx4a65c_set_bcc79_9 : decode cJx4a65c_set_bcc79 9 = .ok (.aload_n 0, 1) := by decide +kernel
theorem dJx4a65c_set_bcc79_10 : decode cJx4a65c_set_bcc79 10 = .ok (.iload_n 1, 1) := by decide +kernel
theorem dJx4a65c_set_bcc79_11 : decode cJx4a65c_set_bcc79 11 = .ok (.invokevirtual 123, 3) := by decide +kernel
theorem dJx4a65c_set_bcc79_14 : decode cJx4a65c_set_bcc79 14 = .ok (.astore_n 3, 1) := by decide +kernel
theorem dJx4a65c_set_bcc79_15 : decode cJx4a65c_set_bcc79 15 = .ok (.aload_n 0, 1) := by decide +kernel
theorem dJx4a65c_set_bcc79_16 : decode cJx4a65c_set_bcc79 16 = .ok (.getfield 9, 3) := by decide +kernel
theorem dJx4a65c_set_bcc79_19 : decode cJx4a65c_set_bcc79 19 = .ok (.iload_n 1, 1) := by decide +kernel
theorem dJx4a65c_set_bcc79_20 : decode cJx4a65c_set_bcc79 20 = .ok (.aload_n 2, 1) := by decide +kernel
theorem dJx4a65c_set_bcc79_21 : decode cJx4a65c_set_bcc79 21 = .ok (.aastore, 1) := by decide +kernel
theorem dJx4a65c_set_bcc79_22 : decode cJx4a65c_set_bcc79 22 = .ok (.aload_n 3, 1) := by decide +kernel
theorem dJx4a65c_set_bcc79_23 : decode cJx4a65c_set_bcc79 23 = .ok (.areturn, 1) := by decide +kernel
theorem dJx4a65c_add_72be8_0 : decode cJx4a65c_add_72be8 0 = .ok (.iload_n 3, 1) := by decide +kernel
theorem dJx4a65c_add_72be8_1 : decode cJx4a65c_add_72be8 1 = .ok (.aload_n 2, 1) := by decide +kernel
theorem dJx4a65c_add_72be8_2 : decode cJx4a65c_add_72be8 2 = .ok (.arraylength, 1) := by decide +kernel
theorem dJx4a65c_add_72be8_3 : decode cJx4a65c_add_72be8 3 = .ok (.if_icmp .ne 8, 3) := by decide +kernel
theorem dJx4a65c_add_72be8_6 : decode cJx4a65c_add_72be8 6 = .ok (.aload_n 0, 1) := by decide +kernel
theorem dJx4a65c_add_72be8_7 : decode cJx4a65c_add_72be8 7 = .ok (.invokevirtual 129, 3) := by decide +kernel
theorem dJx4a65c_add_72be8_10 : decode cJx4a65c_add_72be8 10 = .ok (.astore_n 2, 1) := by decide +kernel
theorem dJx4a65c_add_72be8_11 : decode cJx4a65c_add_72be8 11 = .ok (.aload_n 2, 1) := by decide +kernel
theorem dJx4a65c_add_72be8_12 : decode cJx4a65c_add_72be8 12 = .ok (.iload_n 3, 1) := by decide +kernel
theorem dJx4a65c_add_72be8_13 : decode cJx4a65c_add_72be8 13 = .ok (.aload_n 1, 1) := by decide +kernel
theorem dJx4a65c_add_72be8_14 : decode cJx4a65c_add_72be8 14 = .ok (.aastore, 1) := by decide +kernel
theorem dJx4a65c_add_72be8_15 : decode cJx4a65c_add_72be8 15 = .ok (.aload_n 0, 1) := by decide +kernel
theorem dJx4a65c_add_72be8_16 : decode cJx4a65c_add_72be8 16 = .ok (.iload_n 3, 1) := by decide +kernel
theorem dJx4a65c_add_72be8_17 : decode cJx4a65c_add_72be8 17 = .ok (.iconst 1, 1) := by decide +kernel
theorem dJx4a65c_add_72be8_18 : decode cJx4a65c_add_72be8 18 = .ok (.iadd, 1) := by decide +kernel
theorem dJx4a65c_add_72be8_19 : decode cJx4a65c_add_72be8 19 = .ok (.putfield 48, 3) := by decide +kernel
theorem dJx4a65c_add_72be8_22 : decode cJx4a65c_add_72be8 22 = .ok (.return_, 1) := by decide +kernel
theorem dJx4a65c_add_9ea2d_0 : decode cJx4a65c_add_9ea2d 0 = .ok (.aload_n 0, 1) := by decide +kernel
theorem dJx4a65c_add_9ea2d_1 : decode cJx4a65c_add_9ea2d 1 = .ok (.dup, 1) := by decide +kernel
theorem dJx4a65c_add_9ea2d_2 : decode cJx4a65c_add_9ea2d 2 = .ok (.getfield 63, 3) := by decide +kernel
theorem dJx4a65c_add_9ea2d_5 : decode cJx4a65c_add_9ea2d 5 = .ok (.iconst 1, 1) := by decide +kernel
theorem dJx4a65c_add_9ea2d_6 : decode cJx4a65c_add_9ea2d 6 = .ok (.iadd, 1) := by decide +kernel
theorem dJx4a65c_add_9ea2d_7 : decode cJx4a65c_add_9ea2d 7 = .ok (.putfield 63, 3) := by decide +kernel
theorem dJx4a65c_add_9ea2d_10 : decode cJx4a65c_add_9ea2d 10 = .ok (.aload_n 0, 1) := by decide +kernel
theorem dJx4a65c_add_9ea2d_11 : decode cJx4a65c_add_9ea2d 11 = .ok (.aload_n 1, 1) := by decide +kernel
theorem dJx4a65c_add_9ea2d_12 : decode cJx4a65c_add_9ea2d 12 = .ok (.aload_n 0, 1) := by decide +kernel
theorem dJx4a65c_add_9ea2d_13 : decode cJx4a65c_add_9ea2d 13 = .ok (.getfield 9, 3) := by decide +kernel
theorem dJx4a65c_add_9ea2d_16 : decode cJx4a65c_add_9ea2d 16 = .ok (.aload_n 0, 1) := by decide +kernel
theorem dJx4a65c_add_9ea2d_17 : decode cJx4a65c_add_9ea2d 17 = .ok (.getfield 48, 3) := by decide +kernel
theorem dJx4a65c_add_9ea2d_20 : decode cJx4a65c_add_9ea2d 20 = .ok (.invokevirtual 131, 3) := by decide +kernel
theorem dJx4a65c_add_9ea2d_23 : decode cJx4a65c_add_9ea2d 23 = .ok (.iconst 1, 1) := by decide +kernel
theorem dJx4a65c_add_9ea2d_24 : decode cJx4a65c_add_9ea2d 24 = .ok (.ireturn, 1) := by decide +kernel
theorem dJ7_copyOf_1904c_0 : decode cJ7_copyOf_1904c 0 = .ok (.aload_n 0, 1) := by decide +kernel
theorem dJ7_copyOf_1904c_1 : decode cJ7_copyOf_1904c 1 = .ok (.iload_n 1, 1) := by decide +kernel
theorem dJ7_copyOf_1904c_2 : decode cJ7_copyOf_1904c 2 = .ok (.aload_n 0, 1) := by decide +kernel
theorem dJ7_copyOf_1904c_3 : decode cJ7_copyOf_1904c 3 = .ok (.invokevirtual 86, 3) := by decide +kernel
theorem dJ7_copyOf_1904c_6 : decode cJ7_copyOf_1904c 6 = .ok (.invokestatic 300, 3) := by decide +kernel
theorem dJ7_copyOf_1904c_9 : decode cJ7_copyOf_1904c 9 = .ok (.areturn, 1) := by decide +kernel
theorem dJ7_copyOf_6403c_0 : decode cJ7_copyOf_6403c 0 = .ok (.aload_n 2, 1) := by decide +kernel
theorem dJ7_copyOf_6403c_1 : decode cJ7_copyOf_6403c 1 = .ok (.ldc 110, 2) := by decide +kernel
theorem dJ7_copyOf_6403c_3 : decode cJ7_copyOf_6403c 3 = .ok (.if_acmp .ne 10, 3) := by decide +kernel
theorem dJ7_copyOf_6403c_6 : decode cJ7_copyOf_6403c 6 = .ok (.iload_n 1, 1) := by decide +kernel
theorem dJ7_copyOf_6403c_7 : decode cJ7_copyOf_6403c 7 = .ok (.anewarray 2, 3) := by decide +kernel
theorem dJ7_copyOf_6403c_10 : decode cJ7_copyOf_6403c 10 = .ok (.goto 14, 3) := by decide +kernel
theorem dJ7_copyOf_6403c_13 : decode cJ7_copyOf_6403c 13 = .ok (.aload_n 2, 1) := by decide +kernel
theorem dJ7_copyOf_6403c_14 : decode cJ7_copyOf_6403c 14 = .ok (.invokevirtual 90, 3) := by decide +kernel
theorem dJ7_copyOf_6403c_17 : decode cJ7_copyOf_6403c 17 = .ok (.iload_n 1, 1) := by decide +kernel
theorem dJ7_copyOf_6403c_18 : decode cJ7_copyOf_6403c 18 = .ok (.invokestatic 95, 3) := by decide +kernel
theorem dJ7_copyOf_6403c_21 : decode cJ7_copyOf_6403c 21 = .ok (.checkcast 110, 3) := by decide +kernel
theorem dJ7_copyOf_6403c_24 : decode cJ7_copyOf_6403c 24 = .ok (.astore_n 3, 1) := by decide +kernel
theorem dJ7_copyOf_6403c_25 : decode cJ7_copyOf_6403c 25 = .ok (.aload_n 0, 1) := by decide +kernel
theorem dJ7_copyOf_6403c_26 : decode cJ7_copyOf_6403c 26 = .ok (.iconst 0, 1) := by decide +kernel
theorem dJ7_copyOf_6403c_27 : decode cJ7_copyOf_6403c 27 = .ok (.aload_n 3, 1) := by decide +kernel
theorem dJ7_copyOf_6403c_28 : decode cJ7_copyOf_6403c 28 = .ok (.iconst 0, 1) := by decide +kernel
theorem dJ7_copyOf_6403c_29 : decode cJ7_copyOf_6403c 29 = .ok (.aload_n 0, 1) := by decide +kernel
theorem dJ7_copyOf_6403c_30 : decode cJ7_copyOf_6403c 30 = .ok (.arraylength, 1) := by decide +kernel
theorem dJ7_copyOf_6403c_31 : decode cJ7_copyOf_6403c 31 = .ok (.iload_n 1, 1) := by decide +kernel
theorem dJ7_copyOf_6403c_32 : decode cJ7_copyOf_6403c 32 = .ok (.invokestatic 304, 3) := by decide +kernel
theorem dJ7_copyOf_6403c_35 : decode cJ7_copyOf_6403c 35 = .ok (.invokestatic 150, 3) := by decide +kernel
theorem dJ7_copyOf_6403c_38 : decode cJ7_copyOf_6403c 38 = .ok (.aload_n 3, 1) := by decide +kernel
theorem dJ7_copyOf_6403c_39 : decode cJ7_copyOf_6403c 39 = .ok (.areturn, 1) := by decide +kernel
theorem dJ15_checkIndex_7cf53_0 : decode cJ15_checkIndex_7cf53 0 = .ok (.iload_n 0, 1) := by decide +kernel
theorem dJ15_checkIndex_7cf53_1 : decode cJ15_checkIndex_7cf53 1 = .ok (.iload_n 1, 1) := by decide +kernel
theorem dJ15_checkIndex_7cf53_2 : decode cJ15_checkIndex_7cf53 2 = .ok (.aconst_null, 1) := by decide +kernel
theorem dJ15_checkIndex_7cf53_3 : decode cJ15_checkIndex_7cf53 3 = .ok (.invokestatic 105, 3) := by decide +kernel
theorem dJ15_checkIndex_7cf53_6 : decode cJ15_checkIndex_7cf53 6 = .ok (.ireturn, 1) := by decide +kernel
theorem dJ8_newLength_cabcc_0 : decode cJ8_newLength_cabcc 0 = .ok (.iload_n 0, 1) := by decide +kernel
theorem dJ8_newLength_cabcc_1 : decode cJ8_newLength_cabcc 1 = .ok (.iload_n 1, 1) := by decide +kernel
theorem dJ8_newLength_cabcc_2 : decode cJ8_newLength_cabcc 2 = .ok (.iload_n 2, 1) := by decide +kernel
theorem dJ8_newLength_cabcc_3 : decode cJ8_newLength_cabcc 3 = .ok (.invokestatic 194, 3) := by decide +kernel
theorem dJ8_newLength_cabcc_6 : decode cJ8_newLength_cabcc 6 = .ok (.iadd, 1) := by decide +kernel
theorem dJ8_newLength_cabcc_7 : decode cJ8_newLength_cabcc 7 = .ok (.istore_n 3, 1) := by decide +kernel
theorem dJ8_newLength_cabcc_8 : decode cJ8_newLength_cabcc 8 = .ok (.iconst 0, 1) := by decide +kernel
theorem dJ8_newLength_cabcc_9 : decode cJ8_newLength_cabcc 9 = .ok (.iload_n 3, 1) := by decide +kernel
theorem dJ8_newLength_cabcc_10 : decode cJ8_newLength_cabcc 10 = .ok (.if_icmp .ge 11, 3) := by decide +kernel
theorem dJ8_newLength_cabcc_13 : decode cJ8_newLength_cabcc 13 = .ok (.iload_n 3, 1) := by decide +kernel
theorem dJ8_newLength_cabcc_14 : decode cJ8_newLength_cabcc 14 = .ok (.ldc 200, 2) := by decide +kernel
theorem dJ8_newLength_cabcc_16 : decode cJ8_newLength_cabcc 16 = .ok (.if_icmp .gt 5, 3) := by decide +kernel
theorem dJ8_newLength_cabcc_19 : decode cJ8_newLength_cabcc 19 = .ok (.iload_n 3, 1) := by decide +kernel
theorem dJ8_newLength_cabcc_20 : decode cJ8_newLength_cabcc 20 = .ok (.ireturn, 1) := by decide +kernel
theorem dJ8_newLength_cabcc_21 : decode cJ8_newLength_cabcc 21 = .ok (.iload_n 0, 1) := by decide +kernel
theorem dJ8_newLength_cabcc_22 : decode cJ8_newLength_cabcc 22 = .ok (.iload_n 1, 1) := by decide +kernel
theorem dJ8_newLength_cabcc_23 : decode cJ8_newLength_cabcc 23 = .ok (.invokestatic 201, 3) := by decide +kernel
theorem dJ8_newLength_cabcc_26 : decode cJ8_newLength_cabcc 26 = .ok (.ireturn, 1) := by decide +kernel
theorem dJ3_checkIndex_8e157_0 : decode cJ3_checkIndex_8e157 0 = .ok (.iload_n 0, 1) := by decide +kernel
theorem dJ3_checkIndex_8e157_1 : decode cJ3_checkIndex_8e157 1 = .ok (.ifCond .lt 8, 3) := by decide +kernel
theorem dJ3_checkIndex_8e157_4 : decode cJ3_checkIndex_8e157 4 = .ok (.iload_n 0, 1) := by decide +kernel
theorem dJ3_checkIndex_8e157_5 : decode cJ3_checkIndex_8e157 5 = .ok (.iload_n 1, 1) := by decide +kernel
theorem dJ3_checkIndex_8e157_6 : decode cJ3_checkIndex_8e157 6 = .ok (.if_icmp .lt 10, 3) := by decide +kernel
theorem dJ3_checkIndex_8e157_9 : decode cJ3_checkIndex_8e157 9 = .ok (.aload_n 2, 1) := by decide +kernel
theorem dJ3_checkIndex_8e157_10 : decode cJ3_checkIndex_8e157 10 = .ok (.iload_n 0, 1) := by decide +kernel
theorem dJ3_checkIndex_8e157_11 : decode cJ3_checkIndex_8e157 11 = .ok (.iload_n 1, 1) := by decide +kernel
theorem dJ3_checkIndex_8e157_12 : decode cJ3_checkIndex_8e157 12 = .ok (.invokestatic 95, 3) := by decide +kernel
theorem dJ3_checkIndex_8e157_15 : decode cJ3_checkIndex_8e157 15 = .ok (.athrow, 1) := by decide +kernel
theorem dJ3_checkIndex_8e157_16 : decode cJ3_checkIndex_8e157 16 = .ok (.iload_n 0, 1) := by decide +kernel
theorem dJ3_checkIndex_8e157_17 : decode cJ3_checkIndex_8e157 17 = .ok (.ireturn, 1) := by decide +kernel
end
section
/-- the classes whose objects the pure machine holds; kind of an object = number here + 1 -/
abbrev vwCl : List vw_C := [(RJx4a65c, TJx4a65c, 3), (RX0, TX0, 5), (RX1, TX1, 6), (RX2, TX2, 5), (RX3, TX3, 7), (RX4, TX4, 8), (RX5, TX5, 2), (RX6, TX6, 8), (RX7, TX7, 38)]
/-- which fields are references -/
def fBs : List (List Bool) := [[false, true, false], [false, false, true, true, true], [true, false, false, true, true, false], [false, false, false, false, false], [true, true, true, false, true, true, false], [true, true, true, true, true, true, false, true], [true, false], [true, true, false, false, true, true, true, true], [false, false, true, true, true, true, true, true, false, false, true, false, false, true, true, true, true, true, true, true, true, false, true, false, false, false, true, true, true, true, true, true, false, true, true, false, true, false]]
def fB (c k : Nat) : Bool := (fBs.getD c []).getD k false
def fN (c : Nat) : Nat := (fBs.getD c []).length
/-- boolean fields -/
def fZ (c k : Nat) : Bool := (c == 2 && k == 2) || (c == 8 && k == 24)
/-- final fields -/
def fFs : List (List Bool) := [[false, false, false], [true, true, true, true, false], [true, false, false, true, true, false], [false, false, false, false, false], [false, true, true, false, true, true, false], [false, true, true, true, true, true, false, true], [false, false], [true, true, false, false, true, true, true, true], [false, false, true, true, true, true, true, true, false, false, true, false, false, true, true, true, true, true, true, true, true, false, true, false, false, false, true, true, true, true, true, true, false, true, true, false, true, false]]
def fF (c k : Nat) : Bool := (fFs.getD c []).getD k false
def mB : Nat → ByteArray
  | 0 => cX0_init
  | 1 => cX0_own
  | 2 => cX0_has
  | 3 => cX0_value
  | 4 => cX0_leadsTo
  | 5 => cX1_init
  | 6 => cX1_size
  | 7 => cX1_get
  | 8 => cX1_begin
  | 9 => cX1_list
  | 10 => cX1_arrange
  | 11 => cX1_setBases
  | 12 => cX1_isMistaken
  | 13 => cX1_setSuffixes
  | 14 => cX1_markAlike
  | 15 => cX1_findMissing
  | 16 => cX2_init
  | 17 => cX2_hasGiven
  | 18 => cX3_init
  | 19 => cX3_size
  | 20 => cX3_read
  | 21 => cX3_isAnd
  | 22 => cX3_readPerson
  | 23 => cX3_readWords
  | 24 => cX3_nextPerson
  | 25 => cX3_partAtComma
  | 26 => cX3_partAtParticles
  | 27 => cX3_beginsSmall
  | 28 => cX3_wordStart
  | 29 => cX3_personAt
  | 30 => cX3_hasGiven
  | 31 => cX3_addName
  | 32 => cX3_addFamily
  | 33 => cX3_addInitials
  | 34 => cX3_addWords
  | 35 => cX3_addOrder
  | 36 => cX3_addPiece
  | 37 => cX3_addFamilySigns
  | 38 => cX4_init
  | 39 => cX4_tellOf
  | 40 => cX4_setOrder
  | 41 => cX4_addYearOrder
  | 42 => cX4_isMistakenFor
  | 43 => cX4_setBase
  | 44 => cX4_addShortBase
  | 45 => cX4_addLongBase
  | 46 => cX4_writeText
  | 47 => cX4_addLabel
  | 48 => cX4_beginPiece
  | 49 => cX4_addValuePiece
  | 50 => cX4_addSource
  | 51 => cX4_addPages
  | 52 => cX5_init
  | 53 => cX5_clear
  | 54 => cX5_size
  | 55 => cX5_isEmpty
  | 56 => cX5_signAt
  | 57 => cX5_addSign
  | 58 => cX5_cut
  | 59 => cX5_addString
  | 60 => cX5_addText
  | 61 => cX5_addPart
  | 62 => cX5_addNumber
  | 63 => cX5_fold
  | 64 => cX5_comparedTo
  | 65 => cX5_sameAs
  | 66 => cX6_init
  | 67 => cX6_entry
  | 68 => cX6_key
  | 69 => cX6_field
  | 70 => cX6_cite
  | 71 => cX6_cross
  | 72 => cX6_style
  | 73 => cX6_run
  | 74 => cX6_row
  | 75 => cX6_letter
  | 76 => cX6_initials
  | 77 => cX6_missing
  | 78 => cX6_print
  | 79 => cX6_at
  | 80 => cX6_twice
  | 81 => cX6_entryNumbered
  | 82 => cX6_rowAt
  | 83 => cX6_realOne
  | 84 => cX6_printHead
  | 85 => cX6_signOf
  | 86 => cX6_addBytes
  | 87 => cX6_byteOf
  | 88 => cX6_isCharacter
  | 89 => cX6_isSmall
  | 90 => cX6_folded
  | 91 => cX7_init
  | 92 => cX7_thrown
  | 93 => cX7_isEntry
  | 94 => cX7_entry
  | 95 => cX7_isCharacter
  | 96 => cX7_countOf
  | 97 => cX7_addTo
  | 98 => cX7_key
  | 99 => cX7_field
  | 100 => cX7_cite
  | 101 => cX7_cross
  | 102 => cX7_style
  | 103 => cX7_value
  | 104 => cX7_real
  | 105 => cX7_fold
  | 106 => cX7_isSmall
  | 107 => cX7_startsSmall
  | 108 => cX7_addWord
  | 109 => cX7_endPerson
  | 110 => cX7_read
  | 111 => cX7_put
  | 112 => cX7_say
  | 113 => cX7_putField
  | 114 => cX7_putKey
  | 115 => cX7_putWords
  | 116 => cX7_has
  | 117 => cX7_putName
  | 118 => cX7_putInitials
  | 119 => cX7_turn
  | 120 => cX7_order
  | 121 => cX7_orderOfPart
  | 122 => cX7_orderOfPersons
  | 123 => cX7_orderOfField
  | 124 => cX7_orderOf
  | 125 => cX7_list
  | 126 => cX7_isAlike
  | 127 => cX7_makeShort
  | 128 => cX7_makeLong
  | 129 => cX7_makeBase
  | 130 => cX7_isSameBase
  | 131 => cX7_setLetters
  | 132 => cX7_nextPiece
  | 133 => cX7_putFull
  | 134 => cX7_piecePersons
  | 135 => cX7_pieceField
  | 136 => cX7_pieceThird
  | 137 => cX7_putNumber
  | 138 => cX7_makeText
  | 139 => cX7_want
  | 140 => cX7_lookWhatLacks
  | 141 => cX7_run
  | 142 => cX7_isRow
  | 143 => cX7_row
  | 144 => cX7_letter
  | 145 => cX7_initials
  | 146 => cX7_missing
  | 147 => cX7_print
  | 148 => cX7_at
  | 149 => cX7_twice
  | 150 => cJ0_length_8abf5
  | 151 => cJ0_charAt_5068e
  | 152 => cJ0_coder_7d493
  | 153 => cJ0_isLatin1_aae02
  | 154 => cJ0_checkIndex_df160
  | 155 => cJ1_charAt_3b067
  | 156 => cJxa1e45_init_da8c8
  | 157 => cJxc12de_init_da8c8
  | 158 => cJx4a65c_init_da8c8
  | 159 => cJx4a65c_grow_92f84
  | 160 => cJx4a65c_grow_d5877
  | 161 => cJx4a65c_size_8abf5
  | 162 => cJx4a65c_elementData_915e3
  | 163 => cJx4a65c_get_915e3
  | 164 => cJx4a65c_set_bcc79
  | 165 => cJx4a65c_add_72be8
  | 166 => cJx4a65c_add_9ea2d
  | 167 => cJ7_copyOf_1904c
  | 168 => cJ7_copyOf_6403c
  | 169 => cJ15_checkIndex_7cf53
  | 170 => cJ8_newLength_cabcc
  | 171 => cJ3_checkIndex_8e157
  | _ => ByteArray.empty
def mY : Nat → MethodName
  | 0 => yX0_init
  | 1 => yX0_own
  | 2 => yX0_has
  | 3 => yX0_value
  | 4 => yX0_leadsTo
  | 5 => yX1_init
  | 6 => yX1_size
  | 7 => yX1_get
  | 8 => yX1_begin
  | 9 => yX1_list
  | 10 => yX1_arrange
  | 11 => yX1_setBases
  | 12 => yX1_isMistaken
  | 13 => yX1_setSuffixes
  | 14 => yX1_markAlike
  | 15 => yX1_findMissing
  | 16 => yX2_init
  | 17 => yX2_hasGiven
  | 18 => yX3_init
  | 19 => yX3_size
  | 20 => yX3_read
  | 21 => yX3_isAnd
  | 22 => yX3_readPerson
  | 23 => yX3_readWords
  | 24 => yX3_nextPerson
  | 25 => yX3_partAtComma
  | 26 => yX3_partAtParticles
  | 27 => yX3_beginsSmall
  | 28 => yX3_wordStart
  | 29 => yX3_personAt
  | 30 => yX3_hasGiven
  | 31 => yX3_addName
  | 32 => yX3_addFamily
  | 33 => yX3_addInitials
  | 34 => yX3_addWords
  | 35 => yX3_addOrder
  | 36 => yX3_addPiece
  | 37 => yX3_addFamilySigns
  | 38 => yX4_init
  | 39 => yX4_tellOf
  | 40 => yX4_setOrder
  | 41 => yX4_addYearOrder
  | 42 => yX4_isMistakenFor
  | 43 => yX4_setBase
  | 44 => yX4_addShortBase
  | 45 => yX4_addLongBase
  | 46 => yX4_writeText
  | 47 => yX4_addLabel
  | 48 => yX4_beginPiece
  | 49 => yX4_addValuePiece
  | 50 => yX4_addSource
  | 51 => yX4_addPages
  | 52 => yX5_init
  | 53 => yX5_clear
  | 54 => yX5_size
  | 55 => yX5_isEmpty
  | 56 => yX5_signAt
  | 57 => yX5_addSign
  | 58 => yX5_cut
  | 59 => yX5_addString
  | 60 => yX5_addText
  | 61 => yX5_addPart
  | 62 => yX5_addNumber
  | 63 => yX5_fold
  | 64 => yX5_comparedTo
  | 65 => yX5_sameAs
  | 66 => yX6_init
  | 67 => yX6_entry
  | 68 => yX6_key
  | 69 => yX6_field
  | 70 => yX6_cite
  | 71 => yX6_cross
  | 72 => yX6_style
  | 73 => yX6_run
  | 74 => yX6_row
  | 75 => yX6_letter
  | 76 => yX6_initials
  | 77 => yX6_missing
  | 78 => yX6_print
  | 79 => yX6_at
  | 80 => yX6_twice
  | 81 => yX6_entryNumbered
  | 82 => yX6_rowAt
  | 83 => yX6_realOne
  | 84 => yX6_printHead
  | 85 => yX6_signOf
  | 86 => yX6_addBytes
  | 87 => yX6_byteOf
  | 88 => yX6_isCharacter
  | 89 => yX6_isSmall
  | 90 => yX6_folded
  | 91 => yX7_init
  | 92 => yX7_thrown
  | 93 => yX7_isEntry
  | 94 => yX7_entry
  | 95 => yX7_isCharacter
  | 96 => yX7_countOf
  | 97 => yX7_addTo
  | 98 => yX7_key
  | 99 => yX7_field
  | 100 => yX7_cite
  | 101 => yX7_cross
  | 102 => yX7_style
  | 103 => yX7_value
  | 104 => yX7_real
  | 105 => yX7_fold
  | 106 => yX7_isSmall
  | 107 => yX7_startsSmall
  | 108 => yX7_addWord
  | 109 => yX7_endPerson
  | 110 => yX7_read
  | 111 => yX7_put
  | 112 => yX7_say
  | 113 => yX7_putField
  | 114 => yX7_putKey
  | 115 => yX7_putWords
  | 116 => yX7_has
  | 117 => yX7_putName
  | 118 => yX7_putInitials
  | 119 => yX7_turn
  | 120 => yX7_order
  | 121 => yX7_orderOfPart
  | 122 => yX7_orderOfPersons
  | 123 => yX7_orderOfField
  | 124 => yX7_orderOf
  | 125 => yX7_list
  | 126 => yX7_isAlike
  | 127 => yX7_makeShort
  | 128 => yX7_makeLong
  | 129 => yX7_makeBase
  | 130 => yX7_isSameBase
  | 131 => yX7_setLetters
  | 132 => yX7_nextPiece
  | 133 => yX7_putFull
  | 134 => yX7_piecePersons
  | 135 => yX7_pieceField
  | 136 => yX7_pieceThird
  | 137 => yX7_putNumber
  | 138 => yX7_makeText
  | 139 => yX7_want
  | 140 => yX7_lookWhatLacks
  | 141 => yX7_run
  | 142 => yX7_isRow
  | 143 => yX7_row
  | 144 => yX7_letter
  | 145 => yX7_initials
  | 146 => yX7_missing
  | 147 => yX7_print
  | 148 => yX7_at
  | 149 => yX7_twice
  | 150 => yJ0_length_8abf5
  | 151 => yJ0_charAt_5068e
  | 152 => yJ0_coder_7d493
  | 153 => yJ0_isLatin1_aae02
  | 154 => yJ0_checkIndex_df160
  | 155 => yJ1_charAt_3b067
  | 156 => yJxa1e45_init_da8c8
  | 157 => yJxc12de_init_da8c8
  | 158 => yJx4a65c_init_da8c8
  | 159 => yJx4a65c_grow_92f84
  | 160 => yJx4a65c_grow_d5877
  | 161 => yJx4a65c_size_8abf5
  | 162 => yJx4a65c_elementData_915e3
  | 163 => yJx4a65c_get_915e3
  | 164 => yJx4a65c_set_bcc79
  | 165 => yJx4a65c_add_72be8
  | 166 => yJx4a65c_add_9ea2d
  | 167 => yJ7_copyOf_1904c
  | 168 => yJ7_copyOf_6403c
  | 169 => yJ15_checkIndex_7cf53
  | 170 => yJ8_newLength_cabcc
  | 171 => yJ3_checkIndex_8e157
  | _ => objectInit
def mLs : List Nat := [4, 2, 2, 6, 4, 1, 1, 2, 1, 3, 5, 3, 3, 2, 5, 5, 1, 1, 1, 1, 5, 3, 7, 5, 1, 5, 6, 2, 2, 2, 2, 3, 3, 5, 6, 4, 4, 4, 2, 2, 2, 1, 2, 3, 2, 2, 4, 3, 2, 4, 2, 3, 1, 1, 1, 1, 2, 3, 2, 3, 2, 5, 2, 2, 4, 2, 1, 3, 3, 5, 3, 5, 4, 2, 2, 2, 4, 3, 3, 2, 5, 2, 2, 3, 1, 2, 6, 2, 1, 1, 2, 1, 1, 2, 2, 1, 4, 6, 4, 6, 4, 4, 4, 4, 5, 2, 1, 2, 5, 10, 14, 2, 5, 3, 4, 9, 6, 3, 5, 2, 5, 3, 5, 4, 4, 5, 4, 6, 5, 5, 5, 5, 1, 2, 4, 2, 5, 2, 4, 3, 3, 2, 2, 2, 2, 4, 3, 3, 2, 5, 1, 2, 1, 1, 2, 2, 1, 1, 1, 4, 1, 1, 2, 2, 4, 4, 2, 2, 4, 2, 4, 3]
def mL (k : Nat) : Nat := mLs.getD k 0
def mRs : List (Option FieldType) := [none, (some (.object "CiteLists$Text")), (some .boolean), (some (.object "CiteLists$Text")), (some .boolean), none, (some .int), (some (.object "CiteLists$Row")), none, none, none, none, (some .boolean), none, none, none, none, (some .boolean), none, (some .int), none, (some .boolean), none, none, (some (.object "CiteLists$Person")), none, none, (some .boolean), (some .int), (some (.object "CiteLists$Person")), (some .boolean), none, none, none, none, none, none, none, none, none, none, none, (some .boolean), none, none, none, none, none, none, none, none, none, none, none, (some .int), (some .boolean), (some .int), none, none, none, none, none, none, none, (some .int), (some .boolean), none, (some .int), none, none, (some .int), (some .int), (some .int), (some .int), (some .int), (some .int), (some .int), (some .int), (some .int), (some .int), (some .int), (some (.object "CiteLists$Entry")), (some (.object "CiteLists$Row")), (some (.object "CiteLists$Entry")), none, (some .int), none, (some .int), (some .boolean), (some .boolean), (some .int), none, (some .int), (some .boolean), (some .int), (some .boolean), (some .int), none, none, none, (some .int), (some .int), (some .int), (some .int), (some .int), (some .int), (some .boolean), (some .boolean), none, none, none, none, none, none, none, none, (some .boolean), none, none, none, (some .int), (some .int), (some .int), (some .int), (some .int), none, (some .boolean), none, none, none, (some .boolean), none, none, none, none, none, none, none, none, none, none, (some .int), (some .boolean), (some .int), (some .int), (some .int), (some .int), (some .int), (some .int), (some .int), (some .int), (some .char), (some .byte), (some .boolean), none, (some .char), none, none, none, (some (.array (.object "java/lang/Object"))), (some (.array (.object "java/lang/Object"))), (some .int), (some (.object "java/lang/Object")), (some (.object "java/lang/Object")), (some (.object "java/lang/Object")), none, (some .boolean), (some (.array (.object "java/lang/Object"))), (some (.array (.object "java/lang/Object"))), (some .int), (some .int), (some .int)]
def mR (k : Nat) : (Option FieldType) := mRs.getD k none
def mOs : List Nat := [1, 1, 1, 1, 1, 2, 2, 2, 2, 2, 2, 2, 2, 2, 2, 2, 3, 3, 4, 4, 4, 4, 4, 4, 4, 4, 4, 4, 4, 4, 4, 4, 4, 4, 4, 4, 4, 4, 5, 5, 5, 5, 5, 5, 5, 5, 5, 5, 5, 5, 5, 5, 6, 6, 6, 6, 6, 6, 6, 6, 6, 6, 6, 6, 6, 6, 7, 7, 7, 7, 7, 7, 7, 7, 7, 7, 7, 7, 7, 7, 7, 7, 7, 7, 7, 7, 7, 7, 7, 7, 7, 8, 8, 8, 8, 8, 8, 8, 8, 8, 8, 8, 8, 8, 8, 8, 8, 8, 8, 8, 8, 8, 8, 8, 8, 8, 8, 8, 8, 8, 8, 8, 8, 8, 8, 8, 8, 8, 8, 8, 8, 8, 8, 8, 8, 8, 8, 8, 8, 8, 8, 8, 8, 8, 8, 8, 8, 8, 8, 8, 9, 9, 9, 9, 9, 10, 12, 13, 0, 0, 0, 0, 0, 0, 0, 0, 0, 14, 14, 15, 16, 17]
def mO (k : Nat) : Nat := mOs.getD k 99
def mAs : List Nat := [3, 2, 2, 2, 2, 1, 1, 2, 1, 2, 2, 2, 2, 1, 2, 1, 1, 1, 1, 1, 2, 3, 3, 3, 1, 4, 3, 2, 2, 2, 2, 3, 3, 3, 4, 2, 2, 2, 2, 2, 2, 1, 2, 3, 1, 2, 3, 3, 2, 4, 2, 3, 1, 1, 1, 1, 2, 2, 2, 2, 2, 4, 2, 1, 2, 2, 1, 2, 3, 4, 2, 3, 3, 1, 2, 2, 4, 3, 2, 2, 2, 2, 2, 2, 1, 2, 3, 2, 1, 1, 1, 1, 1, 2, 2, 1, 1, 3, 3, 4, 2, 3, 3, 3, 2, 1, 1, 2, 4, 4, 3, 2, 2, 2, 3, 5, 4, 3, 3, 1, 2, 3, 3, 4, 3, 1, 2, 2, 3, 2, 3, 1, 1, 2, 2, 2, 2, 2, 2, 3, 2, 1, 2, 2, 2, 4, 3, 2, 2, 2, 1, 2, 1, 1, 2, 2, 1, 1, 1, 2, 1, 1, 2, 2, 3, 4, 2, 2, 3, 2, 3, 3]
def mA (k : Nat) : Nat := mAs.getD k 0
def mSs : List Bool := [false, false, false, false, false, false, false, false, false, false, false, false, false, false, false, false, false, false, false, false, false, false, false, false, false, false, false, false, false, false, false, false, false, false, false, false, false, false, false, false, false, false, false, false, false, false, false, false, false, false, false, false, false, false, false, false, false, false, false, false, false, false, false, false, false, false, false, false, false, false, false, false, false, false, false, false, false, false, false, false, false, false, false, false, false, true, true, true, true, true, true, false, false, false, false, true, true, true, false, false, false, false, false, false, false, true, true, false, false, false, false, false, false, false, false, false, false, false, false, false, false, false, false, false, false, false, false, false, false, false, false, false, false, false, false, false, false, false, false, false, false, false, false, false, false, false, false, false, false, false, false, false, false, false, true, true, false, false, false, false, false, false, false, false, false, false, false, true, true, true, true, true]
def mS (k : Nat) : Bool := mSs.getD k false
def mIs : List Bool := [true, false, false, false, false, true, false, false, false, false, false, false, false, false, false, false, true, false, true, false, false, false, false, false, false, false, false, false, false, false, false, false, false, false, false, false, false, false, true, false, false, false, false, false, false, false, false, false, false, false, false, false, true, false, false, false, false, false, false, false, false, false, false, false, false, false, true, false, false, false, false, false, false, false, false, false, false, false, false, false, false, false, false, false, false, false, false, false, false, false, false, true, false, false, false, false, false, false, false, false, false, false, false, false, false, false, false, false, false, false, false, false, false, false, false, false, false, false, false, false, false, false, false, false, false, false, false, false, false, false, false, false, false, false, false, false, false, false, false, false, false, false, false, false, false, false, false, false, false, false, false, false, false, false, false, false, true, true, true, false, false, false, false, false, false, false, false, false, false, false, false, false]
def mI (k : Nat) : Bool := mIs.getD k false
def mFs : List Nat := [2, 0, 2, 1, 0, 4, 0, 3, 0, 11, 7, 7, 4, 4, 3, 3, 1, 0, 4, 0, 9, 1, 8, 1, 7, 2, 2, 1, 0, 3, 4, 4, 4, 4, 2, 4, 5, 4, 5, 10, 6, 4, 3, 6, 5, 5, 8, 4, 5, 6, 7, 5, 1, 0, 0, 0, 0, 1, 0, 4, 3, 2, 2, 5, 1, 2, 5, 7, 7, 7, 7, 7, 6, 12, 7, 7, 10, 6, 7, 7, 6, 6, 6, 3, 6, 6, 6, 0, 0, 0, 4, 1, 0, 0, 0, 0, 1, 0, 2, 2, 1, 1, 0, 0, 0, 0, 0, 1, 0, 2, 3, 0, 1, 1, 1, 1, 0, 2, 1, 0, 1, 2, 4, 2, 5, 6, 4, 4, 4, 5, 0, 1, 1, 3, 4, 2, 3, 1, 5, 1, 2, 7, 0, 1, 1, 4, 0, 2, 0, 1, 1, 3, 0, 0, 1, 2, 1, 2, 3, 3, 4, 0, 0, 2, 2, 5, 6, 2, 1, 1, 1, 0]
def mF (k : Nat) : Nat := mFs.getD k 0
def mWs : List Nat := [40, 0, 46, 21, 0, 80, 0, 64, 0, 282, 168, 172, 86, 89, 65, 67, 20, 0, 80, 0, 237, 21, 211, 21, 191, 42, 42, 21, 0, 64, 85, 107, 107, 85, 82, 107, 129, 85, 100, 261, 147, 127, 65, 150, 129, 129, 172, 127, 107, 128, 151, 127, 20, 0, 0, 0, 0, 60, 0, 85, 106, 82, 82, 106, 21, 44, 100, 191, 115, 115, 191, 111, 90, 304, 111, 111, 261, 90, 127, 111, 90, 90, 90, 65, 107, 90, 90, 0, 0, 0, 85, 20, 0, 0, 0, 0, 20, 0, 43, 43, 21, 21, 0, 0, 0, 0, 0, 20, 0, 41, 70, 0, 21, 21, 21, 21, 0, 49, 21, 0, 21, 49, 103, 45, 127, 150, 103, 103, 103, 128, 0, 24, 21, 71, 103, 43, 64, 21, 126, 23, 45, 174, 0, 21, 21, 103, 0, 45, 0, 24, 20, 64, 0, 0, 22, 43, 20, 40, 60, 104, 127, 0, 0, 43, 43, 147, 170, 83, 60, 22, 21, 0]
def mW (k : Nat) : Nat := mWs.getD k 0
def fR : Nat → Nat → Option (Nat × Nat)
  | 0, 9 => some (0, 1)
  | 0, 48 => some (0, 2)
  | 0, 63 => some (0, 0)
  | 1, 12 => some (1, 2)
  | 1, 18 => some (1, 3)
  | 1, 22 => some (1, 4)
  | 1, 26 => some (1, 0)
  | 1, 30 => some (1, 1)
  | 2, 12 => some (2, 0)
  | 2, 18 => some (2, 1)
  | 2, 22 => some (2, 2)
  | 2, 26 => some (2, 3)
  | 2, 30 => some (2, 4)
  | 2, 33 => some (2, 5)
  | 2, 42 => some (5, 0)
  | 2, 64 => some (5, 2)
  | 2, 89 => some (5, 6)
  | 2, 92 => some (5, 5)
  | 2, 109 => some (1, 1)
  | 2, 118 => some (1, 0)
  | 3, 7 => some (3, 0)
  | 3, 13 => some (3, 1)
  | 3, 16 => some (3, 2)
  | 3, 19 => some (3, 3)
  | 3, 22 => some (3, 4)
  | 4, 12 => some (4, 0)
  | 4, 18 => some (4, 1)
  | 4, 22 => some (4, 2)
  | 4, 25 => some (4, 3)
  | 4, 32 => some (4, 4)
  | 4, 39 => some (4, 5)
  | 4, 43 => some (4, 6)
  | 4, 90 => some (3, 2)
  | 4, 93 => some (3, 3)
  | 4, 96 => some (3, 4)
  | 4, 99 => some (3, 0)
  | 4, 102 => some (3, 1)
  | 5, 12 => some (5, 1)
  | 5, 21 => some (5, 2)
  | 5, 25 => some (5, 3)
  | 5, 28 => some (5, 4)
  | 5, 31 => some (5, 5)
  | 5, 34 => some (5, 6)
  | 5, 38 => some (5, 7)
  | 5, 41 => some (5, 0)
  | 5, 96 => some (1, 2)
  | 5, 154 => some (1, 1)
  | 6, 9 => some (6, 0)
  | 6, 13 => some (6, 1)
  | 7, 12 => some (7, 0)
  | 7, 16 => some (7, 1)
  | 7, 19 => some (7, 2)
  | 7, 23 => some (7, 3)
  | 7, 29 => some (7, 4)
  | 7, 36 => some (7, 5)
  | 7, 43 => some (7, 6)
  | 7, 47 => some (7, 7)
  | 7, 74 => some (1, 2)
  | 7, 96 => some (1, 4)
  | 7, 145 => some (5, 0)
  | 7, 148 => some (1, 0)
  | 7, 151 => some (5, 6)
  | 7, 176 => some (2, 5)
  | 7, 181 => some (2, 3)
  | 7, 185 => some (2, 4)
  | 7, 191 => some (5, 7)
  | 7, 214 => some (2, 2)
  | 8, 7 => some (8, 2)
  | 8, 13 => some (8, 3)
  | 8, 16 => some (8, 4)
  | 8, 19 => some (8, 5)
  | 8, 22 => some (8, 6)
  | 8, 25 => some (8, 7)
  | 8, 28 => some (8, 10)
  | 8, 31 => some (8, 13)
  | 8, 34 => some (8, 14)
  | 8, 37 => some (8, 15)
  | 8, 40 => some (8, 16)
  | 8, 43 => some (8, 17)
  | 8, 46 => some (8, 18)
  | 8, 49 => some (8, 19)
  | 8, 52 => some (8, 20)
  | 8, 55 => some (8, 22)
  | 8, 58 => some (8, 26)
  | 8, 61 => some (8, 27)
  | 8, 64 => some (8, 28)
  | 8, 67 => some (8, 29)
  | 8, 70 => some (8, 30)
  | 8, 73 => some (8, 31)
  | 8, 76 => some (8, 33)
  | 8, 79 => some (8, 34)
  | 8, 82 => some (8, 36)
  | 8, 85 => some (8, 0)
  | 8, 89 => some (8, 1)
  | 8, 107 => some (8, 8)
  | 8, 110 => some (8, 9)
  | 8, 113 => some (8, 11)
  | 8, 116 => some (8, 12)
  | 8, 136 => some (8, 21)
  | 8, 153 => some (8, 23)
  | 8, 183 => some (8, 25)
  | 8, 223 => some (8, 37)
  | 8, 250 => some (8, 32)
  | 8, 271 => some (8, 24)
  | 8, 282 => some (8, 35)
  | 9, 9 => some (9, 0)
  | 9, 15 => some (9, 1)
  | 13, 7 => some (0, 0)
  | _, _ => none
def sR : Nat → Nat → Option (Nat)
  | 0, 39 => some 1
  | 2, 106 => some 0
  | 9, 38 => some 2
  | 9, 1053 => some 3
  | _, _ => none
def kR : Nat → Nat → Option (Nat)
  | 0, 7 => some 104
  | 1, 9 => some 6
  | 2, 9 => some 0
  | 2, 40 => some 5
  | 4, 9 => some 6
  | 4, 29 => some 0
  | 4, 36 => some 3
  | 5, 9 => some 4
  | 5, 18 => some 6
  | 7, 9 => some 0
  | 7, 26 => some 2
  | 7, 33 => some 6
  | 7, 40 => some 4
  | 7, 61 => some 1
  | 14, 2 => some 104
  | 14, 110 => some 204
  | _, _ => none
def cRl : List (Nat × Nat × Nat) := [(0, 1, 157), (0, 66, 167), (0, 69, 159), (0, 73, 170), (0, 79, 1002), (0, 118, 169), (0, 123, 162), (0, 129, 160), (0, 131, 165), (1, 3, 1000), (1, 11, 52), (1, 33, 3), (1, 37, 55), (1, 41, 1), (2, 3, 1000), (2, 11, 158), (2, 36, 163), (2, 46, 161), (2, 50, 38), (2, 53, 166), (2, 57, 39), (2, 60, 40), (2, 68, 64), (2, 74, 164), (2, 78, 12), (2, 82, 43), (2, 86, 42), (2, 95, 55), (2, 99, 14), (2, 102, 65), (2, 114, 2), (3, 1, 1000), (4, 3, 1000), (4, 11, 52), (4, 31, 158), (4, 38, 16), (4, 46, 54), (4, 50, 56), (4, 54, 21), (4, 58, 22), (4, 62, 23), (4, 65, 24), (4, 69, 25), (4, 73, 26), (4, 77, 161), (4, 78, 166), (4, 82, 163), (4, 86, 27), (4, 105, 28), (4, 108, 89), (4, 111, 29), (4, 115, 17), (4, 119, 34), (4, 123, 57), (4, 127, 1002), (4, 137, 59), (4, 141, 31), (4, 145, 30), (4, 147, 33), (5, 3, 1000), (5, 11, 18), (5, 20, 52), (5, 45, 3), (5, 51, 20), (5, 55, 53), (5, 58, 19), (5, 62, 32), (5, 66, 63), (5, 69, 33), (5, 72, 41), (5, 75, 35), (5, 78, 60), (5, 81, 57), (5, 85, 65), (5, 89, 44), (5, 92, 45), (5, 99, 61), (5, 103, 58), (5, 106, 37), (5, 109, 54), (5, 110, 30), (5, 114, 31), (5, 119, 59), (5, 125, 2), (5, 128, 47), (5, 132, 48), (5, 135, 36), (5, 140, 49), (5, 144, 50), (5, 147, 62), (5, 159, 51), (6, 1, 1000), (6, 17, 1001), (6, 23, 150), (6, 28, 151), (6, 32, 57), (6, 36, 61), (6, 40, 1002), (6, 46, 90), (6, 52, 1003), (6, 55, 64), (7, 3, 1000), (7, 11, 158), (7, 28, 5), (7, 35, 52), (7, 42, 18), (7, 50, 161), (7, 63, 0), (7, 66, 166), (7, 70, 81), (7, 77, 86), (7, 86, 1), (7, 92, 4), (7, 105, 8), (7, 108, 163), (7, 112, 83), (7, 116, 9), (7, 120, 10), (7, 124, 11), (7, 127, 13), (7, 130, 6), (7, 131, 7), (7, 134, 46), (7, 139, 15), (7, 142, 82), (7, 154, 3), (7, 157, 20), (7, 161, 19), (7, 164, 53), (7, 167, 33), (7, 171, 54), (7, 172, 85), (7, 188, 84), (7, 194, 60), (7, 206, 55), (7, 210, 65), (7, 222, 59), (7, 225, 62), (7, 228, 57), (7, 233, 56), (7, 237, 87), (7, 241, 88), (7, 251, 150), (7, 256, 151), (8, 1, 1000), (8, 92, 95), (8, 96, 96), (8, 100, 93), (8, 103, 97), (8, 119, 106), (8, 122, 107), (8, 125, 103), (8, 129, 109), (8, 133, 108), (8, 141, 111), (8, 145, 115), (8, 149, 116), (8, 156, 105), (8, 159, 119), (8, 162, 120), (8, 166, 110), (8, 170, 121), (8, 173, 113), (8, 176, 122), (8, 179, 123), (8, 186, 104), (8, 189, 124), (8, 192, 118), (8, 195, 114), (8, 198, 117), (8, 203, 112), (8, 209, 126), (8, 212, 127), (8, 215, 128), (8, 219, 130), (8, 226, 132), (8, 229, 133), (8, 234, 135), (8, 241, 137), (8, 244, 134), (8, 247, 136), (8, 253, 139), (8, 256, 125), (8, 259, 129), (8, 262, 131), (8, 265, 138), (8, 268, 140), (8, 275, 142), (9, 335, 152), (9, 492, 153), (9, 495, 155), (9, 1059, 171), (10, 9, 154), (12, 1, 1000), (13, 1, 156), (14, 86, 1004), (14, 150, 1001), (14, 300, 168), (14, 304, 1003), (15, 105, 171), (16, 194, 1002)]
def cR (o i : Nat) : Option Nat := (cRl.find? (fun q => q.1 == o && q.2.1 == i)).map (fun q => q.2.2)
def lS : Nat → Nat → Option (Nat)
  | 4, 133 => some 1
  | 4, 135 => some 5
  | 4, 150 => some 2
  | 5, 117 => some 1
  | 5, 123 => some 2
  | 5, 138 => some 6
  | 5, 150 => some 3
  | 5, 152 => some 4
  | 5, 157 => some 5
  | 5, 163 => some 7
  | 5, 165 => some 8
  | 7, 220 => some 9
  | 7, 249 => some 0
  | _, _ => none
def lL : Nat → Nat → Option (Int64)
  | 8, 139 => some 256
  | 8, 201 => some 139123908896
  | 8, 207 => some 13067013340816672
  | 8, 232 => some 8236
  | 8, 237 => some 540700233
  | 8, 239 => some 35383826980908
  | 8, 278 => some 111542001886546
  | 8, 280 => some 44119840088942
  | _, _ => none
def tR : Nat → Nat → Option (Nat)
  | 67, 14 => some 3
  | 69, 17 => some 1
  | 70, 18 => some 3
  | 72, 18 => some 2
  | 76, 31 => some 1
  | 77, 37 => some 1
  | 80, 60 => some 1
  | 81, 15 => some 0
  | 82, 15 => some 1
  | 84, 10 => some 1
  | 85, 12 => some 1
  | 86, 32 => some 2
  | 86, 61 => some 3
  | _, _ => none
def exN : Nat → String
  | 0 => "java/util/NoSuchElementException"
  | 1 => "java/lang/IndexOutOfBoundsException"
  | 2 => "java/lang/IllegalArgumentException"
  | 3 => "java/lang/UnsupportedOperationException"
  | _ => ""
end
section
/-- the good words of the tables -/
def gW : List Cond := lw_tbl.filter goodWord
theorem gWm {w : Cond} (i : Nat) (h : lw_tbl[i]? = some w) (hg : goodWord w = true) : w ∈ gW := List.mem_filter.mpr ⟨List.mem_of_getElem? h, hg⟩
theorem gW_good : ∀ w ∈ gW, goodWord w = true := fun w h => (List.mem_filter.mp h).2
def ownS : Nat → String
  | 0 => RJx4a65c
  | 1 => RX0
  | 2 => RX1
  | 3 => RX2
  | 4 => RX3
  | 5 => RX4
  | 6 => RX5
  | 7 => RX6
  | 8 => RX7
  | 9 => RJ0
  | 10 => RJ1
  | 11 => "java/lang/StringUTF16"
  | 12 => RJxa1e45
  | 13 => RJxc12de
  | 14 => RJ7
  | 15 => RJ15
  | 16 => RJ8
  | 17 => RJ3
  | 18 => "java/lang/Math"
  | _ => ""
def clT : Nat → u_T
  | 0 => TJx4a65c
  | 1 => TX0
  | 2 => TX1
  | 3 => TX2
  | 4 => TX3
  | 5 => TX4
  | 6 => TX5
  | 7 => TX6
  | 8 => TX7
  | _ => fun _ => ("", "", "", false)
def clY : Nat → Nat → FieldType
  | 0 => tyJx4a65c
  | 1 => tyX0
  | 2 => tyX1
  | 3 => tyX2
  | 4 => tyX3
  | 5 => tyX4
  | 6 => tyX5
  | 7 => tyX6
  | 8 => tyX7
  | _ => fun _ => .int
set_option maxRecDepth 20000 in
theorem gu_RJx4a65c : ∀ w ∈ u_ws RJx4a65c TJx4a65c 3, w ∈ gW := by
  have h : (u_ws RJx4a65c TJx4a65c 3).all (fun w => decide (w ∈ lw_tbl) && goodWord w) = true := by decide +kernel
  intro w hw
  have h1 := List.all_eq_true.mp h w hw
  simp only [Bool.and_eq_true, decide_eq_true_eq] at h1
  exact List.mem_filter.mpr h1
set_option maxRecDepth 20000 in
theorem gu_RX0 : ∀ w ∈ u_ws RX0 TX0 5, w ∈ gW := by
  have h : (u_ws RX0 TX0 5).all (fun w => decide (w ∈ lw_tbl) && goodWord w) = true := by decide +kernel
  intro w hw
  have h1 := List.all_eq_true.mp h w hw
  simp only [Bool.and_eq_true, decide_eq_true_eq] at h1
  exact List.mem_filter.mpr h1
set_option maxRecDepth 20000 in
theorem gu_RX1 : ∀ w ∈ u_ws RX1 TX1 6, w ∈ gW := by
  have h : (u_ws RX1 TX1 6).all (fun w => decide (w ∈ lw_tbl) && goodWord w) = true := by decide +kernel
  intro w hw
  have h1 := List.all_eq_true.mp h w hw
  simp only [Bool.and_eq_true, decide_eq_true_eq] at h1
  exact List.mem_filter.mpr h1
set_option maxRecDepth 20000 in
theorem gu_RX2 : ∀ w ∈ u_ws RX2 TX2 5, w ∈ gW := by
  have h : (u_ws RX2 TX2 5).all (fun w => decide (w ∈ lw_tbl) && goodWord w) = true := by decide +kernel
  intro w hw
  have h1 := List.all_eq_true.mp h w hw
  simp only [Bool.and_eq_true, decide_eq_true_eq] at h1
  exact List.mem_filter.mpr h1
set_option maxRecDepth 20000 in
theorem gu_RX3 : ∀ w ∈ u_ws RX3 TX3 7, w ∈ gW := by
  have h : (u_ws RX3 TX3 7).all (fun w => decide (w ∈ lw_tbl) && goodWord w) = true := by decide +kernel
  intro w hw
  have h1 := List.all_eq_true.mp h w hw
  simp only [Bool.and_eq_true, decide_eq_true_eq] at h1
  exact List.mem_filter.mpr h1
set_option maxRecDepth 20000 in
theorem gu_RX4 : ∀ w ∈ u_ws RX4 TX4 8, w ∈ gW := by
  have h : (u_ws RX4 TX4 8).all (fun w => decide (w ∈ lw_tbl) && goodWord w) = true := by decide +kernel
  intro w hw
  have h1 := List.all_eq_true.mp h w hw
  simp only [Bool.and_eq_true, decide_eq_true_eq] at h1
  exact List.mem_filter.mpr h1
set_option maxRecDepth 20000 in
theorem gu_RX5 : ∀ w ∈ u_ws RX5 TX5 2, w ∈ gW := by
  have h : (u_ws RX5 TX5 2).all (fun w => decide (w ∈ lw_tbl) && goodWord w) = true := by decide +kernel
  intro w hw
  have h1 := List.all_eq_true.mp h w hw
  simp only [Bool.and_eq_true, decide_eq_true_eq] at h1
  exact List.mem_filter.mpr h1
set_option maxRecDepth 20000 in
theorem gu_RX6 : ∀ w ∈ u_ws RX6 TX6 8, w ∈ gW := by
  have h : (u_ws RX6 TX6 8).all (fun w => decide (w ∈ lw_tbl) && goodWord w) = true := by decide +kernel
  intro w hw
  have h1 := List.all_eq_true.mp h w hw
  simp only [Bool.and_eq_true, decide_eq_true_eq] at h1
  exact List.mem_filter.mpr h1
set_option maxRecDepth 20000 in
theorem gu_RX7 : ∀ w ∈ u_ws RX7 TX7 38, w ∈ gW := by
  have h : (u_ws RX7 TX7 38).all (fun w => decide (w ∈ lw_tbl) && goodWord w) = true := by decide +kernel
  intro w hw
  have h1 := List.all_eq_true.mp h w hw
  simp only [Bool.and_eq_true, decide_eq_true_eq] at h1
  exact List.mem_filter.mpr h1
theorem gf_0_9 : Cond.fieldLink (ownS 0) 9 RJx4a65c (clT 0 1).2.1 (clT 0 1).2.2.1 ∈ gW := gWm (w := Cond.fieldLink (ownS 0) 9 RJx4a65c (clT 0 1).2.1 (clT 0 1).2.2.1) 116 (by decide +kernel) (by decide +kernel)
theorem gf_0_48 : Cond.fieldLink (ownS 0) 48 RJx4a65c (clT 0 2).2.1 (clT 0 2).2.2.1 ∈ gW := gWm (w := Cond.fieldLink (ownS 0) 48 RJx4a65c (clT 0 2).2.1 (clT 0 2).2.2.1) 117 (by decide +kernel) (by decide +kernel)
theorem gf_0_63 : Cond.fieldLink (ownS 0) 63 RJx4a65c (clT 0 0).2.1 (clT 0 0).2.2.1 ∈ gW := gWm (w := Cond.fieldLink (ownS 0) 63 RJx4a65c (clT 0 0).2.1 (clT 0 0).2.2.1) 119 (by decide +kernel) (by decide +kernel)
theorem gf_1_12 : Cond.fieldLink (ownS 1) 12 RX0 (clT 1 2).2.1 (clT 1 2).2.2.1 ∈ gW := gWm (w := Cond.fieldLink (ownS 1) 12 RX0 (clT 1 2).2.1 (clT 1 2).2.2.1) 810 (by decide +kernel) (by decide +kernel)
theorem gf_1_18 : Cond.fieldLink (ownS 1) 18 RX0 (clT 1 3).2.1 (clT 1 3).2.2.1 ∈ gW := gWm (w := Cond.fieldLink (ownS 1) 18 RX0 (clT 1 3).2.1 (clT 1 3).2.2.1) 813 (by decide +kernel) (by decide +kernel)
theorem gf_1_22 : Cond.fieldLink (ownS 1) 22 RX0 (clT 1 4).2.1 (clT 1 4).2.2.1 ∈ gW := gWm (w := Cond.fieldLink (ownS 1) 22 RX0 (clT 1 4).2.1 (clT 1 4).2.2.1) 814 (by decide +kernel) (by decide +kernel)
theorem gf_1_26 : Cond.fieldLink (ownS 1) 26 RX0 (clT 1 0).2.1 (clT 1 0).2.2.1 ∈ gW := gWm (w := Cond.fieldLink (ownS 1) 26 RX0 (clT 1 0).2.1 (clT 1 0).2.2.1) 804 (by decide +kernel) (by decide +kernel)
theorem gf_1_30 : Cond.fieldLink (ownS 1) 30 RX0 (clT 1 1).2.1 (clT 1 1).2.2.1 ∈ gW := gWm (w := Cond.fieldLink (ownS 1) 30 RX0 (clT 1 1).2.1 (clT 1 1).2.2.1) 807 (by decide +kernel) (by decide +kernel)
theorem gf_2_12 : Cond.fieldLink (ownS 2) 12 RX1 (clT 2 0).2.1 (clT 2 0).2.2.1 ∈ gW := gWm (w := Cond.fieldLink (ownS 2) 12 RX1 (clT 2 0).2.1 (clT 2 0).2.2.1) 136 (by decide +kernel) (by decide +kernel)
theorem gf_2_18 : Cond.fieldLink (ownS 2) 18 RX1 (clT 2 1).2.1 (clT 2 1).2.2.1 ∈ gW := gWm (w := Cond.fieldLink (ownS 2) 18 RX1 (clT 2 1).2.1 (clT 2 1).2.2.1) 137 (by decide +kernel) (by decide +kernel)
theorem gf_2_22 : Cond.fieldLink (ownS 2) 22 RX1 (clT 2 2).2.1 (clT 2 2).2.2.1 ∈ gW := gWm (w := Cond.fieldLink (ownS 2) 22 RX1 (clT 2 2).2.1 (clT 2 2).2.2.1) 138 (by decide +kernel) (by decide +kernel)
theorem gf_2_26 : Cond.fieldLink (ownS 2) 26 RX1 (clT 2 3).2.1 (clT 2 3).2.2.1 ∈ gW := gWm (w := Cond.fieldLink (ownS 2) 26 RX1 (clT 2 3).2.1 (clT 2 3).2.2.1) 140 (by decide +kernel) (by decide +kernel)
theorem gf_2_30 : Cond.fieldLink (ownS 2) 30 RX1 (clT 2 4).2.1 (clT 2 4).2.2.1 ∈ gW := gWm (w := Cond.fieldLink (ownS 2) 30 RX1 (clT 2 4).2.1 (clT 2 4).2.2.1) 142 (by decide +kernel) (by decide +kernel)
theorem gf_2_33 : Cond.fieldLink (ownS 2) 33 RX1 (clT 2 5).2.1 (clT 2 5).2.2.1 ∈ gW := gWm (w := Cond.fieldLink (ownS 2) 33 RX1 (clT 2 5).2.1 (clT 2 5).2.2.1) 144 (by decide +kernel) (by decide +kernel)
theorem gf_3_7 : Cond.fieldLink (ownS 3) 7 RX2 (clT 3 0).2.1 (clT 3 0).2.2.1 ∈ gW := gWm (w := Cond.fieldLink (ownS 3) 7 RX2 (clT 3 0).2.1 (clT 3 0).2.2.1) 190 (by decide +kernel) (by decide +kernel)
theorem gf_3_13 : Cond.fieldLink (ownS 3) 13 RX2 (clT 3 1).2.1 (clT 3 1).2.2.1 ∈ gW := gWm (w := Cond.fieldLink (ownS 3) 13 RX2 (clT 3 1).2.1 (clT 3 1).2.2.1) 192 (by decide +kernel) (by decide +kernel)
theorem gf_3_16 : Cond.fieldLink (ownS 3) 16 RX2 (clT 3 2).2.1 (clT 3 2).2.2.1 ∈ gW := gWm (w := Cond.fieldLink (ownS 3) 16 RX2 (clT 3 2).2.1 (clT 3 2).2.2.1) 194 (by decide +kernel) (by decide +kernel)
theorem gf_3_19 : Cond.fieldLink (ownS 3) 19 RX2 (clT 3 3).2.1 (clT 3 3).2.2.1 ∈ gW := gWm (w := Cond.fieldLink (ownS 3) 19 RX2 (clT 3 3).2.1 (clT 3 3).2.2.1) 196 (by decide +kernel) (by decide +kernel)
theorem gf_3_22 : Cond.fieldLink (ownS 3) 22 RX2 (clT 3 4).2.1 (clT 3 4).2.2.1 ∈ gW := gWm (w := Cond.fieldLink (ownS 3) 22 RX2 (clT 3 4).2.1 (clT 3 4).2.2.1) 198 (by decide +kernel) (by decide +kernel)
theorem gf_4_12 : Cond.fieldLink (ownS 4) 12 RX3 (clT 4 0).2.1 (clT 4 0).2.2.1 ∈ gW := gWm (w := Cond.fieldLink (ownS 4) 12 RX3 (clT 4 0).2.1 (clT 4 0).2.2.1) 211 (by decide +kernel) (by decide +kernel)
theorem gf_4_18 : Cond.fieldLink (ownS 4) 18 RX3 (clT 4 1).2.1 (clT 4 1).2.2.1 ∈ gW := gWm (w := Cond.fieldLink (ownS 4) 18 RX3 (clT 4 1).2.1 (clT 4 1).2.2.1) 212 (by decide +kernel) (by decide +kernel)
theorem gf_4_22 : Cond.fieldLink (ownS 4) 22 RX3 (clT 4 2).2.1 (clT 4 2).2.2.1 ∈ gW := gWm (w := Cond.fieldLink (ownS 4) 22 RX3 (clT 4 2).2.1 (clT 4 2).2.2.1) 213 (by decide +kernel) (by decide +kernel)
theorem gf_4_25 : Cond.fieldLink (ownS 4) 25 RX3 (clT 4 3).2.1 (clT 4 3).2.2.1 ∈ gW := gWm (w := Cond.fieldLink (ownS 4) 25 RX3 (clT 4 3).2.1 (clT 4 3).2.2.1) 214 (by decide +kernel) (by decide +kernel)
theorem gf_4_32 : Cond.fieldLink (ownS 4) 32 RX3 (clT 4 4).2.1 (clT 4 4).2.2.1 ∈ gW := gWm (w := Cond.fieldLink (ownS 4) 32 RX3 (clT 4 4).2.1 (clT 4 4).2.2.1) 215 (by decide +kernel) (by decide +kernel)
theorem gf_4_39 : Cond.fieldLink (ownS 4) 39 RX3 (clT 4 5).2.1 (clT 4 5).2.2.1 ∈ gW := gWm (w := Cond.fieldLink (ownS 4) 39 RX3 (clT 4 5).2.1 (clT 4 5).2.2.1) 216 (by decide +kernel) (by decide +kernel)
theorem gf_4_43 : Cond.fieldLink (ownS 4) 43 RX3 (clT 4 6).2.1 (clT 4 6).2.2.1 ∈ gW := gWm (w := Cond.fieldLink (ownS 4) 43 RX3 (clT 4 6).2.1 (clT 4 6).2.2.1) 217 (by decide +kernel) (by decide +kernel)
theorem gf_5_12 : Cond.fieldLink (ownS 5) 12 RX4 (clT 5 1).2.1 (clT 5 1).2.2.1 ∈ gW := gWm (w := Cond.fieldLink (ownS 5) 12 RX4 (clT 5 1).2.1 (clT 5 1).2.2.1) 323 (by decide +kernel) (by decide +kernel)
theorem gf_5_21 : Cond.fieldLink (ownS 5) 21 RX4 (clT 5 2).2.1 (clT 5 2).2.2.1 ∈ gW := gWm (w := Cond.fieldLink (ownS 5) 21 RX4 (clT 5 2).2.1 (clT 5 2).2.2.1) 324 (by decide +kernel) (by decide +kernel)
theorem gf_5_25 : Cond.fieldLink (ownS 5) 25 RX4 (clT 5 3).2.1 (clT 5 3).2.2.1 ∈ gW := gWm (w := Cond.fieldLink (ownS 5) 25 RX4 (clT 5 3).2.1 (clT 5 3).2.2.1) 326 (by decide +kernel) (by decide +kernel)
theorem gf_5_28 : Cond.fieldLink (ownS 5) 28 RX4 (clT 5 4).2.1 (clT 5 4).2.2.1 ∈ gW := gWm (w := Cond.fieldLink (ownS 5) 28 RX4 (clT 5 4).2.1 (clT 5 4).2.2.1) 327 (by decide +kernel) (by decide +kernel)
theorem gf_5_31 : Cond.fieldLink (ownS 5) 31 RX4 (clT 5 5).2.1 (clT 5 5).2.2.1 ∈ gW := gWm (w := Cond.fieldLink (ownS 5) 31 RX4 (clT 5 5).2.1 (clT 5 5).2.2.1) 328 (by decide +kernel) (by decide +kernel)
theorem gf_5_34 : Cond.fieldLink (ownS 5) 34 RX4 (clT 5 6).2.1 (clT 5 6).2.2.1 ∈ gW := gWm (w := Cond.fieldLink (ownS 5) 34 RX4 (clT 5 6).2.1 (clT 5 6).2.2.1) 330 (by decide +kernel) (by decide +kernel)
theorem gf_5_38 : Cond.fieldLink (ownS 5) 38 RX4 (clT 5 7).2.1 (clT 5 7).2.2.1 ∈ gW := gWm (w := Cond.fieldLink (ownS 5) 38 RX4 (clT 5 7).2.1 (clT 5 7).2.2.1) 333 (by decide +kernel) (by decide +kernel)
theorem gf_5_41 : Cond.fieldLink (ownS 5) 41 RX4 (clT 5 0).2.1 (clT 5 0).2.2.1 ∈ gW := gWm (w := Cond.fieldLink (ownS 5) 41 RX4 (clT 5 0).2.1 (clT 5 0).2.2.1) 320 (by decide +kernel) (by decide +kernel)
theorem gf_6_9 : Cond.fieldLink (ownS 6) 9 RX5 (clT 6 0).2.1 (clT 6 0).2.2.1 ∈ gW := gWm (w := Cond.fieldLink (ownS 6) 9 RX5 (clT 6 0).2.1 (clT 6 0).2.2.1) 166 (by decide +kernel) (by decide +kernel)
theorem gf_6_13 : Cond.fieldLink (ownS 6) 13 RX5 (clT 6 1).2.1 (clT 6 1).2.2.1 ∈ gW := gWm (w := Cond.fieldLink (ownS 6) 13 RX5 (clT 6 1).2.1 (clT 6 1).2.2.1) 167 (by decide +kernel) (by decide +kernel)
theorem gf_7_12 : Cond.fieldLink (ownS 7) 12 RX6 (clT 7 0).2.1 (clT 7 0).2.2.1 ∈ gW := gWm (w := Cond.fieldLink (ownS 7) 12 RX6 (clT 7 0).2.1 (clT 7 0).2.2.1) 233 (by decide +kernel) (by decide +kernel)
theorem gf_7_16 : Cond.fieldLink (ownS 7) 16 RX6 (clT 7 1).2.1 (clT 7 1).2.2.1 ∈ gW := gWm (w := Cond.fieldLink (ownS 7) 16 RX6 (clT 7 1).2.1 (clT 7 1).2.2.1) 234 (by decide +kernel) (by decide +kernel)
theorem gf_7_19 : Cond.fieldLink (ownS 7) 19 RX6 (clT 7 2).2.1 (clT 7 2).2.2.1 ∈ gW := gWm (w := Cond.fieldLink (ownS 7) 19 RX6 (clT 7 2).2.1 (clT 7 2).2.2.1) 235 (by decide +kernel) (by decide +kernel)
theorem gf_7_23 : Cond.fieldLink (ownS 7) 23 RX6 (clT 7 3).2.1 (clT 7 3).2.2.1 ∈ gW := gWm (w := Cond.fieldLink (ownS 7) 23 RX6 (clT 7 3).2.1 (clT 7 3).2.2.1) 236 (by decide +kernel) (by decide +kernel)
theorem gf_7_29 : Cond.fieldLink (ownS 7) 29 RX6 (clT 7 4).2.1 (clT 7 4).2.2.1 ∈ gW := gWm (w := Cond.fieldLink (ownS 7) 29 RX6 (clT 7 4).2.1 (clT 7 4).2.2.1) 237 (by decide +kernel) (by decide +kernel)
theorem gf_7_36 : Cond.fieldLink (ownS 7) 36 RX6 (clT 7 5).2.1 (clT 7 5).2.2.1 ∈ gW := gWm (w := Cond.fieldLink (ownS 7) 36 RX6 (clT 7 5).2.1 (clT 7 5).2.2.1) 238 (by decide +kernel) (by decide +kernel)
theorem gf_7_43 : Cond.fieldLink (ownS 7) 43 RX6 (clT 7 6).2.1 (clT 7 6).2.2.1 ∈ gW := gWm (w := Cond.fieldLink (ownS 7) 43 RX6 (clT 7 6).2.1 (clT 7 6).2.2.1) 239 (by decide +kernel) (by decide +kernel)
theorem gf_7_47 : Cond.fieldLink (ownS 7) 47 RX6 (clT 7 7).2.1 (clT 7 7).2.2.1 ∈ gW := gWm (w := Cond.fieldLink (ownS 7) 47 RX6 (clT 7 7).2.1 (clT 7 7).2.2.1) 240 (by decide +kernel) (by decide +kernel)
theorem gf_8_7 : Cond.fieldLink (ownS 8) 7 RX7 (clT 8 2).2.1 (clT 8 2).2.2.1 ∈ gW := gWm (w := Cond.fieldLink (ownS 8) 7 RX7 (clT 8 2).2.1 (clT 8 2).2.2.1) 1021 (by decide +kernel) (by decide +kernel)
theorem gf_8_13 : Cond.fieldLink (ownS 8) 13 RX7 (clT 8 3).2.1 (clT 8 3).2.2.1 ∈ gW := gWm (w := Cond.fieldLink (ownS 8) 13 RX7 (clT 8 3).2.1 (clT 8 3).2.2.1) 1022 (by decide +kernel) (by decide +kernel)
theorem gf_8_16 : Cond.fieldLink (ownS 8) 16 RX7 (clT 8 4).2.1 (clT 8 4).2.2.1 ∈ gW := gWm (w := Cond.fieldLink (ownS 8) 16 RX7 (clT 8 4).2.1 (clT 8 4).2.2.1) 1023 (by decide +kernel) (by decide +kernel)
theorem gf_8_19 : Cond.fieldLink (ownS 8) 19 RX7 (clT 8 5).2.1 (clT 8 5).2.2.1 ∈ gW := gWm (w := Cond.fieldLink (ownS 8) 19 RX7 (clT 8 5).2.1 (clT 8 5).2.2.1) 1024 (by decide +kernel) (by decide +kernel)
theorem gf_8_22 : Cond.fieldLink (ownS 8) 22 RX7 (clT 8 6).2.1 (clT 8 6).2.2.1 ∈ gW := gWm (w := Cond.fieldLink (ownS 8) 22 RX7 (clT 8 6).2.1 (clT 8 6).2.2.1) 1025 (by decide +kernel) (by decide +kernel)
theorem gf_8_25 : Cond.fieldLink (ownS 8) 25 RX7 (clT 8 7).2.1 (clT 8 7).2.2.1 ∈ gW := gWm (w := Cond.fieldLink (ownS 8) 25 RX7 (clT 8 7).2.1 (clT 8 7).2.2.1) 1026 (by decide +kernel) (by decide +kernel)
theorem gf_8_28 : Cond.fieldLink (ownS 8) 28 RX7 (clT 8 10).2.1 (clT 8 10).2.2.1 ∈ gW := gWm (w := Cond.fieldLink (ownS 8) 28 RX7 (clT 8 10).2.1 (clT 8 10).2.2.1) 1029 (by decide +kernel) (by decide +kernel)
theorem gf_8_31 : Cond.fieldLink (ownS 8) 31 RX7 (clT 8 13).2.1 (clT 8 13).2.2.1 ∈ gW := gWm (w := Cond.fieldLink (ownS 8) 31 RX7 (clT 8 13).2.1 (clT 8 13).2.2.1) 1032 (by decide +kernel) (by decide +kernel)
theorem gf_8_34 : Cond.fieldLink (ownS 8) 34 RX7 (clT 8 14).2.1 (clT 8 14).2.2.1 ∈ gW := gWm (w := Cond.fieldLink (ownS 8) 34 RX7 (clT 8 14).2.1 (clT 8 14).2.2.1) 1033 (by decide +kernel) (by decide +kernel)
theorem gf_8_37 : Cond.fieldLink (ownS 8) 37 RX7 (clT 8 15).2.1 (clT 8 15).2.2.1 ∈ gW := gWm (w := Cond.fieldLink (ownS 8) 37 RX7 (clT 8 15).2.1 (clT 8 15).2.2.1) 1034 (by decide +kernel) (by decide +kernel)
theorem gf_8_40 : Cond.fieldLink (ownS 8) 40 RX7 (clT 8 16).2.1 (clT 8 16).2.2.1 ∈ gW := gWm (w := Cond.fieldLink (ownS 8) 40 RX7 (clT 8 16).2.1 (clT 8 16).2.2.1) 1035 (by decide +kernel) (by decide +kernel)
theorem gf_8_43 : Cond.fieldLink (ownS 8) 43 RX7 (clT 8 17).2.1 (clT 8 17).2.2.1 ∈ gW := gWm (w := Cond.fieldLink (ownS 8) 43 RX7 (clT 8 17).2.1 (clT 8 17).2.2.1) 1036 (by decide +kernel) (by decide +kernel)
theorem gf_8_46 : Cond.fieldLink (ownS 8) 46 RX7 (clT 8 18).2.1 (clT 8 18).2.2.1 ∈ gW := gWm (w := Cond.fieldLink (ownS 8) 46 RX7 (clT 8 18).2.1 (clT 8 18).2.2.1) 1037 (by decide +kernel) (by decide +kernel)
theorem gf_8_49 : Cond.fieldLink (ownS 8) 49 RX7 (clT 8 19).2.1 (clT 8 19).2.2.1 ∈ gW := gWm (w := Cond.fieldLink (ownS 8) 49 RX7 (clT 8 19).2.1 (clT 8 19).2.2.1) 1038 (by decide +kernel) (by decide +kernel)
theorem gf_8_52 : Cond.fieldLink (ownS 8) 52 RX7 (clT 8 20).2.1 (clT 8 20).2.2.1 ∈ gW := gWm (w := Cond.fieldLink (ownS 8) 52 RX7 (clT 8 20).2.1 (clT 8 20).2.2.1) 1039 (by decide +kernel) (by decide +kernel)
theorem gf_8_55 : Cond.fieldLink (ownS 8) 55 RX7 (clT 8 22).2.1 (clT 8 22).2.2.1 ∈ gW := gWm (w := Cond.fieldLink (ownS 8) 55 RX7 (clT 8 22).2.1 (clT 8 22).2.2.1) 1041 (by decide +kernel) (by decide +kernel)
theorem gf_8_58 : Cond.fieldLink (ownS 8) 58 RX7 (clT 8 26).2.1 (clT 8 26).2.2.1 ∈ gW := gWm (w := Cond.fieldLink (ownS 8) 58 RX7 (clT 8 26).2.1 (clT 8 26).2.2.1) 1045 (by decide +kernel) (by decide +kernel)
theorem gf_8_61 : Cond.fieldLink (ownS 8) 61 RX7 (clT 8 27).2.1 (clT 8 27).2.2.1 ∈ gW := gWm (w := Cond.fieldLink (ownS 8) 61 RX7 (clT 8 27).2.1 (clT 8 27).2.2.1) 1046 (by decide +kernel) (by decide +kernel)
theorem gf_8_64 : Cond.fieldLink (ownS 8) 64 RX7 (clT 8 28).2.1 (clT 8 28).2.2.1 ∈ gW := gWm (w := Cond.fieldLink (ownS 8) 64 RX7 (clT 8 28).2.1 (clT 8 28).2.2.1) 1047 (by decide +kernel) (by decide +kernel)
theorem gf_8_67 : Cond.fieldLink (ownS 8) 67 RX7 (clT 8 29).2.1 (clT 8 29).2.2.1 ∈ gW := gWm (w := Cond.fieldLink (ownS 8) 67 RX7 (clT 8 29).2.1 (clT 8 29).2.2.1) 1048 (by decide +kernel) (by decide +kernel)
theorem gf_8_70 : Cond.fieldLink (ownS 8) 70 RX7 (clT 8 30).2.1 (clT 8 30).2.2.1 ∈ gW := gWm (w := Cond.fieldLink (ownS 8) 70 RX7 (clT 8 30).2.1 (clT 8 30).2.2.1) 1049 (by decide +kernel) (by decide +kernel)
theorem gf_8_73 : Cond.fieldLink (ownS 8) 73 RX7 (clT 8 31).2.1 (clT 8 31).2.2.1 ∈ gW := gWm (w := Cond.fieldLink (ownS 8) 73 RX7 (clT 8 31).2.1 (clT 8 31).2.2.1) 1050 (by decide +kernel) (by decide +kernel)
theorem gf_8_76 : Cond.fieldLink (ownS 8) 76 RX7 (clT 8 33).2.1 (clT 8 33).2.2.1 ∈ gW := gWm (w := Cond.fieldLink (ownS 8) 76 RX7 (clT 8 33).2.1 (clT 8 33).2.2.1) 1052 (by decide +kernel) (by decide +kernel)
theorem gf_8_79 : Cond.fieldLink (ownS 8) 79 RX7 (clT 8 34).2.1 (clT 8 34).2.2.1 ∈ gW := gWm (w := Cond.fieldLink (ownS 8) 79 RX7 (clT 8 34).2.1 (clT 8 34).2.2.1) 1053 (by decide +kernel) (by decide +kernel)
theorem gf_8_82 : Cond.fieldLink (ownS 8) 82 RX7 (clT 8 36).2.1 (clT 8 36).2.2.1 ∈ gW := gWm (w := Cond.fieldLink (ownS 8) 82 RX7 (clT 8 36).2.1 (clT 8 36).2.2.1) 1055 (by decide +kernel) (by decide +kernel)
theorem gf_8_85 : Cond.fieldLink (ownS 8) 85 RX7 (clT 8 0).2.1 (clT 8 0).2.2.1 ∈ gW := gWm (w := Cond.fieldLink (ownS 8) 85 RX7 (clT 8 0).2.1 (clT 8 0).2.2.1) 1019 (by decide +kernel) (by decide +kernel)
theorem gf_8_89 : Cond.fieldLink (ownS 8) 89 RX7 (clT 8 1).2.1 (clT 8 1).2.2.1 ∈ gW := gWm (w := Cond.fieldLink (ownS 8) 89 RX7 (clT 8 1).2.1 (clT 8 1).2.2.1) 1020 (by decide +kernel) (by decide +kernel)
theorem gf_8_107 : Cond.fieldLink (ownS 8) 107 RX7 (clT 8 8).2.1 (clT 8 8).2.2.1 ∈ gW := gWm (w := Cond.fieldLink (ownS 8) 107 RX7 (clT 8 8).2.1 (clT 8 8).2.2.1) 1027 (by decide +kernel) (by decide +kernel)
theorem gf_8_110 : Cond.fieldLink (ownS 8) 110 RX7 (clT 8 9).2.1 (clT 8 9).2.2.1 ∈ gW := gWm (w := Cond.fieldLink (ownS 8) 110 RX7 (clT 8 9).2.1 (clT 8 9).2.2.1) 1028 (by decide +kernel) (by decide +kernel)
theorem gf_8_113 : Cond.fieldLink (ownS 8) 113 RX7 (clT 8 11).2.1 (clT 8 11).2.2.1 ∈ gW := gWm (w := Cond.fieldLink (ownS 8) 113 RX7 (clT 8 11).2.1 (clT 8 11).2.2.1) 1030 (by decide +kernel) (by decide +kernel)
theorem gf_8_116 : Cond.fieldLink (ownS 8) 116 RX7 (clT 8 12).2.1 (clT 8 12).2.2.1 ∈ gW := gWm (w := Cond.fieldLink (ownS 8) 116 RX7 (clT 8 12).2.1 (clT 8 12).2.2.1) 1031 (by decide +kernel) (by decide +kernel)
theorem gf_8_136 : Cond.fieldLink (ownS 8) 136 RX7 (clT 8 21).2.1 (clT 8 21).2.2.1 ∈ gW := gWm (w := Cond.fieldLink (ownS 8) 136 RX7 (clT 8 21).2.1 (clT 8 21).2.2.1) 1040 (by decide +kernel) (by decide +kernel)
theorem gf_8_153 : Cond.fieldLink (ownS 8) 153 RX7 (clT 8 23).2.1 (clT 8 23).2.2.1 ∈ gW := gWm (w := Cond.fieldLink (ownS 8) 153 RX7 (clT 8 23).2.1 (clT 8 23).2.2.1) 1042 (by decide +kernel) (by decide +kernel)
theorem gf_8_183 : Cond.fieldLink (ownS 8) 183 RX7 (clT 8 25).2.1 (clT 8 25).2.2.1 ∈ gW := gWm (w := Cond.fieldLink (ownS 8) 183 RX7 (clT 8 25).2.1 (clT 8 25).2.2.1) 1044 (by decide +kernel) (by decide +kernel)
theorem gf_8_223 : Cond.fieldLink (ownS 8) 223 RX7 (clT 8 37).2.1 (clT 8 37).2.2.1 ∈ gW := gWm (w := Cond.fieldLink (ownS 8) 223 RX7 (clT 8 37).2.1 (clT 8 37).2.2.1) 1056 (by decide +kernel) (by decide +kernel)
theorem gf_8_250 : Cond.fieldLink (ownS 8) 250 RX7 (clT 8 32).2.1 (clT 8 32).2.2.1 ∈ gW := gWm (w := Cond.fieldLink (ownS 8) 250 RX7 (clT 8 32).2.1 (clT 8 32).2.2.1) 1051 (by decide +kernel) (by decide +kernel)
theorem gf_8_271 : Cond.fieldLink (ownS 8) 271 RX7 (clT 8 24).2.1 (clT 8 24).2.2.1 ∈ gW := gWm (w := Cond.fieldLink (ownS 8) 271 RX7 (clT 8 24).2.1 (clT 8 24).2.2.1) 1043 (by decide +kernel) (by decide +kernel)
theorem gf_8_282 : Cond.fieldLink (ownS 8) 282 RX7 (clT 8 35).2.1 (clT 8 35).2.2.1 ∈ gW := gWm (w := Cond.fieldLink (ownS 8) 282 RX7 (clT 8 35).2.1 (clT 8 35).2.2.1) 1054 (by decide +kernel) (by decide +kernel)
theorem gf_13_7 : Cond.fieldLink (ownS 13) 7 RJxc12de (clT 0 0).2.1 (clT 0 0).2.2.1 ∈ gW := gWm (w := Cond.fieldLink (ownS 13) 7 RJxc12de (clT 0 0).2.1 (clT 0 0).2.2.1) 118 (by decide +kernel) (by decide +kernel)
/-- fields of nest mates -/
def nF : List (String × Nat × String × String × String) := [(RX1, 42, RX4, "entry", "LCiteLists$Entry;"), (RX1, 64, RX4, "order", "LCiteLists$Text;"), (RX1, 89, RX4, "suffix", "I"), (RX1, 92, RX4, "base", "LCiteLists$Text;"), (RX1, 109, RX0, "kind", "I"), (RX1, 118, RX0, "number", "I"), (RX3, 90, RX2, "particleFrom", "I"), (RX3, 93, RX2, "familyFrom", "I"), (RX3, 96, RX2, "familyTo", "I"), (RX3, 99, RX2, "givenFrom", "I"), (RX3, 102, RX2, "givenTo", "I"), (RX4, 96, RX0, "key", "LCiteLists$Text;"), (RX4, 154, RX0, "kind", "I"), (RX6, 74, RX0, "key", "LCiteLists$Text;"), (RX6, 96, RX0, "crossed", "LCiteLists$Entry;"), (RX6, 145, RX4, "entry", "LCiteLists$Entry;"), (RX6, 148, RX0, "number", "I"), (RX6, 151, RX4, "suffix", "I"), (RX6, 176, RX1, "missingCount", "I"), (RX6, 181, RX1, "missingEntries", "[I"), (RX6, 185, RX1, "missingFields", "[I"), (RX6, 191, RX4, "text", "LCiteLists$Text;"), (RX6, 214, RX1, "begun", "Z")]
theorem fR_ok : ∀ o i c j, fR o i = some (c, j) → c ≤ 8 → j < fN c ∧ ∃ ref : String, (ref = (clT c j).1 ∨ (c = 0 ∧ j = 0 ∧ ref = RJx4a65c)) ∧ (Cond.fieldLink (ownS o) i ref (clT c j).2.1 (clT c j).2.2.1 ∈ gW ∨ (ownS o, i, ref, (clT c j).2.1, (clT c j).2.2.1) ∈ nF) := by
  intro o i c j h hc
  unfold fR at h
  split at h
  · cases h; exact ⟨by decide, RJx4a65c, Or.inl rfl, Or.inl gf_0_9⟩
  · cases h; exact ⟨by decide, RJx4a65c, Or.inl rfl, Or.inl gf_0_48⟩
  · cases h; exact ⟨by decide, RJx4a65c, Or.inr ⟨rfl, rfl, rfl⟩, Or.inl gf_0_63⟩
  · cases h; exact ⟨by decide, RX0, Or.inl rfl, Or.inl gf_1_12⟩
  · cases h; exact ⟨by decide, RX0, Or.inl rfl, Or.inl gf_1_18⟩
  · cases h; exact ⟨by decide, RX0, Or.inl rfl, Or.inl gf_1_22⟩
  · cases h; exact ⟨by decide, RX0, Or.inl rfl, Or.inl gf_1_26⟩
  · cases h; exact ⟨by decide, RX0, Or.inl rfl, Or.inl gf_1_30⟩
  · cases h; exact ⟨by decide, RX1, Or.inl rfl, Or.inl gf_2_12⟩
  · cases h; exact ⟨by decide, RX1, Or.inl rfl, Or.inl gf_2_18⟩
  · cases h; exact ⟨by decide, RX1, Or.inl rfl, Or.inl gf_2_22⟩
  · cases h; exact ⟨by decide, RX1, Or.inl rfl, Or.inl gf_2_26⟩
  · cases h; exact ⟨by decide, RX1, Or.inl rfl, Or.inl gf_2_30⟩
  · cases h; exact ⟨by decide, RX1, Or.inl rfl, Or.inl gf_2_33⟩
  · cases h; exact ⟨by decide, RX4, Or.inl rfl, Or.inr (by decide +kernel)⟩
  · cases h; exact ⟨by decide, RX4, Or.inl rfl, Or.inr (by decide +kernel)⟩
  · cases h; exact ⟨by decide, RX4, Or.inl rfl, Or.inr (by decide +kernel)⟩
  · cases h; exact ⟨by decide, RX4, Or.inl rfl, Or.inr (by decide +kernel)⟩
  · cases h; exact ⟨by decide, RX0, Or.inl rfl, Or.inr (by decide +kernel)⟩
  · cases h; exact ⟨by decide, RX0, Or.inl rfl, Or.inr (by decide +kernel)⟩
  · cases h; exact ⟨by decide, RX2, Or.inl rfl, Or.inl gf_3_7⟩
  · cases h; exact ⟨by decide, RX2, Or.inl rfl, Or.inl gf_3_13⟩
  · cases h; exact ⟨by decide, RX2, Or.inl rfl, Or.inl gf_3_16⟩
  · cases h; exact ⟨by decide, RX2, Or.inl rfl, Or.inl gf_3_19⟩
  · cases h; exact ⟨by decide, RX2, Or.inl rfl, Or.inl gf_3_22⟩
  · cases h; exact ⟨by decide, RX3, Or.inl rfl, Or.inl gf_4_12⟩
  · cases h; exact ⟨by decide, RX3, Or.inl rfl, Or.inl gf_4_18⟩
  · cases h; exact ⟨by decide, RX3, Or.inl rfl, Or.inl gf_4_22⟩
  · cases h; exact ⟨by decide, RX3, Or.inl rfl, Or.inl gf_4_25⟩
  · cases h; exact ⟨by decide, RX3, Or.inl rfl, Or.inl gf_4_32⟩
  · cases h; exact ⟨by decide, RX3, Or.inl rfl, Or.inl gf_4_39⟩
  · cases h; exact ⟨by decide, RX3, Or.inl rfl, Or.inl gf_4_43⟩
  · cases h; exact ⟨by decide, RX2, Or.inl rfl, Or.inr (by decide +kernel)⟩
  · cases h; exact ⟨by decide, RX2, Or.inl rfl, Or.inr (by decide +kernel)⟩
  · cases h; exact ⟨by decide, RX2, Or.inl rfl, Or.inr (by decide +kernel)⟩
  · cases h; exact ⟨by decide, RX2, Or.inl rfl, Or.inr (by decide +kernel)⟩
  · cases h; exact ⟨by decide, RX2, Or.inl rfl, Or.inr (by decide +kernel)⟩
  · cases h; exact ⟨by decide, RX4, Or.inl rfl, Or.inl gf_5_12⟩
  · cases h; exact ⟨by decide, RX4, Or.inl rfl, Or.inl gf_5_21⟩
  · cases h; exact ⟨by decide, RX4, Or.inl rfl, Or.inl gf_5_25⟩
  · cases h; exact ⟨by decide, RX4, Or.inl rfl, Or.inl gf_5_28⟩
  · cases h; exact ⟨by decide, RX4, Or.inl rfl, Or.inl gf_5_31⟩
  · cases h; exact ⟨by decide, RX4, Or.inl rfl, Or.inl gf_5_34⟩
  · cases h; exact ⟨by decide, RX4, Or.inl rfl, Or.inl gf_5_38⟩
  · cases h; exact ⟨by decide, RX4, Or.inl rfl, Or.inl gf_5_41⟩
  · cases h; exact ⟨by decide, RX0, Or.inl rfl, Or.inr (by decide +kernel)⟩
  · cases h; exact ⟨by decide, RX0, Or.inl rfl, Or.inr (by decide +kernel)⟩
  · cases h; exact ⟨by decide, RX5, Or.inl rfl, Or.inl gf_6_9⟩
  · cases h; exact ⟨by decide, RX5, Or.inl rfl, Or.inl gf_6_13⟩
  · cases h; exact ⟨by decide, RX6, Or.inl rfl, Or.inl gf_7_12⟩
  · cases h; exact ⟨by decide, RX6, Or.inl rfl, Or.inl gf_7_16⟩
  · cases h; exact ⟨by decide, RX6, Or.inl rfl, Or.inl gf_7_19⟩
  · cases h; exact ⟨by decide, RX6, Or.inl rfl, Or.inl gf_7_23⟩
  · cases h; exact ⟨by decide, RX6, Or.inl rfl, Or.inl gf_7_29⟩
  · cases h; exact ⟨by decide, RX6, Or.inl rfl, Or.inl gf_7_36⟩
  · cases h; exact ⟨by decide, RX6, Or.inl rfl, Or.inl gf_7_43⟩
  · cases h; exact ⟨by decide, RX6, Or.inl rfl, Or.inl gf_7_47⟩
  · cases h; exact ⟨by decide, RX0, Or.inl rfl, Or.inr (by decide +kernel)⟩
  · cases h; exact ⟨by decide, RX0, Or.inl rfl, Or.inr (by decide +kernel)⟩
  · cases h; exact ⟨by decide, RX4, Or.inl rfl, Or.inr (by decide +kernel)⟩
  · cases h; exact ⟨by decide, RX0, Or.inl rfl, Or.inr (by decide +kernel)⟩
  · cases h; exact ⟨by decide, RX4, Or.inl rfl, Or.inr (by decide +kernel)⟩
  · cases h; exact ⟨by decide, RX1, Or.inl rfl, Or.inr (by decide +kernel)⟩
  · cases h; exact ⟨by decide, RX1, Or.inl rfl, Or.inr (by decide +kernel)⟩
  · cases h; exact ⟨by decide, RX1, Or.inl rfl, Or.inr (by decide +kernel)⟩
  · cases h; exact ⟨by decide, RX4, Or.inl rfl, Or.inr (by decide +kernel)⟩
  · cases h; exact ⟨by decide, RX1, Or.inl rfl, Or.inr (by decide +kernel)⟩
  · cases h; exact ⟨by decide, RX7, Or.inl rfl, Or.inl gf_8_7⟩
  · cases h; exact ⟨by decide, RX7, Or.inl rfl, Or.inl gf_8_13⟩
  · cases h; exact ⟨by decide, RX7, Or.inl rfl, Or.inl gf_8_16⟩
  · cases h; exact ⟨by decide, RX7, Or.inl rfl, Or.inl gf_8_19⟩
  · cases h; exact ⟨by decide, RX7, Or.inl rfl, Or.inl gf_8_22⟩
  · cases h; exact ⟨by decide, RX7, Or.inl rfl, Or.inl gf_8_25⟩
  · cases h; exact ⟨by decide, RX7, Or.inl rfl, Or.inl gf_8_28⟩
  · cases h; exact ⟨by decide, RX7, Or.inl rfl, Or.inl gf_8_31⟩
  · cases h; exact ⟨by decide, RX7, Or.inl rfl, Or.inl gf_8_34⟩
  · cases h; exact ⟨by decide, RX7, Or.inl rfl, Or.inl gf_8_37⟩
  · cases h; exact ⟨by decide, RX7, Or.inl rfl, Or.inl gf_8_40⟩
  · cases h; exact ⟨by decide, RX7, Or.inl rfl, Or.inl gf_8_43⟩
  · cases h; exact ⟨by decide, RX7, Or.inl rfl, Or.inl gf_8_46⟩
  · cases h; exact ⟨by decide, RX7, Or.inl rfl, Or.inl gf_8_49⟩
  · cases h; exact ⟨by decide, RX7, Or.inl rfl, Or.inl gf_8_52⟩
  · cases h; exact ⟨by decide, RX7, Or.inl rfl, Or.inl gf_8_55⟩
  · cases h; exact ⟨by decide, RX7, Or.inl rfl, Or.inl gf_8_58⟩
  · cases h; exact ⟨by decide, RX7, Or.inl rfl, Or.inl gf_8_61⟩
  · cases h; exact ⟨by decide, RX7, Or.inl rfl, Or.inl gf_8_64⟩
  · cases h; exact ⟨by decide, RX7, Or.inl rfl, Or.inl gf_8_67⟩
  · cases h; exact ⟨by decide, RX7, Or.inl rfl, Or.inl gf_8_70⟩
  · cases h; exact ⟨by decide, RX7, Or.inl rfl, Or.inl gf_8_73⟩
  · cases h; exact ⟨by decide, RX7, Or.inl rfl, Or.inl gf_8_76⟩
  · cases h; exact ⟨by decide, RX7, Or.inl rfl, Or.inl gf_8_79⟩
  · cases h; exact ⟨by decide, RX7, Or.inl rfl, Or.inl gf_8_82⟩
  · cases h; exact ⟨by decide, RX7, Or.inl rfl, Or.inl gf_8_85⟩
  · cases h; exact ⟨by decide, RX7, Or.inl rfl, Or.inl gf_8_89⟩
  · cases h; exact ⟨by decide, RX7, Or.inl rfl, Or.inl gf_8_107⟩
  · cases h; exact ⟨by decide, RX7, Or.inl rfl, Or.inl gf_8_110⟩
  · cases h; exact ⟨by decide, RX7, Or.inl rfl, Or.inl gf_8_113⟩
  · cases h; exact ⟨by decide, RX7, Or.inl rfl, Or.inl gf_8_116⟩
  · cases h; exact ⟨by decide, RX7, Or.inl rfl, Or.inl gf_8_136⟩
  · cases h; exact ⟨by decide, RX7, Or.inl rfl, Or.inl gf_8_153⟩
  · cases h; exact ⟨by decide, RX7, Or.inl rfl, Or.inl gf_8_183⟩
  · cases h; exact ⟨by decide, RX7, Or.inl rfl, Or.inl gf_8_223⟩
  · cases h; exact ⟨by decide, RX7, Or.inl rfl, Or.inl gf_8_250⟩
  · cases h; exact ⟨by decide, RX7, Or.inl rfl, Or.inl gf_8_271⟩
  · cases h; exact ⟨by decide, RX7, Or.inl rfl, Or.inl gf_8_282⟩
  · cases h; exact absurd hc (by decide)
  · cases h; exact absurd hc (by decide)
  · cases h; exact ⟨by decide, RJxc12de, Or.inl rfl, Or.inl gf_13_7⟩
  · cases h
theorem gk_0_7 : Cond.classLink (ownS 0) 7 "java/lang/Object" ∈ gW := gWm (w := Cond.classLink (ownS 0) 7 "java/lang/Object") 409 (by decide +kernel) (by decide +kernel)
theorem gk_1_9 : Cond.classLink (ownS 1) 9 RX5 ∈ gW := gWm (w := Cond.classLink (ownS 1) 9 RX5) 801 (by decide +kernel) (by decide +kernel)
theorem gk_2_9 : Cond.classLink (ownS 2) 9 RJx4a65c ∈ gW := gWm (w := Cond.classLink (ownS 2) 9 RJx4a65c) 134 (by decide +kernel) (by decide +kernel)
theorem gk_2_40 : Cond.classLink (ownS 2) 40 RX4 ∈ gW := gWm (w := Cond.classLink (ownS 2) 40 RX4) 309 (by decide +kernel) (by decide +kernel)
theorem gk_4_9 : Cond.classLink (ownS 4) 9 RX5 ∈ gW := gWm (w := Cond.classLink (ownS 4) 9 RX5) 180 (by decide +kernel) (by decide +kernel)
theorem gk_4_29 : Cond.classLink (ownS 4) 29 RJx4a65c ∈ gW := gWm (w := Cond.classLink (ownS 4) 29 RJx4a65c) 182 (by decide +kernel) (by decide +kernel)
theorem gk_4_36 : Cond.classLink (ownS 4) 36 RX2 ∈ gW := gWm (w := Cond.classLink (ownS 4) 36 RX2) 184 (by decide +kernel) (by decide +kernel)
theorem gk_5_9 : Cond.classLink (ownS 5) 9 RX3 ∈ gW := gWm (w := Cond.classLink (ownS 5) 9 RX3) 316 (by decide +kernel) (by decide +kernel)
theorem gk_5_18 : Cond.classLink (ownS 5) 18 RX5 ∈ gW := gWm (w := Cond.classLink (ownS 5) 18 RX5) 318 (by decide +kernel) (by decide +kernel)
theorem gk_7_9 : Cond.classLink (ownS 7) 9 RJx4a65c ∈ gW := gWm (w := Cond.classLink (ownS 7) 9 RJx4a65c) 102 (by decide +kernel) (by decide +kernel)
theorem gk_7_26 : Cond.classLink (ownS 7) 26 RX1 ∈ gW := gWm (w := Cond.classLink (ownS 7) 26 RX1) 128 (by decide +kernel) (by decide +kernel)
theorem gk_7_33 : Cond.classLink (ownS 7) 33 RX5 ∈ gW := gWm (w := Cond.classLink (ownS 7) 33 RX5) 160 (by decide +kernel) (by decide +kernel)
theorem gk_7_40 : Cond.classLink (ownS 7) 40 RX3 ∈ gW := gWm (w := Cond.classLink (ownS 7) 40 RX3) 174 (by decide +kernel) (by decide +kernel)
theorem gk_7_61 : Cond.classLink (ownS 7) 61 RX0 ∈ gW := gWm (w := Cond.classLink (ownS 7) 61 RX0) 284 (by decide +kernel) (by decide +kernel)
theorem gk_14_2 : Cond.classLink (ownS 14) 2 "java/lang/Object" ∈ gW := gWm (w := Cond.classLink (ownS 14) 2 "java/lang/Object") 403 (by decide +kernel) (by decide +kernel)
theorem gk_14_110 : Cond.classLink (ownS 14) 110 "[Ljava/lang/Object;" ∈ gW := gWm (w := Cond.classLink (ownS 14) 110 "[Ljava/lang/Object;") 401 (by decide +kernel) (by decide +kernel)
def clN : Nat → String
  | 0 => RJx4a65c
  | 1 => RX0
  | 2 => RX1
  | 3 => RX2
  | 4 => RX3
  | 5 => RX4
  | 6 => RX5
  | 7 => RX6
  | 8 => RX7
  | 104 => "java/lang/Object"
  | 204 => "[Ljava/lang/Object;"
  | _ => ""
theorem kR_ok : ∀ o i c, kR o i = some c → Cond.classLink (ownS o) i (clN c) ∈ gW := by
  intro o i c h
  unfold kR at h
  split at h
  · cases h; exact gk_0_7
  · cases h; exact gk_1_9
  · cases h; exact gk_2_9
  · cases h; exact gk_2_40
  · cases h; exact gk_4_9
  · cases h; exact gk_4_29
  · cases h; exact gk_4_36
  · cases h; exact gk_5_9
  · cases h; exact gk_5_18
  · cases h; exact gk_7_9
  · cases h; exact gk_7_26
  · cases h; exact gk_7_33
  · cases h; exact gk_7_40
  · cases h; exact gk_7_61
  · cases h; exact gk_14_2
  · cases h; exact gk_14_110
  · cases h
theorem cl_ok : ∀ c, c ≤ 8 → vwCl[c]? = some (clN c, clT c, fN c) ∧ (∀ w ∈ u_ws (clN c) (clT c) (fN c), w ∈ gW) ∧ Cond.instantiable (clN c) (fN c) ∈ gW ∧ Cond.initialized (clN c) ∈ gW ∧ (∀ k, k < fN c → parseFieldDescriptor (clT c k).2.2.1 = some (clY c k)) ∧ (∀ a, a < fN c → ∀ b, b < fN c → a ≠ b → (clT c a).2.1 ≠ (clT c b).2.1) ∧ (∀ k, k < fN c → ((fB c k = true ∧ (clY c k).isReference = true) ∨ (fB c k = false ∧ fZ c k = false ∧ clY c k = .int) ∨ (fB c k = false ∧ fZ c k = true ∧ clY c k = .boolean)) ∧ (clT c k).2.2.2 = fF c k) ∧ (∀ k, k < fN c → fF c k = true → (clT c k).1 = clN c) := by
  intro c hc
  match c, hc with
  | 0, _ => exact ⟨rfl, gu_RJx4a65c, gWm (w := Cond.instantiable (clN 0) (fN 0)) 103 (by decide +kernel) (by decide +kernel), gWm (w := Cond.initialized (clN 0)) 70 (by decide +kernel) (by decide +kernel), tyJx4a65c_ok, nmJx4a65c, by decide +kernel, by decide +kernel⟩
  | 1, _ => exact ⟨rfl, gu_RX0, gWm (w := Cond.instantiable (clN 1) (fN 1)) 796 (by decide +kernel) (by decide +kernel), gWm (w := Cond.initialized (clN 1)) 80 (by decide +kernel) (by decide +kernel), tyX0_ok, nmX0, by decide +kernel, by decide +kernel⟩
  | 2, _ => exact ⟨rfl, gu_RX1, gWm (w := Cond.instantiable (clN 2) (fN 2)) 129 (by decide +kernel) (by decide +kernel), gWm (w := Cond.initialized (clN 2)) 71 (by decide +kernel) (by decide +kernel), tyX1_ok, nmX1, by decide +kernel, by decide +kernel⟩
  | 3, _ => exact ⟨rfl, gu_RX2, gWm (w := Cond.instantiable (clN 3) (fN 3)) 185 (by decide +kernel) (by decide +kernel), gWm (w := Cond.initialized (clN 3)) 74 (by decide +kernel) (by decide +kernel), tyX2_ok, nmX2, by decide +kernel, by decide +kernel⟩
  | 4, _ => exact ⟨rfl, gu_RX3, gWm (w := Cond.instantiable (clN 4) (fN 4)) 175 (by decide +kernel) (by decide +kernel), gWm (w := Cond.initialized (clN 4)) 73 (by decide +kernel) (by decide +kernel), tyX3_ok, nmX3, by decide +kernel, by decide +kernel⟩
  | 5, _ => exact ⟨rfl, gu_RX4, gWm (w := Cond.instantiable (clN 5) (fN 5)) 311 (by decide +kernel) (by decide +kernel), gWm (w := Cond.initialized (clN 5)) 90 (by decide +kernel) (by decide +kernel), tyX4_ok, nmX4, by decide +kernel, by decide +kernel⟩
  | 6, _ => exact ⟨rfl, gu_RX5, gWm (w := Cond.instantiable (clN 6) (fN 6)) 161 (by decide +kernel) (by decide +kernel), gWm (w := Cond.initialized (clN 6)) 72 (by decide +kernel) (by decide +kernel), tyX5_ok, nmX5, by decide +kernel, by decide +kernel⟩
  | 7, _ => exact ⟨rfl, gu_RX6, gWm (w := Cond.instantiable (clN 7) (fN 7)) 95 (by decide +kernel) (by decide +kernel), gWm (w := Cond.initialized (clN 7)) 67 (by decide +kernel) (by decide +kernel), tyX6_ok, nmX6, by decide +kernel, by decide +kernel⟩
  | 8, _ => exact ⟨rfl, gu_RX7, gWm (w := Cond.instantiable (clN 8) (fN 8)) 1014 (by decide +kernel) (by decide +kernel), gWm (w := Cond.initialized (clN 8)) 75 (by decide +kernel) (by decide +kernel), tyX7_ok, nmX7, by decide +kernel, by decide +kernel⟩
  | n + 9, h => exact absurd h (by omega)
end
section
theorem gm_0 : Cond.code (mY 0) (mB 0) (mL 0) (mR 0) ∈ gW := gWm (w := Cond.code (mY 0) (mB 0) (mL 0) (mR 0)) 799 (by decide +kernel) (by decide +kernel)
theorem gm_1 : Cond.code (mY 1) (mB 1) (mL 1) (mR 1) ∈ gW := gWm (w := Cond.code (mY 1) (mB 1) (mL 1) (mR 1)) 421 (by decide +kernel) (by decide +kernel)
theorem gm_2 : Cond.code (mY 2) (mB 2) (mL 2) (mR 2) ∈ gW := gWm (w := Cond.code (mY 2) (mB 2) (mL 2) (mR 2)) 647 (by decide +kernel) (by decide +kernel)
theorem gm_3 : Cond.code (mY 3) (mB 3) (mL 3) (mR 3) ∈ gW := gWm (w := Cond.code (mY 3) (mB 3) (mL 3) (mR 3)) 417 (by decide +kernel) (by decide +kernel)
theorem gm_4 : Cond.code (mY 4) (mB 4) (mL 4) (mR 4) ∈ gW := gWm (w := Cond.code (mY 4) (mB 4) (mL 4) (mR 4)) 928 (by decide +kernel) (by decide +kernel)
theorem gm_5 : Cond.code (mY 5) (mB 5) (mL 5) (mR 5) ∈ gW := gWm (w := Cond.code (mY 5) (mB 5) (mL 5) (mR 5)) 132 (by decide +kernel) (by decide +kernel)
theorem gm_6 : Cond.code (mY 6) (mB 6) (mL 6) (mR 6) ∈ gW := gWm (w := Cond.code (mY 6) (mB 6) (mL 6) (mR 6)) 662 (by decide +kernel) (by decide +kernel)
theorem gm_7 : Cond.code (mY 7) (mB 7) (mL 7) (mR 7) ∈ gW := gWm (w := Cond.code (mY 7) (mB 7) (mL 7) (mR 7)) 666 (by decide +kernel) (by decide +kernel)
theorem gm_8 : Cond.code (mY 8) (mB 8) (mL 8) (mR 8) ∈ gW := gWm (w := Cond.code (mY 8) (mB 8) (mL 8) (mR 8)) 265 (by decide +kernel) (by decide +kernel)
theorem gm_9 : Cond.code (mY 9) (mB 9) (mL 9) (mR 9) ∈ gW := gWm (w := Cond.code (mY 9) (mB 9) (mL 9) (mR 9)) 307 (by decide +kernel) (by decide +kernel)
theorem gm_10 : Cond.code (mY 10) (mB 10) (mL 10) (mR 10) ∈ gW := gWm (w := Cond.code (mY 10) (mB 10) (mL 10) (mR 10)) 560 (by decide +kernel) (by decide +kernel)
theorem gm_11 : Cond.code (mY 11) (mB 11) (mL 11) (mR 11) ∈ gW := gWm (w := Cond.code (mY 11) (mB 11) (mL 11) (mR 11)) 592 (by decide +kernel) (by decide +kernel)
theorem gm_12 : Cond.code (mY 12) (mB 12) (mL 12) (mR 12) ∈ gW := gWm (w := Cond.code (mY 12) (mB 12) (mL 12) (mR 12)) 596 (by decide +kernel) (by decide +kernel)
theorem gm_13 : Cond.code (mY 13) (mB 13) (mL 13) (mR 13) ∈ gW := gWm (w := Cond.code (mY 13) (mB 13) (mL 13) (mR 13)) 652 (by decide +kernel) (by decide +kernel)
theorem gm_14 : Cond.code (mY 14) (mB 14) (mL 14) (mR 14) ∈ gW := gWm (w := Cond.code (mY 14) (mB 14) (mL 14) (mR 14)) 657 (by decide +kernel) (by decide +kernel)
theorem gm_15 : Cond.code (mY 15) (mB 15) (mL 15) (mR 15) ∈ gW := gWm (w := Cond.code (mY 15) (mB 15) (mL 15) (mR 15)) 715 (by decide +kernel) (by decide +kernel)
theorem gm_16 : Cond.code (mY 16) (mB 16) (mL 16) (mR 16) ∈ gW := gWm (w := Cond.code (mY 16) (mB 16) (mL 16) (mR 16)) 188 (by decide +kernel) (by decide +kernel)
theorem gm_17 : Cond.code (mY 17) (mB 17) (mL 17) (mR 17) ∈ gW := gWm (w := Cond.code (mY 17) (mB 17) (mL 17) (mR 17)) 631 (by decide +kernel) (by decide +kernel)
theorem gm_18 : Cond.code (mY 18) (mB 18) (mL 18) (mR 18) ∈ gW := gWm (w := Cond.code (mY 18) (mB 18) (mL 18) (mR 18)) 178 (by decide +kernel) (by decide +kernel)
theorem gm_19 : Cond.code (mY 19) (mB 19) (mL 19) (mR 19) ∈ gW := gWm (w := Cond.code (mY 19) (mB 19) (mL 19) (mR 19)) 480 (by decide +kernel) (by decide +kernel)
theorem gm_20 : Cond.code (mY 20) (mB 20) (mL 20) (mR 20) ∈ gW := gWm (w := Cond.code (mY 20) (mB 20) (mL 20) (mR 20)) 426 (by decide +kernel) (by decide +kernel)
theorem gm_21 : Cond.code (mY 21) (mB 21) (mL 21) (mR 21) ∈ gW := gWm (w := Cond.code (mY 21) (mB 21) (mL 21) (mR 21)) 438 (by decide +kernel) (by decide +kernel)
theorem gm_22 : Cond.code (mY 22) (mB 22) (mL 22) (mR 22) ∈ gW := gWm (w := Cond.code (mY 22) (mB 22) (mL 22) (mR 22)) 442 (by decide +kernel) (by decide +kernel)
theorem gm_23 : Cond.code (mY 23) (mB 23) (mL 23) (mR 23) ∈ gW := gWm (w := Cond.code (mY 23) (mB 23) (mL 23) (mR 23)) 446 (by decide +kernel) (by decide +kernel)
theorem gm_24 : Cond.code (mY 24) (mB 24) (mL 24) (mR 24) ∈ gW := gWm (w := Cond.code (mY 24) (mB 24) (mL 24) (mR 24)) 450 (by decide +kernel) (by decide +kernel)
theorem gm_25 : Cond.code (mY 25) (mB 25) (mL 25) (mR 25) ∈ gW := gWm (w := Cond.code (mY 25) (mB 25) (mL 25) (mR 25)) 457 (by decide +kernel) (by decide +kernel)
theorem gm_26 : Cond.code (mY 26) (mB 26) (mL 26) (mR 26) ∈ gW := gWm (w := Cond.code (mY 26) (mB 26) (mL 26) (mR 26)) 472 (by decide +kernel) (by decide +kernel)
theorem gm_27 : Cond.code (mY 27) (mB 27) (mL 27) (mR 27) ∈ gW := gWm (w := Cond.code (mY 27) (mB 27) (mL 27) (mR 27)) 461 (by decide +kernel) (by decide +kernel)
theorem gm_28 : Cond.code (mY 28) (mB 28) (mL 28) (mR 28) ∈ gW := gWm (w := Cond.code (mY 28) (mB 28) (mL 28) (mR 28)) 465 (by decide +kernel) (by decide +kernel)
theorem gm_29 : Cond.code (mY 29) (mB 29) (mL 29) (mR 29) ∈ gW := gWm (w := Cond.code (mY 29) (mB 29) (mL 29) (mR 29)) 488 (by decide +kernel) (by decide +kernel)
theorem gm_30 : Cond.code (mY 30) (mB 30) (mL 30) (mR 30) ∈ gW := gWm (w := Cond.code (mY 30) (mB 30) (mL 30) (mR 30)) 627 (by decide +kernel) (by decide +kernel)
theorem gm_31 : Cond.code (mY 31) (mB 31) (mL 31) (mR 31) ∈ gW := gWm (w := Cond.code (mY 31) (mB 31) (mL 31) (mR 31)) 635 (by decide +kernel) (by decide +kernel)
theorem gm_32 : Cond.code (mY 32) (mB 32) (mL 32) (mR 32) ∈ gW := gWm (w := Cond.code (mY 32) (mB 32) (mL 32) (mR 32)) 484 (by decide +kernel) (by decide +kernel)
theorem gm_33 : Cond.code (mY 33) (mB 33) (mL 33) (mR 33) ∈ gW := gWm (w := Cond.code (mY 33) (mB 33) (mL 33) (mR 33)) 556 (by decide +kernel) (by decide +kernel)
theorem gm_34 : Cond.code (mY 34) (mB 34) (mL 34) (mR 34) ∈ gW := gWm (w := Cond.code (mY 34) (mB 34) (mL 34) (mR 34)) 492 (by decide +kernel) (by decide +kernel)
theorem gm_35 : Cond.code (mY 35) (mB 35) (mL 35) (mR 35) ∈ gW := gWm (w := Cond.code (mY 35) (mB 35) (mL 35) (mR 35)) 583 (by decide +kernel) (by decide +kernel)
theorem gm_36 : Cond.code (mY 36) (mB 36) (mL 36) (mR 36) ∈ gW := gWm (w := Cond.code (mY 36) (mB 36) (mL 36) (mR 36)) 688 (by decide +kernel) (by decide +kernel)
theorem gm_37 : Cond.code (mY 37) (mB 37) (mL 37) (mR 37) ∈ gW := gWm (w := Cond.code (mY 37) (mB 37) (mL 37) (mR 37)) 618 (by decide +kernel) (by decide +kernel)
theorem gm_38 : Cond.code (mY 38) (mB 38) (mL 38) (mR 38) ∈ gW := gWm (w := Cond.code (mY 38) (mB 38) (mL 38) (mR 38)) 314 (by decide +kernel) (by decide +kernel)
theorem gm_39 : Cond.code (mY 39) (mB 39) (mL 39) (mR 39) ∈ gW := gWm (w := Cond.code (mY 39) (mB 39) (mL 39) (mR 39)) 413 (by decide +kernel) (by decide +kernel)
theorem gm_40 : Cond.code (mY 40) (mB 40) (mL 40) (mR 40) ∈ gW := gWm (w := Cond.code (mY 40) (mB 40) (mL 40) (mR 40)) 564 (by decide +kernel) (by decide +kernel)
theorem gm_41 : Cond.code (mY 41) (mB 41) (mL 41) (mR 41) ∈ gW := gWm (w := Cond.code (mY 41) (mB 41) (mL 41) (mR 41)) 568 (by decide +kernel) (by decide +kernel)
theorem gm_42 : Cond.code (mY 42) (mB 42) (mL 42) (mR 42) ∈ gW := gWm (w := Cond.code (mY 42) (mB 42) (mL 42) (mR 42)) 600 (by decide +kernel) (by decide +kernel)
theorem gm_43 : Cond.code (mY 43) (mB 43) (mL 43) (mR 43) ∈ gW := gWm (w := Cond.code (mY 43) (mB 43) (mL 43) (mR 43)) 605 (by decide +kernel) (by decide +kernel)
theorem gm_44 : Cond.code (mY 44) (mB 44) (mL 44) (mR 44) ∈ gW := gWm (w := Cond.code (mY 44) (mB 44) (mL 44) (mR 44)) 609 (by decide +kernel) (by decide +kernel)
theorem gm_45 : Cond.code (mY 45) (mB 45) (mL 45) (mR 45) ∈ gW := gWm (w := Cond.code (mY 45) (mB 45) (mL 45) (mR 45)) 623 (by decide +kernel) (by decide +kernel)
theorem gm_46 : Cond.code (mY 46) (mB 46) (mL 46) (mR 46) ∈ gW := gWm (w := Cond.code (mY 46) (mB 46) (mL 46) (mR 46)) 670 (by decide +kernel) (by decide +kernel)
theorem gm_47 : Cond.code (mY 47) (mB 47) (mL 47) (mR 47) ∈ gW := gWm (w := Cond.code (mY 47) (mB 47) (mL 47) (mR 47)) 674 (by decide +kernel) (by decide +kernel)
theorem gm_48 : Cond.code (mY 48) (mB 48) (mL 48) (mR 48) ∈ gW := gWm (w := Cond.code (mY 48) (mB 48) (mL 48) (mR 48)) 682 (by decide +kernel) (by decide +kernel)
theorem gm_49 : Cond.code (mY 49) (mB 49) (mL 49) (mR 49) ∈ gW := gWm (w := Cond.code (mY 49) (mB 49) (mL 49) (mR 49)) 700 (by decide +kernel) (by decide +kernel)
theorem gm_50 : Cond.code (mY 50) (mB 50) (mL 50) (mR 50) ∈ gW := gWm (w := Cond.code (mY 50) (mB 50) (mL 50) (mR 50)) 704 (by decide +kernel) (by decide +kernel)
theorem gm_51 : Cond.code (mY 51) (mB 51) (mL 51) (mR 51) ∈ gW := gWm (w := Cond.code (mY 51) (mB 51) (mL 51) (mR 51)) 709 (by decide +kernel) (by decide +kernel)
theorem gm_52 : Cond.code (mY 52) (mB 52) (mL 52) (mR 52) ∈ gW := gWm (w := Cond.code (mY 52) (mB 52) (mL 52) (mR 52)) 164 (by decide +kernel) (by decide +kernel)
theorem gm_53 : Cond.code (mY 53) (mB 53) (mL 53) (mR 53) ∈ gW := gWm (w := Cond.code (mY 53) (mB 53) (mL 53) (mR 53)) 476 (by decide +kernel) (by decide +kernel)
theorem gm_54 : Cond.code (mY 54) (mB 54) (mL 54) (mR 54) ∈ gW := gWm (w := Cond.code (mY 54) (mB 54) (mL 54) (mR 54)) 430 (by decide +kernel) (by decide +kernel)
theorem gm_55 : Cond.code (mY 55) (mB 55) (mL 55) (mR 55) ∈ gW := gWm (w := Cond.code (mY 55) (mB 55) (mL 55) (mR 55)) 292 (by decide +kernel) (by decide +kernel)
theorem gm_56 : Cond.code (mY 56) (mB 56) (mL 56) (mR 56) ∈ gW := gWm (w := Cond.code (mY 56) (mB 56) (mL 56) (mR 56)) 434 (by decide +kernel) (by decide +kernel)
theorem gm_57 : Cond.code (mY 57) (mB 57) (mL 57) (mR 57) ∈ gW := gWm (w := Cond.code (mY 57) (mB 57) (mL 57) (mR 57)) 497 (by decide +kernel) (by decide +kernel)
theorem gm_58 : Cond.code (mY 58) (mB 58) (mL 58) (mR 58) ∈ gW := gWm (w := Cond.code (mY 58) (mB 58) (mL 58) (mR 58)) 614 (by decide +kernel) (by decide +kernel)
theorem gm_59 : Cond.code (mY 59) (mB 59) (mL 59) (mR 59) ∈ gW := gWm (w := Cond.code (mY 59) (mB 59) (mL 59) (mR 59)) 640 (by decide +kernel) (by decide +kernel)
theorem gm_60 : Cond.code (mY 60) (mB 60) (mL 60) (mR 60) ∈ gW := gWm (w := Cond.code (mY 60) (mB 60) (mL 60) (mR 60)) 572 (by decide +kernel) (by decide +kernel)
theorem gm_61 : Cond.code (mY 61) (mB 61) (mL 61) (mR 61) ∈ gW := gWm (w := Cond.code (mY 61) (mB 61) (mL 61) (mR 61)) 576 (by decide +kernel) (by decide +kernel)
theorem gm_62 : Cond.code (mY 62) (mB 62) (mL 62) (mR 62) ∈ gW := gWm (w := Cond.code (mY 62) (mB 62) (mL 62) (mR 62)) 678 (by decide +kernel) (by decide +kernel)
theorem gm_63 : Cond.code (mY 63) (mB 63) (mL 63) (mR 63) ∈ gW := gWm (w := Cond.code (mY 63) (mB 63) (mL 63) (mR 63)) 502 (by decide +kernel) (by decide +kernel)
theorem gm_64 : Cond.code (mY 64) (mB 64) (mL 64) (mR 64) ∈ gW := gWm (w := Cond.code (mY 64) (mB 64) (mL 64) (mR 64)) 300 (by decide +kernel) (by decide +kernel)
theorem gm_65 : Cond.code (mY 65) (mB 65) (mL 65) (mR 65) ∈ gW := gWm (w := Cond.code (mY 65) (mB 65) (mL 65) (mR 65)) 296 (by decide +kernel) (by decide +kernel)
theorem gm_66 : Cond.code (mY 66) (mB 66) (mL 66) (mR 66) ∈ gW := gWm (w := Cond.code (mY 66) (mB 66) (mL 66) (mR 66)) 98 (by decide +kernel) (by decide +kernel)
theorem gm_67 : Cond.code (mY 67) (mB 67) (mL 67) (mR 67) ∈ gW := gWm (w := Cond.code (mY 67) (mB 67) (mL 67) (mR 67)) 727 (by decide +kernel) (by decide +kernel)
theorem gm_68 : Cond.code (mY 68) (mB 68) (mL 68) (mR 68) ∈ gW := gWm (w := Cond.code (mY 68) (mB 68) (mL 68) (mR 68)) 836 (by decide +kernel) (by decide +kernel)
theorem gm_69 : Cond.code (mY 69) (mB 69) (mL 69) (mR 69) ∈ gW := gWm (w := Cond.code (mY 69) (mB 69) (mL 69) (mR 69)) 892 (by decide +kernel) (by decide +kernel)
theorem gm_70 : Cond.code (mY 70) (mB 70) (mL 70) (mR 70) ∈ gW := gWm (w := Cond.code (mY 70) (mB 70) (mL 70) (mR 70)) 916 (by decide +kernel) (by decide +kernel)
theorem gm_71 : Cond.code (mY 71) (mB 71) (mL 71) (mR 71) ∈ gW := gWm (w := Cond.code (mY 71) (mB 71) (mL 71) (mR 71)) 924 (by decide +kernel) (by decide +kernel)
theorem gm_72 : Cond.code (mY 72) (mB 72) (mL 72) (mR 72) ∈ gW := gWm (w := Cond.code (mY 72) (mB 72) (mL 72) (mR 72)) 935 (by decide +kernel) (by decide +kernel)
theorem gm_73 : Cond.code (mY 73) (mB 73) (mL 73) (mR 73) ∈ gW := gWm (w := Cond.code (mY 73) (mB 73) (mL 73) (mR 73)) 261 (by decide +kernel) (by decide +kernel)
theorem gm_74 : Cond.code (mY 74) (mB 74) (mL 74) (mR 74) ∈ gW := gWm (w := Cond.code (mY 74) (mB 74) (mL 74) (mR 74)) 943 (by decide +kernel) (by decide +kernel)
theorem gm_75 : Cond.code (mY 75) (mB 75) (mL 75) (mR 75) ∈ gW := gWm (w := Cond.code (mY 75) (mB 75) (mL 75) (mR 75)) 955 (by decide +kernel) (by decide +kernel)
theorem gm_76 : Cond.code (mY 76) (mB 76) (mL 76) (mR 76) ∈ gW := gWm (w := Cond.code (mY 76) (mB 76) (mL 76) (mR 76)) 962 (by decide +kernel) (by decide +kernel)
theorem gm_77 : Cond.code (mY 77) (mB 77) (mL 77) (mR 77) ∈ gW := gWm (w := Cond.code (mY 77) (mB 77) (mL 77) (mR 77)) 980 (by decide +kernel) (by decide +kernel)
theorem gm_78 : Cond.code (mY 78) (mB 78) (mL 78) (mR 78) ∈ gW := gWm (w := Cond.code (mY 78) (mB 78) (mL 78) (mR 78)) 988 (by decide +kernel) (by decide +kernel)
theorem gm_79 : Cond.code (mY 79) (mB 79) (mL 79) (mR 79) ∈ gW := gWm (w := Cond.code (mY 79) (mB 79) (mL 79) (mR 79)) 1004 (by decide +kernel) (by decide +kernel)
theorem gm_80 : Cond.code (mY 80) (mB 80) (mL 80) (mR 80) ∈ gW := gWm (w := Cond.code (mY 80) (mB 80) (mL 80) (mR 80)) 1011 (by decide +kernel) (by decide +kernel)
theorem gm_81 : Cond.code (mY 81) (mB 81) (mL 81) (mR 81) ∈ gW := gWm (w := Cond.code (mY 81) (mB 81) (mL 81) (mR 81)) 840 (by decide +kernel) (by decide +kernel)
theorem gm_82 : Cond.code (mY 82) (mB 82) (mL 82) (mR 82) ∈ gW := gWm (w := Cond.code (mY 82) (mB 82) (mL 82) (mR 82)) 947 (by decide +kernel) (by decide +kernel)
theorem gm_83 : Cond.code (mY 83) (mB 83) (mL 83) (mR 83) ∈ gW := gWm (w := Cond.code (mY 83) (mB 83) (mL 83) (mR 83)) 288 (by decide +kernel) (by decide +kernel)
theorem gm_84 : Cond.code (mY 84) (mB 84) (mL 84) (mR 84) ∈ gW := gWm (w := Cond.code (mY 84) (mB 84) (mL 84) (mR 84)) 992 (by decide +kernel) (by decide +kernel)
theorem gm_85 : Cond.code (mY 85) (mB 85) (mL 85) (mR 85) ∈ gW := gWm (w := Cond.code (mY 85) (mB 85) (mL 85) (mR 85)) 971 (by decide +kernel) (by decide +kernel)
theorem gm_86 : Cond.code (mY 86) (mB 86) (mL 86) (mR 86) ∈ gW := gWm (w := Cond.code (mY 86) (mB 86) (mL 86) (mR 86)) 859 (by decide +kernel) (by decide +kernel)
theorem gm_87 : Cond.code (mY 87) (mB 87) (mL 87) (mR 87) ∈ gW := gWm (w := Cond.code (mY 87) (mB 87) (mL 87) (mR 87)) 862 (by decide +kernel) (by decide +kernel)
theorem gm_88 : Cond.code (mY 88) (mB 88) (mL 88) (mR 88) ∈ gW := gWm (w := Cond.code (mY 88) (mB 88) (mL 88) (mR 88)) 865 (by decide +kernel) (by decide +kernel)
theorem gm_89 : Cond.code (mY 89) (mB 89) (mL 89) (mR 89) ∈ gW := gWm (w := Cond.code (mY 89) (mB 89) (mL 89) (mR 89)) 468 (by decide +kernel) (by decide +kernel)
theorem gm_90 : Cond.code (mY 90) (mB 90) (mL 90) (mR 90) ∈ gW := gWm (w := Cond.code (mY 90) (mB 90) (mL 90) (mR 90)) 505 (by decide +kernel) (by decide +kernel)
theorem gm_91 : Cond.code (mY 91) (mB 91) (mL 91) (mR 91) ∈ gW := gWm (w := Cond.code (mY 91) (mB 91) (mL 91) (mR 91)) 1017 (by decide +kernel) (by decide +kernel)
theorem gm_92 : Cond.code (mY 92) (mB 92) (mL 92) (mR 92) ∈ gW := gWm (w := Cond.code (mY 92) (mB 92) (mL 92) (mR 92)) 1137 (by decide +kernel) (by decide +kernel)
theorem gm_93 : Cond.code (mY 93) (mB 93) (mL 93) (mR 93) ∈ gW := gWm (w := Cond.code (mY 93) (mB 93) (mL 93) (mR 93)) 1155 (by decide +kernel) (by decide +kernel)
theorem gm_94 : Cond.code (mY 94) (mB 94) (mL 94) (mR 94) ∈ gW := gWm (w := Cond.code (mY 94) (mB 94) (mL 94) (mR 94)) 1141 (by decide +kernel) (by decide +kernel)
theorem gm_95 : Cond.code (mY 95) (mB 95) (mL 95) (mR 95) ∈ gW := gWm (w := Cond.code (mY 95) (mB 95) (mL 95) (mR 95)) 1151 (by decide +kernel) (by decide +kernel)
theorem gm_96 : Cond.code (mY 96) (mB 96) (mL 96) (mR 96) ∈ gW := gWm (w := Cond.code (mY 96) (mB 96) (mL 96) (mR 96)) 1148 (by decide +kernel) (by decide +kernel)
theorem gm_97 : Cond.code (mY 97) (mB 97) (mL 97) (mR 97) ∈ gW := gWm (w := Cond.code (mY 97) (mB 97) (mL 97) (mR 97)) 1158 (by decide +kernel) (by decide +kernel)
theorem gm_98 : Cond.code (mY 98) (mB 98) (mL 98) (mR 98) ∈ gW := gWm (w := Cond.code (mY 98) (mB 98) (mL 98) (mR 98)) 1145 (by decide +kernel) (by decide +kernel)
theorem gm_99 : Cond.code (mY 99) (mB 99) (mL 99) (mR 99) ∈ gW := gWm (w := Cond.code (mY 99) (mB 99) (mL 99) (mR 99)) 1162 (by decide +kernel) (by decide +kernel)
theorem gm_100 : Cond.code (mY 100) (mB 100) (mL 100) (mR 100) ∈ gW := gWm (w := Cond.code (mY 100) (mB 100) (mL 100) (mR 100)) 1166 (by decide +kernel) (by decide +kernel)
theorem gm_101 : Cond.code (mY 101) (mB 101) (mL 101) (mR 101) ∈ gW := gWm (w := Cond.code (mY 101) (mB 101) (mL 101) (mR 101)) 1170 (by decide +kernel) (by decide +kernel)
theorem gm_102 : Cond.code (mY 102) (mB 102) (mL 102) (mR 102) ∈ gW := gWm (w := Cond.code (mY 102) (mB 102) (mL 102) (mR 102)) 1174 (by decide +kernel) (by decide +kernel)
theorem gm_103 : Cond.code (mY 103) (mB 103) (mL 103) (mR 103) ∈ gW := gWm (w := Cond.code (mY 103) (mB 103) (mL 103) (mR 103)) 1202 (by decide +kernel) (by decide +kernel)
theorem gm_104 : Cond.code (mY 104) (mB 104) (mL 104) (mR 104) ∈ gW := gWm (w := Cond.code (mY 104) (mB 104) (mL 104) (mR 104)) 1186 (by decide +kernel) (by decide +kernel)
theorem gm_105 : Cond.code (mY 105) (mB 105) (mL 105) (mR 105) ∈ gW := gWm (w := Cond.code (mY 105) (mB 105) (mL 105) (mR 105)) 1240 (by decide +kernel) (by decide +kernel)
theorem gm_106 : Cond.code (mY 106) (mB 106) (mL 106) (mR 106) ∈ gW := gWm (w := Cond.code (mY 106) (mB 106) (mL 106) (mR 106)) 1213 (by decide +kernel) (by decide +kernel)
theorem gm_107 : Cond.code (mY 107) (mB 107) (mL 107) (mR 107) ∈ gW := gWm (w := Cond.code (mY 107) (mB 107) (mL 107) (mR 107)) 1210 (by decide +kernel) (by decide +kernel)
theorem gm_108 : Cond.code (mY 108) (mB 108) (mL 108) (mR 108) ∈ gW := gWm (w := Cond.code (mY 108) (mB 108) (mL 108) (mR 108)) 1217 (by decide +kernel) (by decide +kernel)
theorem gm_109 : Cond.code (mY 109) (mB 109) (mL 109) (mR 109) ∈ gW := gWm (w := Cond.code (mY 109) (mB 109) (mL 109) (mR 109)) 1206 (by decide +kernel) (by decide +kernel)
theorem gm_110 : Cond.code (mY 110) (mB 110) (mL 110) (mR 110) ∈ gW := gWm (w := Cond.code (mY 110) (mB 110) (mL 110) (mR 110)) 1198 (by decide +kernel) (by decide +kernel)
theorem gm_111 : Cond.code (mY 111) (mB 111) (mL 111) (mR 111) ∈ gW := gWm (w := Cond.code (mY 111) (mB 111) (mL 111) (mR 111)) 1229 (by decide +kernel) (by decide +kernel)
theorem gm_112 : Cond.code (mY 112) (mB 112) (mL 112) (mR 112) ∈ gW := gWm (w := Cond.code (mY 112) (mB 112) (mL 112) (mR 112)) 1285 (by decide +kernel) (by decide +kernel)
theorem gm_113 : Cond.code (mY 113) (mB 113) (mL 113) (mR 113) ∈ gW := gWm (w := Cond.code (mY 113) (mB 113) (mL 113) (mR 113)) 1248 (by decide +kernel) (by decide +kernel)
theorem gm_114 : Cond.code (mY 114) (mB 114) (mL 114) (mR 114) ∈ gW := gWm (w := Cond.code (mY 114) (mB 114) (mL 114) (mR 114)) 1268 (by decide +kernel) (by decide +kernel)
theorem gm_115 : Cond.code (mY 115) (mB 115) (mL 115) (mR 115) ∈ gW := gWm (w := Cond.code (mY 115) (mB 115) (mL 115) (mR 115)) 1225 (by decide +kernel) (by decide +kernel)
theorem gm_116 : Cond.code (mY 116) (mB 116) (mL 116) (mR 116) ∈ gW := gWm (w := Cond.code (mY 116) (mB 116) (mL 116) (mR 116)) 1276 (by decide +kernel) (by decide +kernel)
theorem gm_117 : Cond.code (mY 117) (mB 117) (mL 117) (mR 117) ∈ gW := gWm (w := Cond.code (mY 117) (mB 117) (mL 117) (mR 117)) 1280 (by decide +kernel) (by decide +kernel)
theorem gm_118 : Cond.code (mY 118) (mB 118) (mL 118) (mR 118) ∈ gW := gWm (w := Cond.code (mY 118) (mB 118) (mL 118) (mR 118)) 1260 (by decide +kernel) (by decide +kernel)
theorem gm_119 : Cond.code (mY 119) (mB 119) (mL 119) (mR 119) ∈ gW := gWm (w := Cond.code (mY 119) (mB 119) (mL 119) (mR 119)) 1233 (by decide +kernel) (by decide +kernel)
theorem gm_120 : Cond.code (mY 120) (mB 120) (mL 120) (mR 120) ∈ gW := gWm (w := Cond.code (mY 120) (mB 120) (mL 120) (mR 120)) 1237 (by decide +kernel) (by decide +kernel)
theorem gm_121 : Cond.code (mY 121) (mB 121) (mL 121) (mR 121) ∈ gW := gWm (w := Cond.code (mY 121) (mB 121) (mL 121) (mR 121)) 1221 (by decide +kernel) (by decide +kernel)
theorem gm_122 : Cond.code (mY 122) (mB 122) (mL 122) (mR 122) ∈ gW := gWm (w := Cond.code (mY 122) (mB 122) (mL 122) (mR 122)) 1194 (by decide +kernel) (by decide +kernel)
theorem gm_123 : Cond.code (mY 123) (mB 123) (mL 123) (mR 123) ∈ gW := gWm (w := Cond.code (mY 123) (mB 123) (mL 123) (mR 123)) 1244 (by decide +kernel) (by decide +kernel)
theorem gm_124 : Cond.code (mY 124) (mB 124) (mL 124) (mR 124) ∈ gW := gWm (w := Cond.code (mY 124) (mB 124) (mL 124) (mR 124)) 1190 (by decide +kernel) (by decide +kernel)
theorem gm_125 : Cond.code (mY 125) (mB 125) (mL 125) (mR 125) ∈ gW := gWm (w := Cond.code (mY 125) (mB 125) (mL 125) (mR 125)) 1182 (by decide +kernel) (by decide +kernel)
theorem gm_126 : Cond.code (mY 126) (mB 126) (mL 126) (mR 126) ∈ gW := gWm (w := Cond.code (mY 126) (mB 126) (mL 126) (mR 126)) 1256 (by decide +kernel) (by decide +kernel)
theorem gm_127 : Cond.code (mY 127) (mB 127) (mL 127) (mR 127) ∈ gW := gWm (w := Cond.code (mY 127) (mB 127) (mL 127) (mR 127)) 1264 (by decide +kernel) (by decide +kernel)
theorem gm_128 : Cond.code (mY 128) (mB 128) (mL 128) (mR 128) ∈ gW := gWm (w := Cond.code (mY 128) (mB 128) (mL 128) (mR 128)) 1272 (by decide +kernel) (by decide +kernel)
theorem gm_129 : Cond.code (mY 129) (mB 129) (mL 129) (mR 129) ∈ gW := gWm (w := Cond.code (mY 129) (mB 129) (mL 129) (mR 129)) 1252 (by decide +kernel) (by decide +kernel)
theorem gm_130 : Cond.code (mY 130) (mB 130) (mL 130) (mR 130) ∈ gW := gWm (w := Cond.code (mY 130) (mB 130) (mL 130) (mR 130)) 1295 (by decide +kernel) (by decide +kernel)
theorem gm_131 : Cond.code (mY 131) (mB 131) (mL 131) (mR 131) ∈ gW := gWm (w := Cond.code (mY 131) (mB 131) (mL 131) (mR 131)) 1291 (by decide +kernel) (by decide +kernel)
theorem gm_132 : Cond.code (mY 132) (mB 132) (mL 132) (mR 132) ∈ gW := gWm (w := Cond.code (mY 132) (mB 132) (mL 132) (mR 132)) 1311 (by decide +kernel) (by decide +kernel)
theorem gm_133 : Cond.code (mY 133) (mB 133) (mL 133) (mR 133) ∈ gW := gWm (w := Cond.code (mY 133) (mB 133) (mL 133) (mR 133)) 1315 (by decide +kernel) (by decide +kernel)
theorem gm_134 : Cond.code (mY 134) (mB 134) (mL 134) (mR 134) ∈ gW := gWm (w := Cond.code (mY 134) (mB 134) (mL 134) (mR 134)) 1307 (by decide +kernel) (by decide +kernel)
theorem gm_135 : Cond.code (mY 135) (mB 135) (mL 135) (mR 135) ∈ gW := gWm (w := Cond.code (mY 135) (mB 135) (mL 135) (mR 135)) 1320 (by decide +kernel) (by decide +kernel)
theorem gm_136 : Cond.code (mY 136) (mB 136) (mL 136) (mR 136) ∈ gW := gWm (w := Cond.code (mY 136) (mB 136) (mL 136) (mR 136)) 1324 (by decide +kernel) (by decide +kernel)
theorem gm_137 : Cond.code (mY 137) (mB 137) (mL 137) (mR 137) ∈ gW := gWm (w := Cond.code (mY 137) (mB 137) (mL 137) (mR 137)) 1303 (by decide +kernel) (by decide +kernel)
theorem gm_138 : Cond.code (mY 138) (mB 138) (mL 138) (mR 138) ∈ gW := gWm (w := Cond.code (mY 138) (mB 138) (mL 138) (mR 138)) 1299 (by decide +kernel) (by decide +kernel)
theorem gm_139 : Cond.code (mY 139) (mB 139) (mL 139) (mR 139) ∈ gW := gWm (w := Cond.code (mY 139) (mB 139) (mL 139) (mR 139)) 1334 (by decide +kernel) (by decide +kernel)
theorem gm_140 : Cond.code (mY 140) (mB 140) (mL 140) (mR 140) ∈ gW := gWm (w := Cond.code (mY 140) (mB 140) (mL 140) (mR 140)) 1330 (by decide +kernel) (by decide +kernel)
theorem gm_141 : Cond.code (mY 141) (mB 141) (mL 141) (mR 141) ∈ gW := gWm (w := Cond.code (mY 141) (mB 141) (mL 141) (mR 141)) 1178 (by decide +kernel) (by decide +kernel)
theorem gm_142 : Cond.code (mY 142) (mB 142) (mL 142) (mR 142) ∈ gW := gWm (w := Cond.code (mY 142) (mB 142) (mL 142) (mR 142)) 1342 (by decide +kernel) (by decide +kernel)
theorem gm_143 : Cond.code (mY 143) (mB 143) (mL 143) (mR 143) ∈ gW := gWm (w := Cond.code (mY 143) (mB 143) (mL 143) (mR 143)) 1338 (by decide +kernel) (by decide +kernel)
theorem gm_144 : Cond.code (mY 144) (mB 144) (mL 144) (mR 144) ∈ gW := gWm (w := Cond.code (mY 144) (mB 144) (mL 144) (mR 144)) 1346 (by decide +kernel) (by decide +kernel)
theorem gm_145 : Cond.code (mY 145) (mB 145) (mL 145) (mR 145) ∈ gW := gWm (w := Cond.code (mY 145) (mB 145) (mL 145) (mR 145)) 1350 (by decide +kernel) (by decide +kernel)
theorem gm_146 : Cond.code (mY 146) (mB 146) (mL 146) (mR 146) ∈ gW := gWm (w := Cond.code (mY 146) (mB 146) (mL 146) (mR 146)) 1354 (by decide +kernel) (by decide +kernel)
theorem gm_147 : Cond.code (mY 147) (mB 147) (mL 147) (mR 147) ∈ gW := gWm (w := Cond.code (mY 147) (mB 147) (mL 147) (mR 147)) 1358 (by decide +kernel) (by decide +kernel)
theorem gm_148 : Cond.code (mY 148) (mB 148) (mL 148) (mR 148) ∈ gW := gWm (w := Cond.code (mY 148) (mB 148) (mL 148) (mR 148)) 1364 (by decide +kernel) (by decide +kernel)
theorem gm_149 : Cond.code (mY 149) (mB 149) (mL 149) (mR 149) ∈ gW := gWm (w := Cond.code (mY 149) (mB 149) (mL 149) (mR 149)) 1368 (by decide +kernel) (by decide +kernel)
theorem gm_150 : Cond.code (mY 150) (mB 150) (mL 150) (mR 150) ∈ gW := gWm (w := Cond.code (mY 150) (mB 150) (mL 150) (mR 150)) 510 (by decide +kernel) (by decide +kernel)
theorem gm_151 : Cond.code (mY 151) (mB 151) (mL 151) (mR 151) ∈ gW := gWm (w := Cond.code (mY 151) (mB 151) (mL 151) (mR 151)) 520 (by decide +kernel) (by decide +kernel)
theorem gm_152 : Cond.code (mY 152) (mB 152) (mL 152) (mR 152) ∈ gW := gWm (w := Cond.code (mY 152) (mB 152) (mL 152) (mR 152)) 514 (by decide +kernel) (by decide +kernel)
theorem gm_153 : Cond.code (mY 153) (mB 153) (mL 153) (mR 153) ∈ gW := gWm (w := Cond.code (mY 153) (mB 153) (mL 153) (mR 153)) 524 (by decide +kernel) (by decide +kernel)
theorem gm_154 : Cond.code (mY 154) (mB 154) (mL 154) (mR 154) ∈ gW := gWm (w := Cond.code (mY 154) (mB 154) (mL 154) (mR 154)) 530 (by decide +kernel) (by decide +kernel)
theorem gm_155 : Cond.code (mY 155) (mB 155) (mL 155) (mR 155) ∈ gW := gWm (w := Cond.code (mY 155) (mB 155) (mL 155) (mR 155)) 527 (by decide +kernel) (by decide +kernel)
theorem gm_156 : Cond.code (mY 156) (mB 156) (mL 156) (mR 156) ∈ gW := gWm (w := Cond.code (mY 156) (mB 156) (mL 156) (mR 156)) 112 (by decide +kernel) (by decide +kernel)
theorem gm_157 : Cond.code (mY 157) (mB 157) (mL 157) (mR 157) ∈ gW := gWm (w := Cond.code (mY 157) (mB 157) (mL 157) (mR 157)) 109 (by decide +kernel) (by decide +kernel)
theorem gm_158 : Cond.code (mY 158) (mB 158) (mL 158) (mR 158) ∈ gW := gWm (w := Cond.code (mY 158) (mB 158) (mL 158) (mR 158)) 106 (by decide +kernel) (by decide +kernel)
theorem gm_159 : Cond.code (mY 159) (mB 159) (mL 159) (mR 159) ∈ gW := gWm (w := Cond.code (mY 159) (mB 159) (mL 159) (mR 159)) 367 (by decide +kernel) (by decide +kernel)
theorem gm_160 : Cond.code (mY 160) (mB 160) (mL 160) (mR 160) ∈ gW := gWm (w := Cond.code (mY 160) (mB 160) (mL 160) (mR 160)) 363 (by decide +kernel) (by decide +kernel)
theorem gm_161 : Cond.code (mY 161) (mB 161) (mL 161) (mR 161) ∈ gW := gWm (w := Cond.code (mY 161) (mB 161) (mL 161) (mR 161)) 269 (by decide +kernel) (by decide +kernel)
theorem gm_162 : Cond.code (mY 162) (mB 162) (mL 162) (mR 162) ∈ gW := gWm (w := Cond.code (mY 162) (mB 162) (mL 162) (mR 162)) 283 (by decide +kernel) (by decide +kernel)
theorem gm_163 : Cond.code (mY 163) (mB 163) (mL 163) (mR 163) ∈ gW := gWm (w := Cond.code (mY 163) (mB 163) (mL 163) (mR 163)) 273 (by decide +kernel) (by decide +kernel)
theorem gm_164 : Cond.code (mY 164) (mB 164) (mL 164) (mR 164) ∈ gW := gWm (w := Cond.code (mY 164) (mB 164) (mL 164) (mR 164)) 588 (by decide +kernel) (by decide +kernel)
theorem gm_165 : Cond.code (mY 165) (mB 165) (mL 165) (mR 165) ∈ gW := gWm (w := Cond.code (mY 165) (mB 165) (mL 165) (mR 165)) 359 (by decide +kernel) (by decide +kernel)
theorem gm_166 : Cond.code (mY 166) (mB 166) (mL 166) (mR 166) ∈ gW := gWm (w := Cond.code (mY 166) (mB 166) (mL 166) (mR 166)) 355 (by decide +kernel) (by decide +kernel)
theorem gm_167 : Cond.code (mY 167) (mB 167) (mL 167) (mR 167) ∈ gW := gWm (w := Cond.code (mY 167) (mB 167) (mL 167) (mR 167)) 380 (by decide +kernel) (by decide +kernel)
theorem gm_168 : Cond.code (mY 168) (mB 168) (mL 168) (mR 168) ∈ gW := gWm (w := Cond.code (mY 168) (mB 168) (mL 168) (mR 168)) 400 (by decide +kernel) (by decide +kernel)
theorem gm_169 : Cond.code (mY 169) (mB 169) (mL 169) (mR 169) ∈ gW := gWm (w := Cond.code (mY 169) (mB 169) (mL 169) (mR 169)) 276 (by decide +kernel) (by decide +kernel)
theorem gm_170 : Cond.code (mY 170) (mB 170) (mL 170) (mR 170) ∈ gW := gWm (w := Cond.code (mY 170) (mB 170) (mL 170) (mR 170)) 370 (by decide +kernel) (by decide +kernel)
theorem gm_171 : Cond.code (mY 171) (mB 171) (mL 171) (mR 171) ∈ gW := gWm (w := Cond.code (mY 171) (mB 171) (mL 171) (mR 171)) 279 (by decide +kernel) (by decide +kernel)
theorem mC_ok : ∀ k, k < 172 → Cond.code (mY k) (mB k) (mL k) (mR k) ∈ gW := by
  intro k hk
  match k, hk with
  | 0, _ => exact gm_0
  | 1, _ => exact gm_1
  | 2, _ => exact gm_2
  | 3, _ => exact gm_3
  | 4, _ => exact gm_4
  | 5, _ => exact gm_5
  | 6, _ => exact gm_6
  | 7, _ => exact gm_7
  | 8, _ => exact gm_8
  | 9, _ => exact gm_9
  | 10, _ => exact gm_10
  | 11, _ => exact gm_11
  | 12, _ => exact gm_12
  | 13, _ => exact gm_13
  | 14, _ => exact gm_14
  | 15, _ => exact gm_15
  | 16, _ => exact gm_16
  | 17, _ => exact gm_17
  | 18, _ => exact gm_18
  | 19, _ => exact gm_19
  | 20, _ => exact gm_20
  | 21, _ => exact gm_21
  | 22, _ => exact gm_22
  | 23, _ => exact gm_23
  | 24, _ => exact gm_24
  | 25, _ => exact gm_25
  | 26, _ => exact gm_26
  | 27, _ => exact gm_27
  | 28, _ => exact gm_28
  | 29, _ => exact gm_29
  | 30, _ => exact gm_30
  | 31, _ => exact gm_31
  | 32, _ => exact gm_32
  | 33, _ => exact gm_33
  | 34, _ => exact gm_34
  | 35, _ => exact gm_35
  | 36, _ => exact gm_36
  | 37, _ => exact gm_37
  | 38, _ => exact gm_38
  | 39, _ => exact gm_39
  | 40, _ => exact gm_40
  | 41, _ => exact gm_41
  | 42, _ => exact gm_42
  | 43, _ => exact gm_43
  | 44, _ => exact gm_44
  | 45, _ => exact gm_45
  | 46, _ => exact gm_46
  | 47, _ => exact gm_47
  | 48, _ => exact gm_48
  | 49, _ => exact gm_49
  | 50, _ => exact gm_50
  | 51, _ => exact gm_51
  | 52, _ => exact gm_52
  | 53, _ => exact gm_53
  | 54, _ => exact gm_54
  | 55, _ => exact gm_55
  | 56, _ => exact gm_56
  | 57, _ => exact gm_57
  | 58, _ => exact gm_58
  | 59, _ => exact gm_59
  | 60, _ => exact gm_60
  | 61, _ => exact gm_61
  | 62, _ => exact gm_62
  | 63, _ => exact gm_63
  | 64, _ => exact gm_64
  | 65, _ => exact gm_65
  | 66, _ => exact gm_66
  | 67, _ => exact gm_67
  | 68, _ => exact gm_68
  | 69, _ => exact gm_69
  | 70, _ => exact gm_70
  | 71, _ => exact gm_71
  | 72, _ => exact gm_72
  | 73, _ => exact gm_73
  | 74, _ => exact gm_74
  | 75, _ => exact gm_75
  | 76, _ => exact gm_76
  | 77, _ => exact gm_77
  | 78, _ => exact gm_78
  | 79, _ => exact gm_79
  | 80, _ => exact gm_80
  | 81, _ => exact gm_81
  | 82, _ => exact gm_82
  | 83, _ => exact gm_83
  | 84, _ => exact gm_84
  | 85, _ => exact gm_85
  | 86, _ => exact gm_86
  | 87, _ => exact gm_87
  | 88, _ => exact gm_88
  | 89, _ => exact gm_89
  | 90, _ => exact gm_90
  | 91, _ => exact gm_91
  | 92, _ => exact gm_92
  | 93, _ => exact gm_93
  | 94, _ => exact gm_94
  | 95, _ => exact gm_95
  | 96, _ => exact gm_96
  | 97, _ => exact gm_97
  | 98, _ => exact gm_98
  | 99, _ => exact gm_99
  | 100, _ => exact gm_100
  | 101, _ => exact gm_101
  | 102, _ => exact gm_102
  | 103, _ => exact gm_103
  | 104, _ => exact gm_104
  | 105, _ => exact gm_105
  | 106, _ => exact gm_106
  | 107, _ => exact gm_107
  | 108, _ => exact gm_108
  | 109, _ => exact gm_109
  | 110, _ => exact gm_110
  | 111, _ => exact gm_111
  | 112, _ => exact gm_112
  | 113, _ => exact gm_113
  | 114, _ => exact gm_114
  | 115, _ => exact gm_115
  | 116, _ => exact gm_116
  | 117, _ => exact gm_117
  | 118, _ => exact gm_118
  | 119, _ => exact gm_119
  | 120, _ => exact gm_120
  | 121, _ => exact gm_121
  | 122, _ => exact gm_122
  | 123, _ => exact gm_123
  | 124, _ => exact gm_124
  | 125, _ => exact gm_125
  | 126, _ => exact gm_126
  | 127, _ => exact gm_127
  | 128, _ => exact gm_128
  | 129, _ => exact gm_129
  | 130, _ => exact gm_130
  | 131, _ => exact gm_131
  | 132, _ => exact gm_132
  | 133, _ => exact gm_133
  | 134, _ => exact gm_134
  | 135, _ => exact gm_135
  | 136, _ => exact gm_136
  | 137, _ => exact gm_137
  | 138, _ => exact gm_138
  | 139, _ => exact gm_139
  | 140, _ => exact gm_140
  | 141, _ => exact gm_141
  | 142, _ => exact gm_142
  | 143, _ => exact gm_143
  | 144, _ => exact gm_144
  | 145, _ => exact gm_145
  | 146, _ => exact gm_146
  | 147, _ => exact gm_147
  | 148, _ => exact gm_148
  | 149, _ => exact gm_149
  | 150, _ => exact gm_150
  | 151, _ => exact gm_151
  | 152, _ => exact gm_152
  | 153, _ => exact gm_153
  | 154, _ => exact gm_154
  | 155, _ => exact gm_155
  | 156, _ => exact gm_156
  | 157, _ => exact gm_157
  | 158, _ => exact gm_158
  | 159, _ => exact gm_159
  | 160, _ => exact gm_160
  | 161, _ => exact gm_161
  | 162, _ => exact gm_162
  | 163, _ => exact gm_163
  | 164, _ => exact gm_164
  | 165, _ => exact gm_165
  | 166, _ => exact gm_166
  | 167, _ => exact gm_167
  | 168, _ => exact gm_168
  | 169, _ => exact gm_169
  | 170, _ => exact gm_170
  | 171, _ => exact gm_171
  | n + 172, h => exact absurd h (by omega)
end
section
theorem gi_7 : Cond.initialized (ownS 7) ∈ gW := gWm (w := Cond.initialized (ownS 7)) 67 (by decide +kernel) (by decide +kernel)
theorem gi_1 : Cond.initialized (ownS 1) ∈ gW := gWm (w := Cond.initialized (ownS 1)) 80 (by decide +kernel) (by decide +kernel)
theorem gi_2 : Cond.initialized (ownS 2) ∈ gW := gWm (w := Cond.initialized (ownS 2)) 71 (by decide +kernel) (by decide +kernel)
theorem gi_3 : Cond.initialized (ownS 3) ∈ gW := gWm (w := Cond.initialized (ownS 3)) 74 (by decide +kernel) (by decide +kernel)
theorem gi_4 : Cond.initialized (ownS 4) ∈ gW := gWm (w := Cond.initialized (ownS 4)) 73 (by decide +kernel) (by decide +kernel)
theorem gi_5 : Cond.initialized (ownS 5) ∈ gW := gWm (w := Cond.initialized (ownS 5)) 90 (by decide +kernel) (by decide +kernel)
theorem gi_6 : Cond.initialized (ownS 6) ∈ gW := gWm (w := Cond.initialized (ownS 6)) 72 (by decide +kernel) (by decide +kernel)
theorem gi_8 : Cond.initialized (ownS 8) ∈ gW := gWm (w := Cond.initialized (ownS 8)) 75 (by decide +kernel) (by decide +kernel)
theorem gi_9 : Cond.initialized (ownS 9) ∈ gW := gWm (w := Cond.initialized (ownS 9)) 91 (by decide +kernel) (by decide +kernel)
theorem gi_10 : Cond.initialized (ownS 10) ∈ gW := gWm (w := Cond.initialized (ownS 10)) 92 (by decide +kernel) (by decide +kernel)
theorem gi_12 : Cond.initialized (ownS 12) ∈ gW := gWm (w := Cond.initialized (ownS 12)) 68 (by decide +kernel) (by decide +kernel)
theorem gi_13 : Cond.initialized (ownS 13) ∈ gW := gWm (w := Cond.initialized (ownS 13)) 69 (by decide +kernel) (by decide +kernel)
theorem gi_0 : Cond.initialized (ownS 0) ∈ gW := gWm (w := Cond.initialized (ownS 0)) 70 (by decide +kernel) (by decide +kernel)
theorem gi_14 : Cond.initialized (ownS 14) ∈ gW := gWm (w := Cond.initialized (ownS 14)) 83 (by decide +kernel) (by decide +kernel)
theorem gi_15 : Cond.initialized (ownS 15) ∈ gW := gWm (w := Cond.initialized (ownS 15)) 86 (by decide +kernel) (by decide +kernel)
theorem gi_16 : Cond.initialized (ownS 16) ∈ gW := gWm (w := Cond.initialized (ownS 16)) 81 (by decide +kernel) (by decide +kernel)
theorem gi_17 : Cond.initialized (ownS 17) ∈ gW := gWm (w := Cond.initialized (ownS 17)) 87 (by decide +kernel) (by decide +kernel)
def mIx : List Nat := [798, 419, 645, 415, 926, 131, 660, 664, 263, 305, 558, 590, 595, 650, 656, 713, 187, 629, 177, 478, 424, 437, 441, 445, 449, 456, 471, 460, 464, 487, 625, 633, 482, 554, 491, 581, 686, 616, 313, 411, 562, 567, 598, 603, 608, 622, 668, 673, 681, 699, 703, 708, 163, 474, 428, 290, 432, 495, 612, 638, 570, 574, 676, 500, 298, 294, 97, 725, 834, 890, 914, 922, 933, 259, 941, 953, 960, 978, 986, 1002, 1009, 839, 946, 287, 991, 970, 858, 861, 864, 467, 504, 1016, 1135, 1154, 1139, 1150, 1147, 1157, 1143, 1160, 1164, 1168, 1172, 1201, 1185, 1239, 1212, 1209, 1216, 1205, 1197, 1228, 1284, 1247, 1267, 1224, 1275, 1279, 1259, 1232, 1236, 1220, 1193, 1243, 1189, 1181, 1255, 1263, 1271, 1251, 1294, 1290, 1310, 1314, 1306, 1319, 1323, 1302, 1298, 1333, 1329, 1176, 1341, 1336, 1344, 1348, 1352, 1356, 1362, 1366, 508, 518, 512, 522, 529, 526, 111, 108, 105, 366, 362, 267, 281, 271, 586, 358, 353, 379, 399, 275, 369, 278]
def mJx : List Nat := [99999, 420, 646, 416, 927, 99999, 661, 665, 264, 306, 559, 591, 15, 651, 18, 714, 99999, 630, 99999, 479, 425, 4, 5, 6, 7, 8, 11, 9, 10, 12, 626, 634, 483, 555, 13, 582, 687, 617, 99999, 412, 563, 14, 599, 604, 16, 17, 669, 19, 20, 21, 22, 23, 99999, 475, 429, 291, 433, 496, 613, 639, 571, 575, 677, 501, 299, 295, 99999, 726, 835, 891, 915, 923, 934, 260, 942, 954, 961, 979, 987, 1003, 1010, 25, 26, 0, 27, 99999, 99999, 99999, 99999, 99999, 99999, 99999, 1136, 28, 1140, 99999, 99999, 99999, 1144, 1161, 1165, 1169, 1173, 34, 30, 99999, 99999, 36, 37, 35, 33, 40, 53, 44, 49, 39, 51, 52, 47, 41, 42, 38, 32, 43, 31, 29, 46, 48, 50, 45, 55, 54, 59, 60, 58, 61, 62, 57, 56, 64, 63, 1177, 65, 1337, 1345, 1349, 1353, 1357, 1363, 1367, 509, 519, 513, 523, 99999, 99999, 99999, 99999, 99999, 3, 2, 268, 282, 272, 587, 1, 354, 99999, 99999, 99999, 99999, 99999]
set_option maxRecDepth 20000 in
theorem gn_0 : ∀ k, k < 24 → 0 ≤ k → (if mS k = true then decide (lw_tbl[mIx.getD k 0]? = some (Cond.static (mY k))) && goodWord (Cond.static (mY k)) else decide (lw_tbl[mIx.getD k 0]? = some (Cond.instanceMethod (mY k))) && goodWord (Cond.instanceMethod (mY k)) && (mI k || (decide (lw_tbl[mJx.getD k 0]? = some (Cond.selects (mY k).cls (mY k) (mY k))) && goodWord (Cond.selects (mY k).cls (mY k) (mY k))))) = true := by decide +kernel
set_option maxRecDepth 20000 in
theorem gn_24 : ∀ k, k < 48 → 24 ≤ k → (if mS k = true then decide (lw_tbl[mIx.getD k 0]? = some (Cond.static (mY k))) && goodWord (Cond.static (mY k)) else decide (lw_tbl[mIx.getD k 0]? = some (Cond.instanceMethod (mY k))) && goodWord (Cond.instanceMethod (mY k)) && (mI k || (decide (lw_tbl[mJx.getD k 0]? = some (Cond.selects (mY k).cls (mY k) (mY k))) && goodWord (Cond.selects (mY k).cls (mY k) (mY k))))) = true := by decide +kernel
set_option maxRecDepth 20000 in
theorem gn_48 : ∀ k, k < 72 → 48 ≤ k → (if mS k = true then decide (lw_tbl[mIx.getD k 0]? = some (Cond.static (mY k))) && goodWord (Cond.static (mY k)) else decide (lw_tbl[mIx.getD k 0]? = some (Cond.instanceMethod (mY k))) && goodWord (Cond.instanceMethod (mY k)) && (mI k || (decide (lw_tbl[mJx.getD k 0]? = some (Cond.selects (mY k).cls (mY k) (mY k))) && goodWord (Cond.selects (mY k).cls (mY k) (mY k))))) = true := by decide +kernel
set_option maxRecDepth 20000 in
theorem gn_72 : ∀ k, k < 96 → 72 ≤ k → (if mS k = true then decide (lw_tbl[mIx.getD k 0]? = some (Cond.static (mY k))) && goodWord (Cond.static (mY k)) else decide (lw_tbl[mIx.getD k 0]? = some (Cond.instanceMethod (mY k))) && goodWord (Cond.instanceMethod (mY k)) && (mI k || (decide (lw_tbl[mJx.getD k 0]? = some (Cond.selects (mY k).cls (mY k) (mY k))) && goodWord (Cond.selects (mY k).cls (mY k) (mY k))))) = true := by decide +kernel
set_option maxRecDepth 20000 in
theorem gn_96 : ∀ k, k < 120 → 96 ≤ k → (if mS k = true then decide (lw_tbl[mIx.getD k 0]? = some (Cond.static (mY k))) && goodWord (Cond.static (mY k)) else decide (lw_tbl[mIx.getD k 0]? = some (Cond.instanceMethod (mY k))) && goodWord (Cond.instanceMethod (mY k)) && (mI k || (decide (lw_tbl[mJx.getD k 0]? = some (Cond.selects (mY k).cls (mY k) (mY k))) && goodWord (Cond.selects (mY k).cls (mY k) (mY k))))) = true := by decide +kernel
set_option maxRecDepth 20000 in
theorem gn_120 : ∀ k, k < 144 → 120 ≤ k → (if mS k = true then decide (lw_tbl[mIx.getD k 0]? = some (Cond.static (mY k))) && goodWord (Cond.static (mY k)) else decide (lw_tbl[mIx.getD k 0]? = some (Cond.instanceMethod (mY k))) && goodWord (Cond.instanceMethod (mY k)) && (mI k || (decide (lw_tbl[mJx.getD k 0]? = some (Cond.selects (mY k).cls (mY k) (mY k))) && goodWord (Cond.selects (mY k).cls (mY k) (mY k))))) = true := by decide +kernel
set_option maxRecDepth 20000 in
theorem gn_144 : ∀ k, k < 168 → 144 ≤ k → (if mS k = true then decide (lw_tbl[mIx.getD k 0]? = some (Cond.static (mY k))) && goodWord (Cond.static (mY k)) else decide (lw_tbl[mIx.getD k 0]? = some (Cond.instanceMethod (mY k))) && goodWord (Cond.instanceMethod (mY k)) && (mI k || (decide (lw_tbl[mJx.getD k 0]? = some (Cond.selects (mY k).cls (mY k) (mY k))) && goodWord (Cond.selects (mY k).cls (mY k) (mY k))))) = true := by decide +kernel
set_option maxRecDepth 20000 in
theorem gn_168 : ∀ k, k < 172 → 168 ≤ k → (if mS k = true then decide (lw_tbl[mIx.getD k 0]? = some (Cond.static (mY k))) && goodWord (Cond.static (mY k)) else decide (lw_tbl[mIx.getD k 0]? = some (Cond.instanceMethod (mY k))) && goodWord (Cond.instanceMethod (mY k)) && (mI k || (decide (lw_tbl[mJx.getD k 0]? = some (Cond.selects (mY k).cls (mY k) (mY k))) && goodWord (Cond.selects (mY k).cls (mY k) (mY k))))) = true := by decide +kernel
theorem mY_ok : ∀ k, k < 172 → (mY k).cls = ownS (mO k) ∧ plainName (mY k).cls = true ∧ ((mY k).cls ≠ "java/lang/invoke/MethodHandle" ∧ (mY k).cls ≠ "java/lang/invoke/VarHandle") ∧ (parseMethodDescriptor (mY k).desc).map (fun d => d.parameters.length) = some (mA k - (if mS k = true then 0 else 1)) ∧ (mI k = decide ((mY k).name = "<init>")) ∧ (mS k = false → 1 ≤ mA k) ∧ mO k ≤ 17 := by decide +kernel
end
section
theorem gc_0_1 : Cond.methodLink (ownS 0) 1 (mY 157) ∈ gW := gWm (w := Cond.methodLink (ownS 0) 1 (mY 157)) 107 (by decide +kernel) (by decide +kernel)
theorem gc_0_66 : Cond.methodLink (ownS 0) 66 (mY 167) ∈ gW := gWm (w := Cond.methodLink (ownS 0) 66 (mY 167)) 378 (by decide +kernel) (by decide +kernel)
theorem gc_0_69 : Cond.methodLink (ownS 0) 69 (mY 159) ∈ gW := gWm (w := Cond.methodLink (ownS 0) 69 (mY 159)) 364 (by decide +kernel) (by decide +kernel)
theorem gc_0_73 : Cond.methodLink (ownS 0) 73 (mY 170) ∈ gW := gWm (w := Cond.methodLink (ownS 0) 73 (mY 170)) 368 (by decide +kernel) (by decide +kernel)
theorem gc_0_79 : Cond.methodLink (ownS 0) 79 Lib.Math.max.name ∈ gW := gWm (w := Cond.methodLink (ownS 0) 79 Lib.Math.max.name) 408 (by decide +kernel) (by decide +kernel)
theorem gc_0_118 : Cond.methodLink (ownS 0) 118 (mY 169) ∈ gW := gWm (w := Cond.methodLink (ownS 0) 118 (mY 169)) 274 (by decide +kernel) (by decide +kernel)
theorem gc_0_123 : Cond.methodLink (ownS 0) 123 (mY 162) ∈ gW := gWm (w := Cond.methodLink (ownS 0) 123 (mY 162)) 280 (by decide +kernel) (by decide +kernel)
theorem gc_0_129 : Cond.methodLink (ownS 0) 129 (mY 160) ∈ gW := gWm (w := Cond.methodLink (ownS 0) 129 (mY 160)) 360 (by decide +kernel) (by decide +kernel)
theorem gc_0_131 : Cond.methodLink (ownS 0) 131 (mY 165) ∈ gW := gWm (w := Cond.methodLink (ownS 0) 131 (mY 165)) 356 (by decide +kernel) (by decide +kernel)
theorem gc_1_3 : Cond.methodLink (ownS 1) 3 objectInit ∈ gW := gWm (w := Cond.methodLink (ownS 1) 3 objectInit) 800 (by decide +kernel) (by decide +kernel)
theorem gc_1_33 : Cond.methodLink (ownS 1) 33 (mY 3) ∈ gW := gWm (w := Cond.methodLink (ownS 1) 33 (mY 3)) 648 (by decide +kernel) (by decide +kernel)
theorem gc_1_37 : Cond.methodLink (ownS 1) 37 (mY 55) ∈ gW := gWm (w := Cond.methodLink (ownS 1) 37 (mY 55)) 422 (by decide +kernel) (by decide +kernel)
theorem gc_1_41 : Cond.methodLink (ownS 1) 41 (mY 1) ∈ gW := gWm (w := Cond.methodLink (ownS 1) 41 (mY 1)) 418 (by decide +kernel) (by decide +kernel)
theorem gc_2_3 : Cond.methodLink (ownS 2) 3 objectInit ∈ gW := gWm (w := Cond.methodLink (ownS 2) 3 objectInit) 133 (by decide +kernel) (by decide +kernel)
theorem gc_2_11 : Cond.methodLink (ownS 2) 11 (mY 158) ∈ gW := gWm (w := Cond.methodLink (ownS 2) 11 (mY 158)) 135 (by decide +kernel) (by decide +kernel)
theorem gc_2_36 : Cond.methodLink (ownS 2) 36 (mY 163) ∈ gW := gWm (w := Cond.methodLink (ownS 2) 36 (mY 163)) 308 (by decide +kernel) (by decide +kernel)
theorem gc_2_46 : Cond.methodLink (ownS 2) 46 (mY 161) ∈ gW := gWm (w := Cond.methodLink (ownS 2) 46 (mY 161)) 310 (by decide +kernel) (by decide +kernel)
theorem gc_2_50 : Cond.methodLink (ownS 2) 50 (mY 38) ∈ gW := gWm (w := Cond.methodLink (ownS 2) 50 (mY 38)) 312 (by decide +kernel) (by decide +kernel)
theorem gc_2_53 : Cond.methodLink (ownS 2) 53 (mY 166) ∈ gW := gWm (w := Cond.methodLink (ownS 2) 53 (mY 166)) 352 (by decide +kernel) (by decide +kernel)
theorem gc_2_57 : Cond.methodLink (ownS 2) 57 (mY 39) ∈ gW := gWm (w := Cond.methodLink (ownS 2) 57 (mY 39)) 410 (by decide +kernel) (by decide +kernel)
theorem gc_2_60 : Cond.methodLink (ownS 2) 60 (mY 40) ∈ gW := gWm (w := Cond.methodLink (ownS 2) 60 (mY 40)) 561 (by decide +kernel) (by decide +kernel)
theorem gc_2_68 : Cond.methodLink (ownS 2) 68 (mY 64) ∈ gW := gWm (w := Cond.methodLink (ownS 2) 68 (mY 64)) 584 (by decide +kernel) (by decide +kernel)
theorem gc_2_74 : Cond.methodLink (ownS 2) 74 (mY 164) ∈ gW := gWm (w := Cond.methodLink (ownS 2) 74 (mY 164)) 585 (by decide +kernel) (by decide +kernel)
theorem gc_2_78 : Cond.methodLink (ownS 2) 78 (mY 12) ∈ gW := gWm (w := Cond.methodLink (ownS 2) 78 (mY 12)) 593 (by decide +kernel) (by decide +kernel)
theorem gc_2_82 : Cond.methodLink (ownS 2) 82 (mY 43) ∈ gW := gWm (w := Cond.methodLink (ownS 2) 82 (mY 43)) 602 (by decide +kernel) (by decide +kernel)
theorem gc_2_86 : Cond.methodLink (ownS 2) 86 (mY 42) ∈ gW := gWm (w := Cond.methodLink (ownS 2) 86 (mY 42)) 597 (by decide +kernel) (by decide +kernel)
theorem gc_2_95 : Cond.methodLink (ownS 2) 95 (mY 55) ∈ gW := gWm (w := Cond.methodLink (ownS 2) 95 (mY 55)) 653 (by decide +kernel) (by decide +kernel)
theorem gc_2_99 : Cond.methodLink (ownS 2) 99 (mY 14) ∈ gW := gWm (w := Cond.methodLink (ownS 2) 99 (mY 14)) 654 (by decide +kernel) (by decide +kernel)
theorem gc_2_102 : Cond.methodLink (ownS 2) 102 (mY 65) ∈ gW := gWm (w := Cond.methodLink (ownS 2) 102 (mY 65)) 658 (by decide +kernel) (by decide +kernel)
theorem gc_2_114 : Cond.methodLink (ownS 2) 114 (mY 2) ∈ gW := gWm (w := Cond.methodLink (ownS 2) 114 (mY 2)) 718 (by decide +kernel) (by decide +kernel)
theorem gc_3_1 : Cond.methodLink (ownS 3) 1 objectInit ∈ gW := gWm (w := Cond.methodLink (ownS 3) 1 objectInit) 189 (by decide +kernel) (by decide +kernel)
theorem gc_4_3 : Cond.methodLink (ownS 4) 3 objectInit ∈ gW := gWm (w := Cond.methodLink (ownS 4) 3 objectInit) 179 (by decide +kernel) (by decide +kernel)
theorem gc_4_31 : Cond.methodLink (ownS 4) 31 (mY 158) ∈ gW := gWm (w := Cond.methodLink (ownS 4) 31 (mY 158)) 183 (by decide +kernel) (by decide +kernel)
theorem gc_4_46 : Cond.methodLink (ownS 4) 46 (mY 54) ∈ gW := gWm (w := Cond.methodLink (ownS 4) 46 (mY 54)) 427 (by decide +kernel) (by decide +kernel)
theorem gc_4_50 : Cond.methodLink (ownS 4) 50 (mY 56) ∈ gW := gWm (w := Cond.methodLink (ownS 4) 50 (mY 56)) 431 (by decide +kernel) (by decide +kernel)
theorem gc_4_54 : Cond.methodLink (ownS 4) 54 (mY 21) ∈ gW := gWm (w := Cond.methodLink (ownS 4) 54 (mY 21)) 435 (by decide +kernel) (by decide +kernel)
theorem gc_4_58 : Cond.methodLink (ownS 4) 58 (mY 22) ∈ gW := gWm (w := Cond.methodLink (ownS 4) 58 (mY 22)) 439 (by decide +kernel) (by decide +kernel)
theorem gc_4_62 : Cond.methodLink (ownS 4) 62 (mY 23) ∈ gW := gWm (w := Cond.methodLink (ownS 4) 62 (mY 23)) 443 (by decide +kernel) (by decide +kernel)
theorem gc_4_65 : Cond.methodLink (ownS 4) 65 (mY 24) ∈ gW := gWm (w := Cond.methodLink (ownS 4) 65 (mY 24)) 447 (by decide +kernel) (by decide +kernel)
theorem gc_4_69 : Cond.methodLink (ownS 4) 69 (mY 25) ∈ gW := gWm (w := Cond.methodLink (ownS 4) 69 (mY 25)) 454 (by decide +kernel) (by decide +kernel)
theorem gc_4_73 : Cond.methodLink (ownS 4) 73 (mY 26) ∈ gW := gWm (w := Cond.methodLink (ownS 4) 73 (mY 26)) 469 (by decide +kernel) (by decide +kernel)
theorem gc_4_77 : Cond.methodLink (ownS 4) 77 (mY 161) ∈ gW := gWm (w := Cond.methodLink (ownS 4) 77 (mY 161)) 451 (by decide +kernel) (by decide +kernel)
theorem gc_4_78 : Cond.methodLink (ownS 4) 78 (mY 166) ∈ gW := gWm (w := Cond.methodLink (ownS 4) 78 (mY 166)) 452 (by decide +kernel) (by decide +kernel)
theorem gc_4_82 : Cond.methodLink (ownS 4) 82 (mY 163) ∈ gW := gWm (w := Cond.methodLink (ownS 4) 82 (mY 163)) 453 (by decide +kernel) (by decide +kernel)
theorem gc_4_86 : Cond.methodLink (ownS 4) 86 (mY 27) ∈ gW := gWm (w := Cond.methodLink (ownS 4) 86 (mY 27)) 458 (by decide +kernel) (by decide +kernel)
theorem gc_4_105 : Cond.methodLink (ownS 4) 105 (mY 28) ∈ gW := gWm (w := Cond.methodLink (ownS 4) 105 (mY 28)) 462 (by decide +kernel) (by decide +kernel)
theorem gc_4_111 : Cond.methodLink (ownS 4) 111 (mY 29) ∈ gW := gWm (w := Cond.methodLink (ownS 4) 111 (mY 29)) 485 (by decide +kernel) (by decide +kernel)
theorem gc_4_115 : Cond.methodLink (ownS 4) 115 (mY 17) ∈ gW := gWm (w := Cond.methodLink (ownS 4) 115 (mY 17)) 628 (by decide +kernel) (by decide +kernel)
theorem gc_4_119 : Cond.methodLink (ownS 4) 119 (mY 34) ∈ gW := gWm (w := Cond.methodLink (ownS 4) 119 (mY 34)) 489 (by decide +kernel) (by decide +kernel)
theorem gc_4_123 : Cond.methodLink (ownS 4) 123 (mY 57) ∈ gW := gWm (w := Cond.methodLink (ownS 4) 123 (mY 57)) 494 (by decide +kernel) (by decide +kernel)
theorem gc_4_127 : Cond.methodLink (ownS 4) 127 Lib.Math.max.name ∈ gW := gWm (w := Cond.methodLink (ownS 4) 127 Lib.Math.max.name) 493 (by decide +kernel) (by decide +kernel)
theorem gc_4_137 : Cond.methodLink (ownS 4) 137 (mY 59) ∈ gW := gWm (w := Cond.methodLink (ownS 4) 137 (mY 59)) 691 (by decide +kernel) (by decide +kernel)
theorem gc_4_141 : Cond.methodLink (ownS 4) 141 (mY 31) ∈ gW := gWm (w := Cond.methodLink (ownS 4) 141 (mY 31)) 692 (by decide +kernel) (by decide +kernel)
theorem gc_4_145 : Cond.methodLink (ownS 4) 145 (mY 30) ∈ gW := gWm (w := Cond.methodLink (ownS 4) 145 (mY 30)) 693 (by decide +kernel) (by decide +kernel)
theorem gc_4_147 : Cond.methodLink (ownS 4) 147 (mY 33) ∈ gW := gWm (w := Cond.methodLink (ownS 4) 147 (mY 33)) 694 (by decide +kernel) (by decide +kernel)
theorem gc_5_3 : Cond.methodLink (ownS 5) 3 objectInit ∈ gW := gWm (w := Cond.methodLink (ownS 5) 3 objectInit) 315 (by decide +kernel) (by decide +kernel)
theorem gc_5_45 : Cond.methodLink (ownS 5) 45 (mY 3) ∈ gW := gWm (w := Cond.methodLink (ownS 5) 45 (mY 3)) 414 (by decide +kernel) (by decide +kernel)
theorem gc_5_51 : Cond.methodLink (ownS 5) 51 (mY 20) ∈ gW := gWm (w := Cond.methodLink (ownS 5) 51 (mY 20)) 423 (by decide +kernel) (by decide +kernel)
theorem gc_5_55 : Cond.methodLink (ownS 5) 55 (mY 53) ∈ gW := gWm (w := Cond.methodLink (ownS 5) 55 (mY 53)) 473 (by decide +kernel) (by decide +kernel)
theorem gc_5_58 : Cond.methodLink (ownS 5) 58 (mY 19) ∈ gW := gWm (w := Cond.methodLink (ownS 5) 58 (mY 19)) 477 (by decide +kernel) (by decide +kernel)
theorem gc_5_62 : Cond.methodLink (ownS 5) 62 (mY 32) ∈ gW := gWm (w := Cond.methodLink (ownS 5) 62 (mY 32)) 481 (by decide +kernel) (by decide +kernel)
theorem gc_5_66 : Cond.methodLink (ownS 5) 66 (mY 63) ∈ gW := gWm (w := Cond.methodLink (ownS 5) 66 (mY 63)) 499 (by decide +kernel) (by decide +kernel)
theorem gc_5_69 : Cond.methodLink (ownS 5) 69 (mY 33) ∈ gW := gWm (w := Cond.methodLink (ownS 5) 69 (mY 33)) 553 (by decide +kernel) (by decide +kernel)
theorem gc_5_72 : Cond.methodLink (ownS 5) 72 (mY 41) ∈ gW := gWm (w := Cond.methodLink (ownS 5) 72 (mY 41)) 565 (by decide +kernel) (by decide +kernel)
theorem gc_5_75 : Cond.methodLink (ownS 5) 75 (mY 35) ∈ gW := gWm (w := Cond.methodLink (ownS 5) 75 (mY 35)) 580 (by decide +kernel) (by decide +kernel)
theorem gc_5_78 : Cond.methodLink (ownS 5) 78 (mY 60) ∈ gW := gWm (w := Cond.methodLink (ownS 5) 78 (mY 60)) 569 (by decide +kernel) (by decide +kernel)
theorem gc_5_81 : Cond.methodLink (ownS 5) 81 (mY 57) ∈ gW := gWm (w := Cond.methodLink (ownS 5) 81 (mY 57)) 579 (by decide +kernel) (by decide +kernel)
theorem gc_5_85 : Cond.methodLink (ownS 5) 85 (mY 65) ∈ gW := gWm (w := Cond.methodLink (ownS 5) 85 (mY 65)) 601 (by decide +kernel) (by decide +kernel)
theorem gc_5_89 : Cond.methodLink (ownS 5) 89 (mY 44) ∈ gW := gWm (w := Cond.methodLink (ownS 5) 89 (mY 44)) 606 (by decide +kernel) (by decide +kernel)
theorem gc_5_92 : Cond.methodLink (ownS 5) 92 (mY 45) ∈ gW := gWm (w := Cond.methodLink (ownS 5) 92 (mY 45)) 620 (by decide +kernel) (by decide +kernel)
theorem gc_5_99 : Cond.methodLink (ownS 5) 99 (mY 61) ∈ gW := gWm (w := Cond.methodLink (ownS 5) 99 (mY 61)) 610 (by decide +kernel) (by decide +kernel)
theorem gc_5_103 : Cond.methodLink (ownS 5) 103 (mY 58) ∈ gW := gWm (w := Cond.methodLink (ownS 5) 103 (mY 58)) 611 (by decide +kernel) (by decide +kernel)
theorem gc_5_106 : Cond.methodLink (ownS 5) 106 (mY 37) ∈ gW := gWm (w := Cond.methodLink (ownS 5) 106 (mY 37)) 615 (by decide +kernel) (by decide +kernel)
theorem gc_5_109 : Cond.methodLink (ownS 5) 109 (mY 54) ∈ gW := gWm (w := Cond.methodLink (ownS 5) 109 (mY 54)) 619 (by decide +kernel) (by decide +kernel)
theorem gc_5_110 : Cond.methodLink (ownS 5) 110 (mY 30) ∈ gW := gWm (w := Cond.methodLink (ownS 5) 110 (mY 30)) 624 (by decide +kernel) (by decide +kernel)
theorem gc_5_114 : Cond.methodLink (ownS 5) 114 (mY 31) ∈ gW := gWm (w := Cond.methodLink (ownS 5) 114 (mY 31)) 632 (by decide +kernel) (by decide +kernel)
theorem gc_5_119 : Cond.methodLink (ownS 5) 119 (mY 59) ∈ gW := gWm (w := Cond.methodLink (ownS 5) 119 (mY 59)) 637 (by decide +kernel) (by decide +kernel)
theorem gc_5_125 : Cond.methodLink (ownS 5) 125 (mY 2) ∈ gW := gWm (w := Cond.methodLink (ownS 5) 125 (mY 2)) 644 (by decide +kernel) (by decide +kernel)
theorem gc_5_128 : Cond.methodLink (ownS 5) 128 (mY 47) ∈ gW := gWm (w := Cond.methodLink (ownS 5) 128 (mY 47)) 671 (by decide +kernel) (by decide +kernel)
theorem gc_5_132 : Cond.methodLink (ownS 5) 132 (mY 48) ∈ gW := gWm (w := Cond.methodLink (ownS 5) 132 (mY 48)) 679 (by decide +kernel) (by decide +kernel)
theorem gc_5_135 : Cond.methodLink (ownS 5) 135 (mY 36) ∈ gW := gWm (w := Cond.methodLink (ownS 5) 135 (mY 36)) 685 (by decide +kernel) (by decide +kernel)
theorem gc_5_140 : Cond.methodLink (ownS 5) 140 (mY 49) ∈ gW := gWm (w := Cond.methodLink (ownS 5) 140 (mY 49)) 697 (by decide +kernel) (by decide +kernel)
theorem gc_5_144 : Cond.methodLink (ownS 5) 144 (mY 50) ∈ gW := gWm (w := Cond.methodLink (ownS 5) 144 (mY 50)) 701 (by decide +kernel) (by decide +kernel)
theorem gc_5_147 : Cond.methodLink (ownS 5) 147 (mY 62) ∈ gW := gWm (w := Cond.methodLink (ownS 5) 147 (mY 62)) 675 (by decide +kernel) (by decide +kernel)
theorem gc_5_159 : Cond.methodLink (ownS 5) 159 (mY 51) ∈ gW := gWm (w := Cond.methodLink (ownS 5) 159 (mY 51)) 706 (by decide +kernel) (by decide +kernel)
theorem gc_6_1 : Cond.methodLink (ownS 6) 1 objectInit ∈ gW := gWm (w := Cond.methodLink (ownS 6) 1 objectInit) 165 (by decide +kernel) (by decide +kernel)
theorem gc_6_17 : Cond.methodLink (ownS 6) 17 arraycopyName ∈ gW := gWm (w := Cond.methodLink (ownS 6) 17 arraycopyName) 498 (by decide +kernel) (by decide +kernel)
theorem gc_6_23 : Cond.methodLink (ownS 6) 23 (mY 150) ∈ gW := gWm (w := Cond.methodLink (ownS 6) 23 (mY 150)) 641 (by decide +kernel) (by decide +kernel)
theorem gc_6_28 : Cond.methodLink (ownS 6) 28 (mY 151) ∈ gW := gWm (w := Cond.methodLink (ownS 6) 28 (mY 151)) 642 (by decide +kernel) (by decide +kernel)
theorem gc_6_32 : Cond.methodLink (ownS 6) 32 (mY 57) ∈ gW := gWm (w := Cond.methodLink (ownS 6) 32 (mY 57)) 578 (by decide +kernel) (by decide +kernel)
theorem gc_6_36 : Cond.methodLink (ownS 6) 36 (mY 61) ∈ gW := gWm (w := Cond.methodLink (ownS 6) 36 (mY 61)) 573 (by decide +kernel) (by decide +kernel)
theorem gc_6_40 : Cond.methodLink (ownS 6) 40 Lib.Math.max.name ∈ gW := gWm (w := Cond.methodLink (ownS 6) 40 Lib.Math.max.name) 577 (by decide +kernel) (by decide +kernel)
theorem gc_6_52 : Cond.methodLink (ownS 6) 52 Lib.Math.min.name ∈ gW := gWm (w := Cond.methodLink (ownS 6) 52 Lib.Math.min.name) 301 (by decide +kernel) (by decide +kernel)
theorem gc_6_55 : Cond.methodLink (ownS 6) 55 (mY 64) ∈ gW := gWm (w := Cond.methodLink (ownS 6) 55 (mY 64)) 297 (by decide +kernel) (by decide +kernel)
theorem gc_7_3 : Cond.methodLink (ownS 7) 3 objectInit ∈ gW := gWm (w := Cond.methodLink (ownS 7) 3 objectInit) 99 (by decide +kernel) (by decide +kernel)
theorem gc_7_11 : Cond.methodLink (ownS 7) 11 (mY 158) ∈ gW := gWm (w := Cond.methodLink (ownS 7) 11 (mY 158)) 104 (by decide +kernel) (by decide +kernel)
theorem gc_7_50 : Cond.methodLink (ownS 7) 50 (mY 161) ∈ gW := gWm (w := Cond.methodLink (ownS 7) 50 (mY 161)) 266 (by decide +kernel) (by decide +kernel)
theorem gc_7_63 : Cond.methodLink (ownS 7) 63 (mY 0) ∈ gW := gWm (w := Cond.methodLink (ownS 7) 63 (mY 0)) 797 (by decide +kernel) (by decide +kernel)
theorem gc_7_66 : Cond.methodLink (ownS 7) 66 (mY 166) ∈ gW := gWm (w := Cond.methodLink (ownS 7) 66 (mY 166)) 827 (by decide +kernel) (by decide +kernel)
theorem gc_7_70 : Cond.methodLink (ownS 7) 70 (mY 81) ∈ gW := gWm (w := Cond.methodLink (ownS 7) 70 (mY 81)) 837 (by decide +kernel) (by decide +kernel)
theorem gc_7_77 : Cond.methodLink (ownS 7) 77 (mY 86) ∈ gW := gWm (w := Cond.methodLink (ownS 7) 77 (mY 86)) 857 (by decide +kernel) (by decide +kernel)
theorem gc_7_86 : Cond.methodLink (ownS 7) 86 (mY 1) ∈ gW := gWm (w := Cond.methodLink (ownS 7) 86 (mY 1)) 909 (by decide +kernel) (by decide +kernel)
theorem gc_7_92 : Cond.methodLink (ownS 7) 92 (mY 4) ∈ gW := gWm (w := Cond.methodLink (ownS 7) 92 (mY 4)) 925 (by decide +kernel) (by decide +kernel)
theorem gc_7_105 : Cond.methodLink (ownS 7) 105 (mY 8) ∈ gW := gWm (w := Cond.methodLink (ownS 7) 105 (mY 8)) 262 (by decide +kernel) (by decide +kernel)
theorem gc_7_108 : Cond.methodLink (ownS 7) 108 (mY 163) ∈ gW := gWm (w := Cond.methodLink (ownS 7) 108 (mY 163)) 270 (by decide +kernel) (by decide +kernel)
theorem gc_7_112 : Cond.methodLink (ownS 7) 112 (mY 83) ∈ gW := gWm (w := Cond.methodLink (ownS 7) 112 (mY 83)) 285 (by decide +kernel) (by decide +kernel)
theorem gc_7_116 : Cond.methodLink (ownS 7) 116 (mY 9) ∈ gW := gWm (w := Cond.methodLink (ownS 7) 116 (mY 9)) 304 (by decide +kernel) (by decide +kernel)
theorem gc_7_120 : Cond.methodLink (ownS 7) 120 (mY 10) ∈ gW := gWm (w := Cond.methodLink (ownS 7) 120 (mY 10)) 557 (by decide +kernel) (by decide +kernel)
theorem gc_7_124 : Cond.methodLink (ownS 7) 124 (mY 11) ∈ gW := gWm (w := Cond.methodLink (ownS 7) 124 (mY 11)) 589 (by decide +kernel) (by decide +kernel)
theorem gc_7_127 : Cond.methodLink (ownS 7) 127 (mY 13) ∈ gW := gWm (w := Cond.methodLink (ownS 7) 127 (mY 13)) 649 (by decide +kernel) (by decide +kernel)
theorem gc_7_130 : Cond.methodLink (ownS 7) 130 (mY 6) ∈ gW := gWm (w := Cond.methodLink (ownS 7) 130 (mY 6)) 659 (by decide +kernel) (by decide +kernel)
theorem gc_7_131 : Cond.methodLink (ownS 7) 131 (mY 7) ∈ gW := gWm (w := Cond.methodLink (ownS 7) 131 (mY 7)) 663 (by decide +kernel) (by decide +kernel)
theorem gc_7_134 : Cond.methodLink (ownS 7) 134 (mY 46) ∈ gW := gWm (w := Cond.methodLink (ownS 7) 134 (mY 46)) 667 (by decide +kernel) (by decide +kernel)
theorem gc_7_139 : Cond.methodLink (ownS 7) 139 (mY 15) ∈ gW := gWm (w := Cond.methodLink (ownS 7) 139 (mY 15)) 712 (by decide +kernel) (by decide +kernel)
theorem gc_7_142 : Cond.methodLink (ownS 7) 142 (mY 82) ∈ gW := gWm (w := Cond.methodLink (ownS 7) 142 (mY 82)) 944 (by decide +kernel) (by decide +kernel)
theorem gc_7_154 : Cond.methodLink (ownS 7) 154 (mY 3) ∈ gW := gWm (w := Cond.methodLink (ownS 7) 154 (mY 3)) 963 (by decide +kernel) (by decide +kernel)
theorem gc_7_157 : Cond.methodLink (ownS 7) 157 (mY 20) ∈ gW := gWm (w := Cond.methodLink (ownS 7) 157 (mY 20)) 964 (by decide +kernel) (by decide +kernel)
theorem gc_7_161 : Cond.methodLink (ownS 7) 161 (mY 19) ∈ gW := gWm (w := Cond.methodLink (ownS 7) 161 (mY 19)) 965 (by decide +kernel) (by decide +kernel)
theorem gc_7_164 : Cond.methodLink (ownS 7) 164 (mY 53) ∈ gW := gWm (w := Cond.methodLink (ownS 7) 164 (mY 53)) 967 (by decide +kernel) (by decide +kernel)
theorem gc_7_167 : Cond.methodLink (ownS 7) 167 (mY 33) ∈ gW := gWm (w := Cond.methodLink (ownS 7) 167 (mY 33)) 968 (by decide +kernel) (by decide +kernel)
theorem gc_7_171 : Cond.methodLink (ownS 7) 171 (mY 54) ∈ gW := gWm (w := Cond.methodLink (ownS 7) 171 (mY 54)) 882 (by decide +kernel) (by decide +kernel)
theorem gc_7_172 : Cond.methodLink (ownS 7) 172 (mY 85) ∈ gW := gWm (w := Cond.methodLink (ownS 7) 172 (mY 85)) 969 (by decide +kernel) (by decide +kernel)
theorem gc_7_188 : Cond.methodLink (ownS 7) 188 (mY 84) ∈ gW := gWm (w := Cond.methodLink (ownS 7) 188 (mY 84)) 989 (by decide +kernel) (by decide +kernel)
theorem gc_7_194 : Cond.methodLink (ownS 7) 194 (mY 60) ∈ gW := gWm (w := Cond.methodLink (ownS 7) 194 (mY 60)) 997 (by decide +kernel) (by decide +kernel)
theorem gc_7_206 : Cond.methodLink (ownS 7) 206 (mY 55) ∈ gW := gWm (w := Cond.methodLink (ownS 7) 206 (mY 55)) 289 (by decide +kernel) (by decide +kernel)
theorem gc_7_210 : Cond.methodLink (ownS 7) 210 (mY 65) ∈ gW := gWm (w := Cond.methodLink (ownS 7) 210 (mY 65)) 293 (by decide +kernel) (by decide +kernel)
theorem gc_7_222 : Cond.methodLink (ownS 7) 222 (mY 59) ∈ gW := gWm (w := Cond.methodLink (ownS 7) 222 (mY 59)) 995 (by decide +kernel) (by decide +kernel)
theorem gc_7_225 : Cond.methodLink (ownS 7) 225 (mY 62) ∈ gW := gWm (w := Cond.methodLink (ownS 7) 225 (mY 62)) 996 (by decide +kernel) (by decide +kernel)
theorem gc_7_228 : Cond.methodLink (ownS 7) 228 (mY 57) ∈ gW := gWm (w := Cond.methodLink (ownS 7) 228 (mY 57)) 884 (by decide +kernel) (by decide +kernel)
theorem gc_7_233 : Cond.methodLink (ownS 7) 233 (mY 56) ∈ gW := gWm (w := Cond.methodLink (ownS 7) 233 (mY 56)) 973 (by decide +kernel) (by decide +kernel)
theorem gc_7_237 : Cond.methodLink (ownS 7) 237 (mY 87) ∈ gW := gWm (w := Cond.methodLink (ownS 7) 237 (mY 87)) 860 (by decide +kernel) (by decide +kernel)
theorem gc_7_241 : Cond.methodLink (ownS 7) 241 (mY 88) ∈ gW := gWm (w := Cond.methodLink (ownS 7) 241 (mY 88)) 863 (by decide +kernel) (by decide +kernel)
theorem gc_7_251 : Cond.methodLink (ownS 7) 251 (mY 150) ∈ gW := gWm (w := Cond.methodLink (ownS 7) 251 (mY 150)) 507 (by decide +kernel) (by decide +kernel)
theorem gc_7_256 : Cond.methodLink (ownS 7) 256 (mY 151) ∈ gW := gWm (w := Cond.methodLink (ownS 7) 256 (mY 151)) 517 (by decide +kernel) (by decide +kernel)
theorem gc_8_1 : Cond.methodLink (ownS 8) 1 objectInit ∈ gW := gWm (w := Cond.methodLink (ownS 8) 1 objectInit) 1018 (by decide +kernel) (by decide +kernel)
theorem gc_8_92 : Cond.methodLink (ownS 8) 92 (mY 95) ∈ gW := gWm (w := Cond.methodLink (ownS 8) 92 (mY 95)) 1149 (by decide +kernel) (by decide +kernel)
theorem gc_8_96 : Cond.methodLink (ownS 8) 96 (mY 96) ∈ gW := gWm (w := Cond.methodLink (ownS 8) 96 (mY 96)) 1146 (by decide +kernel) (by decide +kernel)
theorem gc_8_100 : Cond.methodLink (ownS 8) 100 (mY 93) ∈ gW := gWm (w := Cond.methodLink (ownS 8) 100 (mY 93)) 1152 (by decide +kernel) (by decide +kernel)
theorem gc_8_103 : Cond.methodLink (ownS 8) 103 (mY 97) ∈ gW := gWm (w := Cond.methodLink (ownS 8) 103 (mY 97)) 1156 (by decide +kernel) (by decide +kernel)
theorem gc_8_119 : Cond.methodLink (ownS 8) 119 (mY 106) ∈ gW := gWm (w := Cond.methodLink (ownS 8) 119 (mY 106)) 1211 (by decide +kernel) (by decide +kernel)
theorem gc_8_122 : Cond.methodLink (ownS 8) 122 (mY 107) ∈ gW := gWm (w := Cond.methodLink (ownS 8) 122 (mY 107)) 1207 (by decide +kernel) (by decide +kernel)
theorem gc_8_125 : Cond.methodLink (ownS 8) 125 (mY 103) ∈ gW := gWm (w := Cond.methodLink (ownS 8) 125 (mY 103)) 1199 (by decide +kernel) (by decide +kernel)
theorem gc_8_129 : Cond.methodLink (ownS 8) 129 (mY 109) ∈ gW := gWm (w := Cond.methodLink (ownS 8) 129 (mY 109)) 1203 (by decide +kernel) (by decide +kernel)
theorem gc_8_133 : Cond.methodLink (ownS 8) 133 (mY 108) ∈ gW := gWm (w := Cond.methodLink (ownS 8) 133 (mY 108)) 1214 (by decide +kernel) (by decide +kernel)
theorem gc_8_141 : Cond.methodLink (ownS 8) 141 (mY 111) ∈ gW := gWm (w := Cond.methodLink (ownS 8) 141 (mY 111)) 1226 (by decide +kernel) (by decide +kernel)
theorem gc_8_145 : Cond.methodLink (ownS 8) 145 (mY 115) ∈ gW := gWm (w := Cond.methodLink (ownS 8) 145 (mY 115)) 1222 (by decide +kernel) (by decide +kernel)
theorem gc_8_149 : Cond.methodLink (ownS 8) 149 (mY 116) ∈ gW := gWm (w := Cond.methodLink (ownS 8) 149 (mY 116)) 1273 (by decide +kernel) (by decide +kernel)
theorem gc_8_156 : Cond.methodLink (ownS 8) 156 (mY 105) ∈ gW := gWm (w := Cond.methodLink (ownS 8) 156 (mY 105)) 1238 (by decide +kernel) (by decide +kernel)
theorem gc_8_159 : Cond.methodLink (ownS 8) 159 (mY 119) ∈ gW := gWm (w := Cond.methodLink (ownS 8) 159 (mY 119)) 1230 (by decide +kernel) (by decide +kernel)
theorem gc_8_162 : Cond.methodLink (ownS 8) 162 (mY 120) ∈ gW := gWm (w := Cond.methodLink (ownS 8) 162 (mY 120)) 1234 (by decide +kernel) (by decide +kernel)
theorem gc_8_166 : Cond.methodLink (ownS 8) 166 (mY 110) ∈ gW := gWm (w := Cond.methodLink (ownS 8) 166 (mY 110)) 1195 (by decide +kernel) (by decide +kernel)
theorem gc_8_170 : Cond.methodLink (ownS 8) 170 (mY 121) ∈ gW := gWm (w := Cond.methodLink (ownS 8) 170 (mY 121)) 1218 (by decide +kernel) (by decide +kernel)
theorem gc_8_173 : Cond.methodLink (ownS 8) 173 (mY 113) ∈ gW := gWm (w := Cond.methodLink (ownS 8) 173 (mY 113)) 1245 (by decide +kernel) (by decide +kernel)
theorem gc_8_176 : Cond.methodLink (ownS 8) 176 (mY 122) ∈ gW := gWm (w := Cond.methodLink (ownS 8) 176 (mY 122)) 1191 (by decide +kernel) (by decide +kernel)
theorem gc_8_179 : Cond.methodLink (ownS 8) 179 (mY 123) ∈ gW := gWm (w := Cond.methodLink (ownS 8) 179 (mY 123)) 1241 (by decide +kernel) (by decide +kernel)
theorem gc_8_186 : Cond.methodLink (ownS 8) 186 (mY 104) ∈ gW := gWm (w := Cond.methodLink (ownS 8) 186 (mY 104)) 1183 (by decide +kernel) (by decide +kernel)
theorem gc_8_189 : Cond.methodLink (ownS 8) 189 (mY 124) ∈ gW := gWm (w := Cond.methodLink (ownS 8) 189 (mY 124)) 1187 (by decide +kernel) (by decide +kernel)
theorem gc_8_192 : Cond.methodLink (ownS 8) 192 (mY 118) ∈ gW := gWm (w := Cond.methodLink (ownS 8) 192 (mY 118)) 1257 (by decide +kernel) (by decide +kernel)
theorem gc_8_195 : Cond.methodLink (ownS 8) 195 (mY 114) ∈ gW := gWm (w := Cond.methodLink (ownS 8) 195 (mY 114)) 1265 (by decide +kernel) (by decide +kernel)
theorem gc_8_198 : Cond.methodLink (ownS 8) 198 (mY 117) ∈ gW := gWm (w := Cond.methodLink (ownS 8) 198 (mY 117)) 1277 (by decide +kernel) (by decide +kernel)
theorem gc_8_203 : Cond.methodLink (ownS 8) 203 (mY 112) ∈ gW := gWm (w := Cond.methodLink (ownS 8) 203 (mY 112)) 1282 (by decide +kernel) (by decide +kernel)
theorem gc_8_209 : Cond.methodLink (ownS 8) 209 (mY 126) ∈ gW := gWm (w := Cond.methodLink (ownS 8) 209 (mY 126)) 1253 (by decide +kernel) (by decide +kernel)
theorem gc_8_212 : Cond.methodLink (ownS 8) 212 (mY 127) ∈ gW := gWm (w := Cond.methodLink (ownS 8) 212 (mY 127)) 1261 (by decide +kernel) (by decide +kernel)
theorem gc_8_215 : Cond.methodLink (ownS 8) 215 (mY 128) ∈ gW := gWm (w := Cond.methodLink (ownS 8) 215 (mY 128)) 1269 (by decide +kernel) (by decide +kernel)
theorem gc_8_219 : Cond.methodLink (ownS 8) 219 (mY 130) ∈ gW := gWm (w := Cond.methodLink (ownS 8) 219 (mY 130)) 1292 (by decide +kernel) (by decide +kernel)
theorem gc_8_226 : Cond.methodLink (ownS 8) 226 (mY 132) ∈ gW := gWm (w := Cond.methodLink (ownS 8) 226 (mY 132)) 1308 (by decide +kernel) (by decide +kernel)
theorem gc_8_229 : Cond.methodLink (ownS 8) 229 (mY 133) ∈ gW := gWm (w := Cond.methodLink (ownS 8) 229 (mY 133)) 1312 (by decide +kernel) (by decide +kernel)
theorem gc_8_234 : Cond.methodLink (ownS 8) 234 (mY 135) ∈ gW := gWm (w := Cond.methodLink (ownS 8) 234 (mY 135)) 1317 (by decide +kernel) (by decide +kernel)
theorem gc_8_241 : Cond.methodLink (ownS 8) 241 (mY 137) ∈ gW := gWm (w := Cond.methodLink (ownS 8) 241 (mY 137)) 1300 (by decide +kernel) (by decide +kernel)
theorem gc_8_244 : Cond.methodLink (ownS 8) 244 (mY 134) ∈ gW := gWm (w := Cond.methodLink (ownS 8) 244 (mY 134)) 1304 (by decide +kernel) (by decide +kernel)
theorem gc_8_247 : Cond.methodLink (ownS 8) 247 (mY 136) ∈ gW := gWm (w := Cond.methodLink (ownS 8) 247 (mY 136)) 1321 (by decide +kernel) (by decide +kernel)
theorem gc_8_253 : Cond.methodLink (ownS 8) 253 (mY 139) ∈ gW := gWm (w := Cond.methodLink (ownS 8) 253 (mY 139)) 1331 (by decide +kernel) (by decide +kernel)
theorem gc_8_256 : Cond.methodLink (ownS 8) 256 (mY 125) ∈ gW := gWm (w := Cond.methodLink (ownS 8) 256 (mY 125)) 1179 (by decide +kernel) (by decide +kernel)
theorem gc_8_259 : Cond.methodLink (ownS 8) 259 (mY 129) ∈ gW := gWm (w := Cond.methodLink (ownS 8) 259 (mY 129)) 1249 (by decide +kernel) (by decide +kernel)
theorem gc_8_262 : Cond.methodLink (ownS 8) 262 (mY 131) ∈ gW := gWm (w := Cond.methodLink (ownS 8) 262 (mY 131)) 1288 (by decide +kernel) (by decide +kernel)
theorem gc_8_265 : Cond.methodLink (ownS 8) 265 (mY 138) ∈ gW := gWm (w := Cond.methodLink (ownS 8) 265 (mY 138)) 1296 (by decide +kernel) (by decide +kernel)
theorem gc_8_268 : Cond.methodLink (ownS 8) 268 (mY 140) ∈ gW := gWm (w := Cond.methodLink (ownS 8) 268 (mY 140)) 1327 (by decide +kernel) (by decide +kernel)
theorem gc_8_275 : Cond.methodLink (ownS 8) 275 (mY 142) ∈ gW := gWm (w := Cond.methodLink (ownS 8) 275 (mY 142)) 1339 (by decide +kernel) (by decide +kernel)
theorem gc_9_335 : Cond.methodLink (ownS 9) 335 (mY 152) ∈ gW := gWm (w := Cond.methodLink (ownS 9) 335 (mY 152)) 511 (by decide +kernel) (by decide +kernel)
theorem gc_9_492 : Cond.methodLink (ownS 9) 492 (mY 153) ∈ gW := gWm (w := Cond.methodLink (ownS 9) 492 (mY 153)) 521 (by decide +kernel) (by decide +kernel)
theorem gc_9_495 : Cond.methodLink (ownS 9) 495 (mY 155) ∈ gW := gWm (w := Cond.methodLink (ownS 9) 495 (mY 155)) 525 (by decide +kernel) (by decide +kernel)
theorem gc_9_1059 : Cond.methodLink (ownS 9) 1059 (mY 171) ∈ gW := gWm (w := Cond.methodLink (ownS 9) 1059 (mY 171)) 533 (by decide +kernel) (by decide +kernel)
theorem gc_10_9 : Cond.methodLink (ownS 10) 9 (mY 154) ∈ gW := gWm (w := Cond.methodLink (ownS 10) 9 (mY 154)) 528 (by decide +kernel) (by decide +kernel)
theorem gc_12_1 : Cond.methodLink (ownS 12) 1 objectInit ∈ gW := gWm (w := Cond.methodLink (ownS 12) 1 objectInit) 113 (by decide +kernel) (by decide +kernel)
theorem gc_13_1 : Cond.methodLink (ownS 13) 1 (mY 156) ∈ gW := gWm (w := Cond.methodLink (ownS 13) 1 (mY 156)) 110 (by decide +kernel) (by decide +kernel)
theorem gc_14_86 : Cond.methodLink (ownS 14) 86 ⟨"java/lang/Object", "getClass", "()Ljava/lang/Class;"⟩ ∈ gW := gWm (w := Cond.methodLink (ownS 14) 86 ⟨"java/lang/Object", "getClass", "()Ljava/lang/Class;"⟩) 381 (by decide +kernel) (by decide +kernel)
theorem gc_14_150 : Cond.methodLink (ownS 14) 150 arraycopyName ∈ gW := gWm (w := Cond.methodLink (ownS 14) 150 arraycopyName) 405 (by decide +kernel) (by decide +kernel)
theorem gc_14_300 : Cond.methodLink (ownS 14) 300 (mY 168) ∈ gW := gWm (w := Cond.methodLink (ownS 14) 300 (mY 168)) 398 (by decide +kernel) (by decide +kernel)
theorem gc_14_304 : Cond.methodLink (ownS 14) 304 Lib.Math.min.name ∈ gW := gWm (w := Cond.methodLink (ownS 14) 304 Lib.Math.min.name) 404 (by decide +kernel) (by decide +kernel)
theorem gc_15_105 : Cond.methodLink (ownS 15) 105 (mY 171) ∈ gW := gWm (w := Cond.methodLink (ownS 15) 105 (mY 171)) 277 (by decide +kernel) (by decide +kernel)
theorem gc_16_194 : Cond.methodLink (ownS 16) 194 Lib.Math.max.name ∈ gW := gWm (w := Cond.methodLink (ownS 16) 194 Lib.Math.max.name) 371 (by decide +kernel) (by decide +kernel)
end
section
/-- methods of nest mates -/
def nM : List (String × Nat × MethodName) := [(ownS 1, 11, mY 52), (ownS 4, 11, mY 52), (ownS 4, 38, mY 16), (ownS 4, 108, mY 89), (ownS 5, 11, mY 18), (ownS 5, 20, mY 52), (ownS 6, 46, mY 90), (ownS 7, 28, mY 5), (ownS 7, 35, mY 52), (ownS 7, 42, mY 18)]
def spN : Nat → MethodName
  | 1000 => objectInit
  | 1001 => arraycopyName
  | 1002 => Lib.Math.max.name
  | 1003 => Lib.Math.min.name
  | _ => ⟨"java/lang/Object", "getClass", "()Ljava/lang/Class;"⟩
def cRf (q : Nat × Nat × Nat) : Prop := (q.2.2 < 172 ∧ (Cond.methodLink (ownS q.1) q.2.1 (mY q.2.2) ∈ gW ∨ ((ownS q.1, q.2.1, mY q.2.2) ∈ nM ∧ (mI q.2.2 = true ∨ mS q.2.2 = true)))) ∨ (1000 ≤ q.2.2 ∧ q.2.2 ≤ 1004 ∧ Cond.methodLink (ownS q.1) q.2.1 (spN q.2.2) ∈ gW)
theorem gq_0_1 : cRf (0, 1, 157) := Or.inl ⟨by decide, Or.inl gc_0_1⟩
theorem gq_0_66 : cRf (0, 66, 167) := Or.inl ⟨by decide, Or.inl gc_0_66⟩
theorem gq_0_69 : cRf (0, 69, 159) := Or.inl ⟨by decide, Or.inl gc_0_69⟩
theorem gq_0_73 : cRf (0, 73, 170) := Or.inl ⟨by decide, Or.inl gc_0_73⟩
theorem gq_0_79 : cRf (0, 79, 1002) := Or.inr ⟨by decide, by decide, gc_0_79⟩
theorem gq_0_118 : cRf (0, 118, 169) := Or.inl ⟨by decide, Or.inl gc_0_118⟩
theorem gq_0_123 : cRf (0, 123, 162) := Or.inl ⟨by decide, Or.inl gc_0_123⟩
theorem gq_0_129 : cRf (0, 129, 160) := Or.inl ⟨by decide, Or.inl gc_0_129⟩
theorem gq_0_131 : cRf (0, 131, 165) := Or.inl ⟨by decide, Or.inl gc_0_131⟩
theorem gq_1_3 : cRf (1, 3, 1000) := Or.inr ⟨by decide, by decide, gc_1_3⟩
theorem gq_1_11 : cRf (1, 11, 52) := Or.inl ⟨by decide, Or.inr ⟨by decide +kernel, by decide⟩⟩
theorem gq_1_33 : cRf (1, 33, 3) := Or.inl ⟨by decide, Or.inl gc_1_33⟩
theorem gq_1_37 : cRf (1, 37, 55) := Or.inl ⟨by decide, Or.inl gc_1_37⟩
theorem gq_1_41 : cRf (1, 41, 1) := Or.inl ⟨by decide, Or.inl gc_1_41⟩
theorem gq_2_3 : cRf (2, 3, 1000) := Or.inr ⟨by decide, by decide, gc_2_3⟩
theorem gq_2_11 : cRf (2, 11, 158) := Or.inl ⟨by decide, Or.inl gc_2_11⟩
theorem gq_2_36 : cRf (2, 36, 163) := Or.inl ⟨by decide, Or.inl gc_2_36⟩
theorem gq_2_46 : cRf (2, 46, 161) := Or.inl ⟨by decide, Or.inl gc_2_46⟩
theorem gq_2_50 : cRf (2, 50, 38) := Or.inl ⟨by decide, Or.inl gc_2_50⟩
theorem gq_2_53 : cRf (2, 53, 166) := Or.inl ⟨by decide, Or.inl gc_2_53⟩
theorem gq_2_57 : cRf (2, 57, 39) := Or.inl ⟨by decide, Or.inl gc_2_57⟩
theorem gq_2_60 : cRf (2, 60, 40) := Or.inl ⟨by decide, Or.inl gc_2_60⟩
theorem gq_2_68 : cRf (2, 68, 64) := Or.inl ⟨by decide, Or.inl gc_2_68⟩
theorem gq_2_74 : cRf (2, 74, 164) := Or.inl ⟨by decide, Or.inl gc_2_74⟩
theorem gq_2_78 : cRf (2, 78, 12) := Or.inl ⟨by decide, Or.inl gc_2_78⟩
theorem gq_2_82 : cRf (2, 82, 43) := Or.inl ⟨by decide, Or.inl gc_2_82⟩
theorem gq_2_86 : cRf (2, 86, 42) := Or.inl ⟨by decide, Or.inl gc_2_86⟩
theorem gq_2_95 : cRf (2, 95, 55) := Or.inl ⟨by decide, Or.inl gc_2_95⟩
theorem gq_2_99 : cRf (2, 99, 14) := Or.inl ⟨by decide, Or.inl gc_2_99⟩
theorem gq_2_102 : cRf (2, 102, 65) := Or.inl ⟨by decide, Or.inl gc_2_102⟩
theorem gq_2_114 : cRf (2, 114, 2) := Or.inl ⟨by decide, Or.inl gc_2_114⟩
theorem gq_3_1 : cRf (3, 1, 1000) := Or.inr ⟨by decide, by decide, gc_3_1⟩
theorem gq_4_3 : cRf (4, 3, 1000) := Or.inr ⟨by decide, by decide, gc_4_3⟩
theorem gq_4_11 : cRf (4, 11, 52) := Or.inl ⟨by decide, Or.inr ⟨by decide +kernel, by decide⟩⟩
theorem gq_4_31 : cRf (4, 31, 158) := Or.inl ⟨by decide, Or.inl gc_4_31⟩
theorem gq_4_38 : cRf (4, 38, 16) := Or.inl ⟨by decide, Or.inr ⟨by decide +kernel, by decide⟩⟩
theorem gq_4_46 : cRf (4, 46, 54) := Or.inl ⟨by decide, Or.inl gc_4_46⟩
theorem gq_4_50 : cRf (4, 50, 56) := Or.inl ⟨by decide, Or.inl gc_4_50⟩
theorem gq_4_54 : cRf (4, 54, 21) := Or.inl ⟨by decide, Or.inl gc_4_54⟩
theorem gq_4_58 : cRf (4, 58, 22) := Or.inl ⟨by decide, Or.inl gc_4_58⟩
theorem gq_4_62 : cRf (4, 62, 23) := Or.inl ⟨by decide, Or.inl gc_4_62⟩
theorem gq_4_65 : cRf (4, 65, 24) := Or.inl ⟨by decide, Or.inl gc_4_65⟩
theorem gq_4_69 : cRf (4, 69, 25) := Or.inl ⟨by decide, Or.inl gc_4_69⟩
theorem gq_4_73 : cRf (4, 73, 26) := Or.inl ⟨by decide, Or.inl gc_4_73⟩
theorem gq_4_77 : cRf (4, 77, 161) := Or.inl ⟨by decide, Or.inl gc_4_77⟩
theorem gq_4_78 : cRf (4, 78, 166) := Or.inl ⟨by decide, Or.inl gc_4_78⟩
theorem gq_4_82 : cRf (4, 82, 163) := Or.inl ⟨by decide, Or.inl gc_4_82⟩
theorem gq_4_86 : cRf (4, 86, 27) := Or.inl ⟨by decide, Or.inl gc_4_86⟩
theorem gq_4_105 : cRf (4, 105, 28) := Or.inl ⟨by decide, Or.inl gc_4_105⟩
theorem gq_4_108 : cRf (4, 108, 89) := Or.inl ⟨by decide, Or.inr ⟨by decide +kernel, by decide⟩⟩
theorem gq_4_111 : cRf (4, 111, 29) := Or.inl ⟨by decide, Or.inl gc_4_111⟩
theorem gq_4_115 : cRf (4, 115, 17) := Or.inl ⟨by decide, Or.inl gc_4_115⟩
theorem gq_4_119 : cRf (4, 119, 34) := Or.inl ⟨by decide, Or.inl gc_4_119⟩
theorem gq_4_123 : cRf (4, 123, 57) := Or.inl ⟨by decide, Or.inl gc_4_123⟩
theorem gq_4_127 : cRf (4, 127, 1002) := Or.inr ⟨by decide, by decide, gc_4_127⟩
theorem gq_4_137 : cRf (4, 137, 59) := Or.inl ⟨by decide, Or.inl gc_4_137⟩
theorem gq_4_141 : cRf (4, 141, 31) := Or.inl ⟨by decide, Or.inl gc_4_141⟩
theorem gq_4_145 : cRf (4, 145, 30) := Or.inl ⟨by decide, Or.inl gc_4_145⟩
theorem gq_4_147 : cRf (4, 147, 33) := Or.inl ⟨by decide, Or.inl gc_4_147⟩
theorem gq_5_3 : cRf (5, 3, 1000) := Or.inr ⟨by decide, by decide, gc_5_3⟩
theorem gq_5_11 : cRf (5, 11, 18) := Or.inl ⟨by decide, Or.inr ⟨by decide +kernel, by decide⟩⟩
theorem gq_5_20 : cRf (5, 20, 52) := Or.inl ⟨by decide, Or.inr ⟨by decide +kernel, by decide⟩⟩
theorem gq_5_45 : cRf (5, 45, 3) := Or.inl ⟨by decide, Or.inl gc_5_45⟩
theorem gq_5_51 : cRf (5, 51, 20) := Or.inl ⟨by decide, Or.inl gc_5_51⟩
theorem gq_5_55 : cRf (5, 55, 53) := Or.inl ⟨by decide, Or.inl gc_5_55⟩
theorem gq_5_58 : cRf (5, 58, 19) := Or.inl ⟨by decide, Or.inl gc_5_58⟩
theorem gq_5_62 : cRf (5, 62, 32) := Or.inl ⟨by decide, Or.inl gc_5_62⟩
theorem gq_5_66 : cRf (5, 66, 63) := Or.inl ⟨by decide, Or.inl gc_5_66⟩
theorem gq_5_69 : cRf (5, 69, 33) := Or.inl ⟨by decide, Or.inl gc_5_69⟩
theorem gq_5_72 : cRf (5, 72, 41) := Or.inl ⟨by decide, Or.inl gc_5_72⟩
theorem gq_5_75 : cRf (5, 75, 35) := Or.inl ⟨by decide, Or.inl gc_5_75⟩
theorem gq_5_78 : cRf (5, 78, 60) := Or.inl ⟨by decide, Or.inl gc_5_78⟩
theorem gq_5_81 : cRf (5, 81, 57) := Or.inl ⟨by decide, Or.inl gc_5_81⟩
theorem gq_5_85 : cRf (5, 85, 65) := Or.inl ⟨by decide, Or.inl gc_5_85⟩
theorem gq_5_89 : cRf (5, 89, 44) := Or.inl ⟨by decide, Or.inl gc_5_89⟩
theorem gq_5_92 : cRf (5, 92, 45) := Or.inl ⟨by decide, Or.inl gc_5_92⟩
theorem gq_5_99 : cRf (5, 99, 61) := Or.inl ⟨by decide, Or.inl gc_5_99⟩
theorem gq_5_103 : cRf (5, 103, 58) := Or.inl ⟨by decide, Or.inl gc_5_103⟩
theorem gq_5_106 : cRf (5, 106, 37) := Or.inl ⟨by decide, Or.inl gc_5_106⟩
theorem gq_5_109 : cRf (5, 109, 54) := Or.inl ⟨by decide, Or.inl gc_5_109⟩
theorem gq_5_110 : cRf (5, 110, 30) := Or.inl ⟨by decide, Or.inl gc_5_110⟩
theorem gq_5_114 : cRf (5, 114, 31) := Or.inl ⟨by decide, Or.inl gc_5_114⟩
theorem gq_5_119 : cRf (5, 119, 59) := Or.inl ⟨by decide, Or.inl gc_5_119⟩
theorem gq_5_125 : cRf (5, 125, 2) := Or.inl ⟨by decide, Or.inl gc_5_125⟩
theorem gq_5_128 : cRf (5, 128, 47) := Or.inl ⟨by decide, Or.inl gc_5_128⟩
theorem gq_5_132 : cRf (5, 132, 48) := Or.inl ⟨by decide, Or.inl gc_5_132⟩
theorem gq_5_135 : cRf (5, 135, 36) := Or.inl ⟨by decide, Or.inl gc_5_135⟩
theorem gq_5_140 : cRf (5, 140, 49) := Or.inl ⟨by decide, Or.inl gc_5_140⟩
theorem gq_5_144 : cRf (5, 144, 50) := Or.inl ⟨by decide, Or.inl gc_5_144⟩
theorem gq_5_147 : cRf (5, 147, 62) := Or.inl ⟨by decide, Or.inl gc_5_147⟩
theorem gq_5_159 : cRf (5, 159, 51) := Or.inl ⟨by decide, Or.inl gc_5_159⟩
theorem gq_6_1 : cRf (6, 1, 1000) := Or.inr ⟨by decide, by decide, gc_6_1⟩
theorem gq_6_17 : cRf (6, 17, 1001) := Or.inr ⟨by decide, by decide, gc_6_17⟩
theorem gq_6_23 : cRf (6, 23, 150) := Or.inl ⟨by decide, Or.inl gc_6_23⟩
theorem gq_6_28 : cRf (6, 28, 151) := Or.inl ⟨by decide, Or.inl gc_6_28⟩
theorem gq_6_32 : cRf (6, 32, 57) := Or.inl ⟨by decide, Or.inl gc_6_32⟩
theorem gq_6_36 : cRf (6, 36, 61) := Or.inl ⟨by decide, Or.inl gc_6_36⟩
theorem gq_6_40 : cRf (6, 40, 1002) := Or.inr ⟨by decide, by decide, gc_6_40⟩
theorem gq_6_46 : cRf (6, 46, 90) := Or.inl ⟨by decide, Or.inr ⟨by decide +kernel, by decide⟩⟩
theorem gq_6_52 : cRf (6, 52, 1003) := Or.inr ⟨by decide, by decide, gc_6_52⟩
theorem gq_6_55 : cRf (6, 55, 64) := Or.inl ⟨by decide, Or.inl gc_6_55⟩
theorem gq_7_3 : cRf (7, 3, 1000) := Or.inr ⟨by decide, by decide, gc_7_3⟩
theorem gq_7_11 : cRf (7, 11, 158) := Or.inl ⟨by decide, Or.inl gc_7_11⟩
theorem gq_7_28 : cRf (7, 28, 5) := Or.inl ⟨by decide, Or.inr ⟨by decide +kernel, by decide⟩⟩
theorem gq_7_35 : cRf (7, 35, 52) := Or.inl ⟨by decide, Or.inr ⟨by decide +kernel, by decide⟩⟩
theorem gq_7_42 : cRf (7, 42, 18) := Or.inl ⟨by decide, Or.inr ⟨by decide +kernel, by decide⟩⟩
theorem gq_7_50 : cRf (7, 50, 161) := Or.inl ⟨by decide, Or.inl gc_7_50⟩
theorem gq_7_63 : cRf (7, 63, 0) := Or.inl ⟨by decide, Or.inl gc_7_63⟩
theorem gq_7_66 : cRf (7, 66, 166) := Or.inl ⟨by decide, Or.inl gc_7_66⟩
theorem gq_7_70 : cRf (7, 70, 81) := Or.inl ⟨by decide, Or.inl gc_7_70⟩
theorem gq_7_77 : cRf (7, 77, 86) := Or.inl ⟨by decide, Or.inl gc_7_77⟩
theorem gq_7_86 : cRf (7, 86, 1) := Or.inl ⟨by decide, Or.inl gc_7_86⟩
theorem gq_7_92 : cRf (7, 92, 4) := Or.inl ⟨by decide, Or.inl gc_7_92⟩
theorem gq_7_105 : cRf (7, 105, 8) := Or.inl ⟨by decide, Or.inl gc_7_105⟩
theorem gq_7_108 : cRf (7, 108, 163) := Or.inl ⟨by decide, Or.inl gc_7_108⟩
theorem gq_7_112 : cRf (7, 112, 83) := Or.inl ⟨by decide, Or.inl gc_7_112⟩
theorem gq_7_116 : cRf (7, 116, 9) := Or.inl ⟨by decide, Or.inl gc_7_116⟩
theorem gq_7_120 : cRf (7, 120, 10) := Or.inl ⟨by decide, Or.inl gc_7_120⟩
theorem gq_7_124 : cRf (7, 124, 11) := Or.inl ⟨by decide, Or.inl gc_7_124⟩
theorem gq_7_127 : cRf (7, 127, 13) := Or.inl ⟨by decide, Or.inl gc_7_127⟩
theorem gq_7_130 : cRf (7, 130, 6) := Or.inl ⟨by decide, Or.inl gc_7_130⟩
theorem gq_7_131 : cRf (7, 131, 7) := Or.inl ⟨by decide, Or.inl gc_7_131⟩
theorem gq_7_134 : cRf (7, 134, 46) := Or.inl ⟨by decide, Or.inl gc_7_134⟩
theorem gq_7_139 : cRf (7, 139, 15) := Or.inl ⟨by decide, Or.inl gc_7_139⟩
theorem gq_7_142 : cRf (7, 142, 82) := Or.inl ⟨by decide, Or.inl gc_7_142⟩
theorem gq_7_154 : cRf (7, 154, 3) := Or.inl ⟨by decide, Or.inl gc_7_154⟩
theorem gq_7_157 : cRf (7, 157, 20) := Or.inl ⟨by decide, Or.inl gc_7_157⟩
theorem gq_7_161 : cRf (7, 161, 19) := Or.inl ⟨by decide, Or.inl gc_7_161⟩
theorem gq_7_164 : cRf (7, 164, 53) := Or.inl ⟨by decide, Or.inl gc_7_164⟩
theorem gq_7_167 : cRf (7, 167, 33) := Or.inl ⟨by decide, Or.inl gc_7_167⟩
theorem gq_7_171 : cRf (7, 171, 54) := Or.inl ⟨by decide, Or.inl gc_7_171⟩
theorem gq_7_172 : cRf (7, 172, 85) := Or.inl ⟨by decide, Or.inl gc_7_172⟩
theorem gq_7_188 : cRf (7, 188, 84) := Or.inl ⟨by decide, Or.inl gc_7_188⟩
theorem gq_7_194 : cRf (7, 194, 60) := Or.inl ⟨by decide, Or.inl gc_7_194⟩
theorem gq_7_206 : cRf (7, 206, 55) := Or.inl ⟨by decide, Or.inl gc_7_206⟩
theorem gq_7_210 : cRf (7, 210, 65) := Or.inl ⟨by decide, Or.inl gc_7_210⟩
theorem gq_7_222 : cRf (7, 222, 59) := Or.inl ⟨by decide, Or.inl gc_7_222⟩
theorem gq_7_225 : cRf (7, 225, 62) := Or.inl ⟨by decide, Or.inl gc_7_225⟩
theorem gq_7_228 : cRf (7, 228, 57) := Or.inl ⟨by decide, Or.inl gc_7_228⟩
theorem gq_7_233 : cRf (7, 233, 56) := Or.inl ⟨by decide, Or.inl gc_7_233⟩
theorem gq_7_237 : cRf (7, 237, 87) := Or.inl ⟨by decide, Or.inl gc_7_237⟩
theorem gq_7_241 : cRf (7, 241, 88) := Or.inl ⟨by decide, Or.inl gc_7_241⟩
theorem gq_7_251 : cRf (7, 251, 150) := Or.inl ⟨by decide, Or.inl gc_7_251⟩
theorem gq_7_256 : cRf (7, 256, 151) := Or.inl ⟨by decide, Or.inl gc_7_256⟩
theorem gq_8_1 : cRf (8, 1, 1000) := Or.inr ⟨by decide, by decide, gc_8_1⟩
theorem gq_8_92 : cRf (8, 92, 95) := Or.inl ⟨by decide, Or.inl gc_8_92⟩
theorem gq_8_96 : cRf (8, 96, 96) := Or.inl ⟨by decide, Or.inl gc_8_96⟩
theorem gq_8_100 : cRf (8, 100, 93) := Or.inl ⟨by decide, Or.inl gc_8_100⟩
theorem gq_8_103 : cRf (8, 103, 97) := Or.inl ⟨by decide, Or.inl gc_8_103⟩
theorem gq_8_119 : cRf (8, 119, 106) := Or.inl ⟨by decide, Or.inl gc_8_119⟩
theorem gq_8_122 : cRf (8, 122, 107) := Or.inl ⟨by decide, Or.inl gc_8_122⟩
theorem gq_8_125 : cRf (8, 125, 103) := Or.inl ⟨by decide, Or.inl gc_8_125⟩
theorem gq_8_129 : cRf (8, 129, 109) := Or.inl ⟨by decide, Or.inl gc_8_129⟩
theorem gq_8_133 : cRf (8, 133, 108) := Or.inl ⟨by decide, Or.inl gc_8_133⟩
theorem gq_8_141 : cRf (8, 141, 111) := Or.inl ⟨by decide, Or.inl gc_8_141⟩
theorem gq_8_145 : cRf (8, 145, 115) := Or.inl ⟨by decide, Or.inl gc_8_145⟩
theorem gq_8_149 : cRf (8, 149, 116) := Or.inl ⟨by decide, Or.inl gc_8_149⟩
theorem gq_8_156 : cRf (8, 156, 105) := Or.inl ⟨by decide, Or.inl gc_8_156⟩
theorem gq_8_159 : cRf (8, 159, 119) := Or.inl ⟨by decide, Or.inl gc_8_159⟩
theorem gq_8_162 : cRf (8, 162, 120) := Or.inl ⟨by decide, Or.inl gc_8_162⟩
theorem gq_8_166 : cRf (8, 166, 110) := Or.inl ⟨by decide, Or.inl gc_8_166⟩
theorem gq_8_170 : cRf (8, 170, 121) := Or.inl ⟨by decide, Or.inl gc_8_170⟩
theorem gq_8_173 : cRf (8, 173, 113) := Or.inl ⟨by decide, Or.inl gc_8_173⟩
theorem gq_8_176 : cRf (8, 176, 122) := Or.inl ⟨by decide, Or.inl gc_8_176⟩
theorem gq_8_179 : cRf (8, 179, 123) := Or.inl ⟨by decide, Or.inl gc_8_179⟩
theorem gq_8_186 : cRf (8, 186, 104) := Or.inl ⟨by decide, Or.inl gc_8_186⟩
theorem gq_8_189 : cRf (8, 189, 124) := Or.inl ⟨by decide, Or.inl gc_8_189⟩
theorem gq_8_192 : cRf (8, 192, 118) := Or.inl ⟨by decide, Or.inl gc_8_192⟩
theorem gq_8_195 : cRf (8, 195, 114) := Or.inl ⟨by decide, Or.inl gc_8_195⟩
theorem gq_8_198 : cRf (8, 198, 117) := Or.inl ⟨by decide, Or.inl gc_8_198⟩
theorem gq_8_203 : cRf (8, 203, 112) := Or.inl ⟨by decide, Or.inl gc_8_203⟩
theorem gq_8_209 : cRf (8, 209, 126) := Or.inl ⟨by decide, Or.inl gc_8_209⟩
theorem gq_8_212 : cRf (8, 212, 127) := Or.inl ⟨by decide, Or.inl gc_8_212⟩
theorem gq_8_215 : cRf (8, 215, 128) := Or.inl ⟨by decide, Or.inl gc_8_215⟩
theorem gq_8_219 : cRf (8, 219, 130) := Or.inl ⟨by decide, Or.inl gc_8_219⟩
theorem gq_8_226 : cRf (8, 226, 132) := Or.inl ⟨by decide, Or.inl gc_8_226⟩
theorem gq_8_229 : cRf (8, 229, 133) := Or.inl ⟨by decide, Or.inl gc_8_229⟩
theorem gq_8_234 : cRf (8, 234, 135) := Or.inl ⟨by decide, Or.inl gc_8_234⟩
theorem gq_8_241 : cRf (8, 241, 137) := Or.inl ⟨by decide, Or.inl gc_8_241⟩
theorem gq_8_244 : cRf (8, 244, 134) := Or.inl ⟨by decide, Or.inl gc_8_244⟩
theorem gq_8_247 : cRf (8, 247, 136) := Or.inl ⟨by decide, Or.inl gc_8_247⟩
theorem gq_8_253 : cRf (8, 253, 139) := Or.inl ⟨by decide, Or.inl gc_8_253⟩
theorem gq_8_256 : cRf (8, 256, 125) := Or.inl ⟨by decide, Or.inl gc_8_256⟩
theorem gq_8_259 : cRf (8, 259, 129) := Or.inl ⟨by decide, Or.inl gc_8_259⟩
theorem gq_8_262 : cRf (8, 262, 131) := Or.inl ⟨by decide, Or.inl gc_8_262⟩
theorem gq_8_265 : cRf (8, 265, 138) := Or.inl ⟨by decide, Or.inl gc_8_265⟩
theorem gq_8_268 : cRf (8, 268, 140) := Or.inl ⟨by decide, Or.inl gc_8_268⟩
theorem gq_8_275 : cRf (8, 275, 142) := Or.inl ⟨by decide, Or.inl gc_8_275⟩
theorem gq_9_335 : cRf (9, 335, 152) := Or.inl ⟨by decide, Or.inl gc_9_335⟩
theorem gq_9_492 : cRf (9, 492, 153) := Or.inl ⟨by decide, Or.inl gc_9_492⟩
theorem gq_9_495 : cRf (9, 495, 155) := Or.inl ⟨by decide, Or.inl gc_9_495⟩
theorem gq_9_1059 : cRf (9, 1059, 171) := Or.inl ⟨by decide, Or.inl gc_9_1059⟩
theorem gq_10_9 : cRf (10, 9, 154) := Or.inl ⟨by decide, Or.inl gc_10_9⟩
theorem gq_12_1 : cRf (12, 1, 1000) := Or.inr ⟨by decide, by decide, gc_12_1⟩
theorem gq_13_1 : cRf (13, 1, 156) := Or.inl ⟨by decide, Or.inl gc_13_1⟩
theorem gq_14_86 : cRf (14, 86, 1004) := Or.inr ⟨by decide, by decide, gc_14_86⟩
theorem gq_14_150 : cRf (14, 150, 1001) := Or.inr ⟨by decide, by decide, gc_14_150⟩
theorem gq_14_300 : cRf (14, 300, 168) := Or.inl ⟨by decide, Or.inl gc_14_300⟩
theorem gq_14_304 : cRf (14, 304, 1003) := Or.inr ⟨by decide, by decide, gc_14_304⟩
theorem gq_15_105 : cRf (15, 105, 171) := Or.inl ⟨by decide, Or.inl gc_15_105⟩
theorem gq_16_194 : cRf (16, 194, 1002) := Or.inr ⟨by decide, by decide, gc_16_194⟩
def cRl_0 : List (Nat × Nat × Nat) := [(0, 1, 157), (0, 66, 167), (0, 69, 159), (0, 73, 170), (0, 79, 1002), (0, 118, 169), (0, 123, 162), (0, 129, 160), (0, 131, 165), (1, 3, 1000), (1, 11, 52), (1, 33, 3), (1, 37, 55), (1, 41, 1), (2, 3, 1000), (2, 11, 158), (2, 36, 163), (2, 46, 161), (2, 50, 38), (2, 53, 166)]
theorem grl_0 : ∀ q ∈ cRl_0, cRf q := List.forall_mem_cons.mpr ⟨gq_0_1, List.forall_mem_cons.mpr ⟨gq_0_66, List.forall_mem_cons.mpr ⟨gq_0_69, List.forall_mem_cons.mpr ⟨gq_0_73, List.forall_mem_cons.mpr ⟨gq_0_79, List.forall_mem_cons.mpr ⟨gq_0_118, List.forall_mem_cons.mpr ⟨gq_0_123, List.forall_mem_cons.mpr ⟨gq_0_129, List.forall_mem_cons.mpr ⟨gq_0_131, List.forall_mem_cons.mpr ⟨gq_1_3, List.forall_mem_cons.mpr ⟨gq_1_11, List.forall_mem_cons.mpr ⟨gq_1_33, List.forall_mem_cons.mpr ⟨gq_1_37, List.forall_mem_cons.mpr ⟨gq_1_41, List.forall_mem_cons.mpr ⟨gq_2_3, List.forall_mem_cons.mpr ⟨gq_2_11, List.forall_mem_cons.mpr ⟨gq_2_36, List.forall_mem_cons.mpr ⟨gq_2_46, List.forall_mem_cons.mpr ⟨gq_2_50, List.forall_mem_cons.mpr ⟨gq_2_53, fun _ h => absurd h List.not_mem_nil⟩⟩⟩⟩⟩⟩⟩⟩⟩⟩⟩⟩⟩⟩⟩⟩⟩⟩⟩⟩
def cRl_1 : List (Nat × Nat × Nat) := [(2, 57, 39), (2, 60, 40), (2, 68, 64), (2, 74, 164), (2, 78, 12), (2, 82, 43), (2, 86, 42), (2, 95, 55), (2, 99, 14), (2, 102, 65), (2, 114, 2), (3, 1, 1000), (4, 3, 1000), (4, 11, 52), (4, 31, 158), (4, 38, 16), (4, 46, 54), (4, 50, 56), (4, 54, 21), (4, 58, 22)]
theorem grl_1 : ∀ q ∈ cRl_1, cRf q := List.forall_mem_cons.mpr ⟨gq_2_57, List.forall_mem_cons.mpr ⟨gq_2_60, List.forall_mem_cons.mpr ⟨gq_2_68, List.forall_mem_cons.mpr ⟨gq_2_74, List.forall_mem_cons.mpr ⟨gq_2_78, List.forall_mem_cons.mpr ⟨gq_2_82, List.forall_mem_cons.mpr ⟨gq_2_86, List.forall_mem_cons.mpr ⟨gq_2_95, List.forall_mem_cons.mpr ⟨gq_2_99, List.forall_mem_cons.mpr ⟨gq_2_102, List.forall_mem_cons.mpr ⟨gq_2_114, List.forall_mem_cons.mpr ⟨gq_3_1, List.forall_mem_cons.mpr ⟨gq_4_3, List.forall_mem_cons.mpr ⟨gq_4_11, List.forall_mem_cons.mpr ⟨gq_4_31, List.forall_mem_cons.mpr ⟨gq_4_38, List.forall_mem_cons.mpr ⟨gq_4_46, List.forall_mem_cons.mpr ⟨gq_4_50, List.forall_mem_cons.mpr ⟨gq_4_54, List.forall_mem_cons.mpr ⟨gq_4_58, fun _ h => absurd h List.not_mem_nil⟩⟩⟩⟩⟩⟩⟩⟩⟩⟩⟩⟩⟩⟩⟩⟩⟩⟩⟩⟩
def cRl_2 : List (Nat × Nat × Nat) := [(4, 62, 23), (4, 65, 24), (4, 69, 25), (4, 73, 26), (4, 77, 161), (4, 78, 166), (4, 82, 163), (4, 86, 27), (4, 105, 28), (4, 108, 89), (4, 111, 29), (4, 115, 17), (4, 119, 34), (4, 123, 57), (4, 127, 1002), (4, 137, 59), (4, 141, 31), (4, 145, 30), (4, 147, 33), (5, 3, 1000)]
theorem grl_2 : ∀ q ∈ cRl_2, cRf q := List.forall_mem_cons.mpr ⟨gq_4_62, List.forall_mem_cons.mpr ⟨gq_4_65, List.forall_mem_cons.mpr ⟨gq_4_69, List.forall_mem_cons.mpr ⟨gq_4_73, List.forall_mem_cons.mpr ⟨gq_4_77, List.forall_mem_cons.mpr ⟨gq_4_78, List.forall_mem_cons.mpr ⟨gq_4_82, List.forall_mem_cons.mpr ⟨gq_4_86, List.forall_mem_cons.mpr ⟨gq_4_105, List.forall_mem_cons.mpr ⟨gq_4_108, List.forall_mem_cons.mpr ⟨gq_4_111, List.forall_mem_cons.mpr ⟨gq_4_115, List.forall_mem_cons.mpr ⟨gq_4_119, List.forall_mem_cons.mpr ⟨gq_4_123, List.forall_mem_cons.mpr ⟨gq_4_127, List.forall_mem_cons.mpr ⟨gq_4_137, List.forall_mem_cons.mpr ⟨gq_4_141, List.forall_mem_cons.mpr ⟨gq_4_145, List.forall_mem_cons.mpr ⟨gq_4_147, List.forall_mem_cons.mpr ⟨gq_5_3, fun _ h => absurd h List.not_mem_nil⟩⟩⟩⟩⟩⟩⟩⟩⟩⟩⟩⟩⟩⟩⟩⟩⟩⟩⟩⟩
def cRl_3 : List (Nat × Nat × Nat) := [(5, 11, 18), (5, 20, 52), (5, 45, 3), (5, 51, 20), (5, 55, 53), (5, 58, 19), (5, 62, 32), (5, 66, 63), (5, 69, 33), (5, 72, 41), (5, 75, 35), (5, 78, 60), (5, 81, 57), (5, 85, 65), (5, 89, 44), (5, 92, 45), (5, 99, 61), (5, 103, 58), (5, 106, 37), (5, 109, 54)]
theorem grl_3 : ∀ q ∈ cRl_3, cRf q := List.forall_mem_cons.mpr ⟨gq_5_11, List.forall_mem_cons.mpr ⟨gq_5_20, List.forall_mem_cons.mpr ⟨gq_5_45, List.forall_mem_cons.mpr ⟨gq_5_51, List.forall_mem_cons.mpr ⟨gq_5_55, List.forall_mem_cons.mpr ⟨gq_5_58, List.forall_mem_cons.mpr ⟨gq_5_62, List.forall_mem_cons.mpr ⟨gq_5_66, List.forall_mem_cons.mpr ⟨gq_5_69, List.forall_mem_cons.mpr ⟨gq_5_72, List.forall_mem_cons.mpr ⟨gq_5_75, List.forall_mem_cons.mpr ⟨gq_5_78, List.forall_mem_cons.mpr ⟨gq_5_81, List.forall_mem_cons.mpr ⟨gq_5_85, List.forall_mem_cons.mpr ⟨gq_5_89, List.forall_mem_cons.mpr ⟨gq_5_92, List.forall_mem_cons.mpr ⟨gq_5_99, List.forall_mem_cons.mpr ⟨gq_5_103, List.forall_mem_cons.mpr ⟨gq_5_106, List.forall_mem_cons.mpr ⟨gq_5_109, fun _ h => absurd h List.not_mem_nil⟩⟩⟩⟩⟩⟩⟩⟩⟩⟩⟩⟩⟩⟩⟩⟩⟩⟩⟩⟩
def cRl_4 : List (Nat × Nat × Nat) := [(5, 110, 30), (5, 114, 31), (5, 119, 59), (5, 125, 2), (5, 128, 47), (5, 132, 48), (5, 135, 36), (5, 140, 49), (5, 144, 50), (5, 147, 62), (5, 159, 51), (6, 1, 1000), (6, 17, 1001), (6, 23, 150), (6, 28, 151), (6, 32, 57), (6, 36, 61), (6, 40, 1002), (6, 46, 90), (6, 52, 1003)]
theorem grl_4 : ∀ q ∈ cRl_4, cRf q := List.forall_mem_cons.mpr ⟨gq_5_110, List.forall_mem_cons.mpr ⟨gq_5_114, List.forall_mem_cons.mpr ⟨gq_5_119, List.forall_mem_cons.mpr ⟨gq_5_125, List.forall_mem_cons.mpr ⟨gq_5_128, List.forall_mem_cons.mpr ⟨gq_5_132, List.forall_mem_cons.mpr ⟨gq_5_135, List.forall_mem_cons.mpr ⟨gq_5_140, List.forall_mem_cons.mpr ⟨gq_5_144, List.forall_mem_cons.mpr ⟨gq_5_147, List.forall_mem_cons.mpr ⟨gq_5_159, List.forall_mem_cons.mpr ⟨gq_6_1, List.forall_mem_cons.mpr ⟨gq_6_17, List.forall_mem_cons.mpr ⟨gq_6_23, List.forall_mem_cons.mpr ⟨gq_6_28, List.forall_mem_cons.mpr ⟨gq_6_32, List.forall_mem_cons.mpr ⟨gq_6_36, List.forall_mem_cons.mpr ⟨gq_6_40, List.forall_mem_cons.mpr ⟨gq_6_46, List.forall_mem_cons.mpr ⟨gq_6_52, fun _ h => absurd h List.not_mem_nil⟩⟩⟩⟩⟩⟩⟩⟩⟩⟩⟩⟩⟩⟩⟩⟩⟩⟩⟩⟩
def cRl_5 : List (Nat × Nat × Nat) := [(6, 55, 64), (7, 3, 1000), (7, 11, 158), (7, 28, 5), (7, 35, 52), (7, 42, 18), (7, 50, 161), (7, 63, 0), (7, 66, 166), (7, 70, 81), (7, 77, 86), (7, 86, 1), (7, 92, 4), (7, 105, 8), (7, 108, 163), (7, 112, 83), (7, 116, 9), (7, 120, 10), (7, 124, 11), (7, 127, 13)]
theorem grl_5 : ∀ q ∈ cRl_5, cRf q := List.forall_mem_cons.mpr ⟨gq_6_55, List.forall_mem_cons.mpr ⟨gq_7_3, List.forall_mem_cons.mpr ⟨gq_7_11, List.forall_mem_cons.mpr ⟨gq_7_28, List.forall_mem_cons.mpr ⟨gq_7_35, List.forall_mem_cons.mpr ⟨gq_7_42, List.forall_mem_cons.mpr ⟨gq_7_50, List.forall_mem_cons.mpr ⟨gq_7_63, List.forall_mem_cons.mpr ⟨gq_7_66, List.forall_mem_cons.mpr ⟨gq_7_70, List.forall_mem_cons.mpr ⟨gq_7_77, List.forall_mem_cons.mpr ⟨gq_7_86, List.forall_mem_cons.mpr ⟨gq_7_92, List.forall_mem_cons.mpr ⟨gq_7_105, List.forall_mem_cons.mpr ⟨gq_7_108, List.forall_mem_cons.mpr ⟨gq_7_112, List.forall_mem_cons.mpr ⟨gq_7_116, List.forall_mem_cons.mpr ⟨gq_7_120, List.forall_mem_cons.mpr ⟨gq_7_124, List.forall_mem_cons.mpr ⟨gq_7_127, fun _ h => absurd h List.not_mem_nil⟩⟩⟩⟩⟩⟩⟩⟩⟩⟩⟩⟩⟩⟩⟩⟩⟩⟩⟩⟩
def cRl_6 : List (Nat × Nat × Nat) := [(7, 130, 6), (7, 131, 7), (7, 134, 46), (7, 139, 15), (7, 142, 82), (7, 154, 3), (7, 157, 20), (7, 161, 19), (7, 164, 53), (7, 167, 33), (7, 171, 54), (7, 172, 85), (7, 188, 84), (7, 194, 60), (7, 206, 55), (7, 210, 65), (7, 222, 59), (7, 225, 62), (7, 228, 57), (7, 233, 56)]
theorem grl_6 : ∀ q ∈ cRl_6, cRf q := List.forall_mem_cons.mpr ⟨gq_7_130, List.forall_mem_cons.mpr ⟨gq_7_131, List.forall_mem_cons.mpr ⟨gq_7_134, List.forall_mem_cons.mpr ⟨gq_7_139, List.forall_mem_cons.mpr ⟨gq_7_142, List.forall_mem_cons.mpr ⟨gq_7_154, List.forall_mem_cons.mpr ⟨gq_7_157, List.forall_mem_cons.mpr ⟨gq_7_161, List.forall_mem_cons.mpr ⟨gq_7_164, List.forall_mem_cons.mpr ⟨gq_7_167, List.forall_mem_cons.mpr ⟨gq_7_171, List.forall_mem_cons.mpr ⟨gq_7_172, List.forall_mem_cons.mpr ⟨gq_7_188, List.forall_mem_cons.mpr ⟨gq_7_194, List.forall_mem_cons.mpr ⟨gq_7_206, List.forall_mem_cons.mpr ⟨gq_7_210, List.forall_mem_cons.mpr ⟨gq_7_222, List.forall_mem_cons.mpr ⟨gq_7_225, List.forall_mem_cons.mpr ⟨gq_7_228, List.forall_mem_cons.mpr ⟨gq_7_233, fun _ h => absurd h List.not_mem_nil⟩⟩⟩⟩⟩⟩⟩⟩⟩⟩⟩⟩⟩⟩⟩⟩⟩⟩⟩⟩
def cRl_7 : List (Nat × Nat × Nat) := [(7, 237, 87), (7, 241, 88), (7, 251, 150), (7, 256, 151), (8, 1, 1000), (8, 92, 95), (8, 96, 96), (8, 100, 93), (8, 103, 97), (8, 119, 106), (8, 122, 107), (8, 125, 103), (8, 129, 109), (8, 133, 108), (8, 141, 111), (8, 145, 115), (8, 149, 116), (8, 156, 105), (8, 159, 119), (8, 162, 120)]
theorem grl_7 : ∀ q ∈ cRl_7, cRf q := List.forall_mem_cons.mpr ⟨gq_7_237, List.forall_mem_cons.mpr ⟨gq_7_241, List.forall_mem_cons.mpr ⟨gq_7_251, List.forall_mem_cons.mpr ⟨gq_7_256, List.forall_mem_cons.mpr ⟨gq_8_1, List.forall_mem_cons.mpr ⟨gq_8_92, List.forall_mem_cons.mpr ⟨gq_8_96, List.forall_mem_cons.mpr ⟨gq_8_100, List.forall_mem_cons.mpr ⟨gq_8_103, List.forall_mem_cons.mpr ⟨gq_8_119, List.forall_mem_cons.mpr ⟨gq_8_122, List.forall_mem_cons.mpr ⟨gq_8_125, List.forall_mem_cons.mpr ⟨gq_8_129, List.forall_mem_cons.mpr ⟨gq_8_133, List.forall_mem_cons.mpr ⟨gq_8_141, List.forall_mem_cons.mpr ⟨gq_8_145, List.forall_mem_cons.mpr ⟨gq_8_149, List.forall_mem_cons.mpr ⟨gq_8_156, List.forall_mem_cons.mpr ⟨gq_8_159, List.forall_mem_cons.mpr ⟨gq_8_162, fun _ h => absurd h List.not_mem_nil⟩⟩⟩⟩⟩⟩⟩⟩⟩⟩⟩⟩⟩⟩⟩⟩⟩⟩⟩⟩
def cRl_8 : List (Nat × Nat × Nat) := [(8, 166, 110), (8, 170, 121), (8, 173, 113), (8, 176, 122), (8, 179, 123), (8, 186, 104), (8, 189, 124), (8, 192, 118), (8, 195, 114), (8, 198, 117), (8, 203, 112), (8, 209, 126), (8, 212, 127), (8, 215, 128), (8, 219, 130), (8, 226, 132), (8, 229, 133), (8, 234, 135), (8, 241, 137), (8, 244, 134)]
theorem grl_8 : ∀ q ∈ cRl_8, cRf q := List.forall_mem_cons.mpr ⟨gq_8_166, List.forall_mem_cons.mpr ⟨gq_8_170, List.forall_mem_cons.mpr ⟨gq_8_173, List.forall_mem_cons.mpr ⟨gq_8_176, List.forall_mem_cons.mpr ⟨gq_8_179, List.forall_mem_cons.mpr ⟨gq_8_186, List.forall_mem_cons.mpr ⟨gq_8_189, List.forall_mem_cons.mpr ⟨gq_8_192, List.forall_mem_cons.mpr ⟨gq_8_195, List.forall_mem_cons.mpr ⟨gq_8_198, List.forall_mem_cons.mpr ⟨gq_8_203, List.forall_mem_cons.mpr ⟨gq_8_209, List.forall_mem_cons.mpr ⟨gq_8_212, List.forall_mem_cons.mpr ⟨gq_8_215, List.forall_mem_cons.mpr ⟨gq_8_219, List.forall_mem_cons.mpr ⟨gq_8_226, List.forall_mem_cons.mpr ⟨gq_8_229, List.forall_mem_cons.mpr ⟨gq_8_234, List.forall_mem_cons.mpr ⟨gq_8_241, List.forall_mem_cons.mpr ⟨gq_8_244, fun _ h => absurd h List.not_mem_nil⟩⟩⟩⟩⟩⟩⟩⟩⟩⟩⟩⟩⟩⟩⟩⟩⟩⟩⟩⟩
def cRl_9 : List (Nat × Nat × Nat) := [(8, 247, 136), (8, 253, 139), (8, 256, 125), (8, 259, 129), (8, 262, 131), (8, 265, 138), (8, 268, 140), (8, 275, 142), (9, 335, 152), (9, 492, 153), (9, 495, 155), (9, 1059, 171), (10, 9, 154), (12, 1, 1000), (13, 1, 156), (14, 86, 1004), (14, 150, 1001), (14, 300, 168), (14, 304, 1003), (15, 105, 171)]
theorem grl_9 : ∀ q ∈ cRl_9, cRf q := List.forall_mem_cons.mpr ⟨gq_8_247, List.forall_mem_cons.mpr ⟨gq_8_253, List.forall_mem_cons.mpr ⟨gq_8_256, List.forall_mem_cons.mpr ⟨gq_8_259, List.forall_mem_cons.mpr ⟨gq_8_262, List.forall_mem_cons.mpr ⟨gq_8_265, List.forall_mem_cons.mpr ⟨gq_8_268, List.forall_mem_cons.mpr ⟨gq_8_275, List.forall_mem_cons.mpr ⟨gq_9_335, List.forall_mem_cons.mpr ⟨gq_9_492, List.forall_mem_cons.mpr ⟨gq_9_495, List.forall_mem_cons.mpr ⟨gq_9_1059, List.forall_mem_cons.mpr ⟨gq_10_9, List.forall_mem_cons.mpr ⟨gq_12_1, List.forall_mem_cons.mpr ⟨gq_13_1, List.forall_mem_cons.mpr ⟨gq_14_86, List.forall_mem_cons.mpr ⟨gq_14_150, List.forall_mem_cons.mpr ⟨gq_14_300, List.forall_mem_cons.mpr ⟨gq_14_304, List.forall_mem_cons.mpr ⟨gq_15_105, fun _ h => absurd h List.not_mem_nil⟩⟩⟩⟩⟩⟩⟩⟩⟩⟩⟩⟩⟩⟩⟩⟩⟩⟩⟩⟩
def cRl_10 : List (Nat × Nat × Nat) := [(16, 194, 1002)]
theorem grl_10 : ∀ q ∈ cRl_10, cRf q := List.forall_mem_cons.mpr ⟨gq_16_194, fun _ h => absurd h List.not_mem_nil⟩
set_option maxRecDepth 20000 in
theorem cRl_eq : cRl = cRl_0 ++ cRl_1 ++ cRl_2 ++ cRl_3 ++ cRl_4 ++ cRl_5 ++ cRl_6 ++ cRl_7 ++ cRl_8 ++ cRl_9 ++ cRl_10 := by decide +kernel
theorem cR_ok : ∀ o i k, cR o i = some k → cRf (o, i, k) := by
  intro o i k h
  unfold cR at h
  obtain ⟨q, hq, rfl⟩ := Option.map_eq_some_iff.mp h
  have h1 := List.find?_some hq
  have h2 := List.mem_of_find?_eq_some hq
  simp only [Bool.and_eq_true, beq_iff_eq] at h1
  obtain ⟨rfl, rfl⟩ := h1
  rw [cRl_eq] at h2
  simp only [List.mem_append] at h2
  rcases h2 with (((((((((h2 | h2) | h2) | h2) | h2) | h2) | h2) | h2) | h2) | h2) | h2
  · exact grl_0 _ h2
  · exact grl_1 _ h2
  · exact grl_2 _ h2
  · exact grl_3 _ h2
  · exact grl_4 _ h2
  · exact grl_5 _ h2
  · exact grl_6 _ h2
  · exact grl_7 _ h2
  · exact grl_8 _ h2
  · exact grl_9 _ h2
  · exact grl_10 _ h2
theorem gs_oi : Cond.instanceMethod objectInit ∈ gW := gWm (w := Cond.instanceMethod objectInit) 100 (by decide +kernel) (by decide +kernel)
theorem gs_oc : Cond.code objectInit ⟨#[0xb1]⟩ 1 none ∈ gW := gWm (w := Cond.code objectInit ⟨#[0xb1]⟩ 1 none) 101 (by decide +kernel) (by decide +kernel)
theorem gs_an : Cond.native arraycopyName ∈ gW := gWm (w := Cond.native arraycopyName) 407 (by decide +kernel) (by decide +kernel)
theorem gs_as : Cond.static arraycopyName ∈ gW := gWm (w := Cond.static arraycopyName) 406 (by decide +kernel) (by decide +kernel)
theorem gs_ai : Cond.initialized "java/lang/System" ∈ gW := gWm (w := Cond.initialized "java/lang/System") 84 (by decide +kernel) (by decide +kernel)
theorem gs_max : Cond.static Lib.Math.max.name ∈ gW ∧ Cond.code Lib.Math.max.name Lib.Math.max.code 2 (some .int) ∈ gW := ⟨gWm (w := Cond.static Lib.Math.max.name) 372 (by decide +kernel) (by decide +kernel), gWm (w := Cond.code Lib.Math.max.name Lib.Math.max.code 2 (some .int)) 373 (by decide +kernel) (by decide +kernel)⟩
theorem gs_min : Cond.static Lib.Math.min.name ∈ gW ∧ Cond.code Lib.Math.min.name Lib.Math.min.code 2 (some .int) ∈ gW := ⟨gWm (w := Cond.static Lib.Math.min.name) 302 (by decide +kernel) (by decide +kernel), gWm (w := Cond.code Lib.Math.min.name Lib.Math.min.code 2 (some .int)) 303 (by decide +kernel) (by decide +kernel)⟩
theorem gs_mi : Cond.initialized "java/lang/Math" ∈ gW := gWm (w := Cond.initialized "java/lang/Math") 82 (by decide +kernel) (by decide +kernel)
theorem gs_gi : Cond.instanceMethod ⟨"java/lang/Object", "getClass", "()Ljava/lang/Class;"⟩ ∈ gW := gWm (w := Cond.instanceMethod ⟨"java/lang/Object", "getClass", "()Ljava/lang/Class;"⟩) 382 (by decide +kernel) (by decide +kernel)
theorem gs_gn : Cond.native ⟨"java/lang/Object", "getClass", "()Ljava/lang/Class;"⟩ ∈ gW := gWm (w := Cond.native ⟨"java/lang/Object", "getClass", "()Ljava/lang/Class;"⟩) 397 (by decide +kernel) (by decide +kernel)
theorem gs_gs : Cond.selects "[Ljava/lang/Object;" ⟨"java/lang/Object", "getClass", "()Ljava/lang/Class;"⟩ ⟨"java/lang/Object", "getClass", "()Ljava/lang/Class;"⟩ ∈ gW := gWm (w := Cond.selects "[Ljava/lang/Object;" ⟨"java/lang/Object", "getClass", "()Ljava/lang/Class;"⟩ ⟨"java/lang/Object", "getClass", "()Ljava/lang/Class;"⟩) 1387 (by decide +kernel) (by decide +kernel)
theorem gs_int : Cond.arrayClass .int ∈ gW := gWm (w := Cond.arrayClass .int) 159 (by decide +kernel) (by decide +kernel)
theorem gs_char : Cond.arrayClass .char ∈ gW := gWm (w := Cond.arrayClass .char) 173 (by decide +kernel) (by decide +kernel)
theorem gs_200 : Cond.constant (ownS 16) 200 2147483639 ∈ gW := gWm (w := Cond.constant (ownS 16) 200 2147483639) 374 (by decide +kernel) (by decide +kernel)
theorem gl_8_139 : Cond.constantLong (ownS 8) 139 256 ∈ gW := gWm (w := Cond.constantLong (ownS 8) 139 256) 1286 (by decide +kernel) (by decide +kernel)
theorem gl_8_201 : Cond.constantLong (ownS 8) 201 139123908896 ∈ gW := gWm (w := Cond.constantLong (ownS 8) 201 139123908896) 1281 (by decide +kernel) (by decide +kernel)
theorem gl_8_207 : Cond.constantLong (ownS 8) 207 13067013340816672 ∈ gW := gWm (w := Cond.constantLong (ownS 8) 207 13067013340816672) 1287 (by decide +kernel) (by decide +kernel)
theorem gl_8_232 : Cond.constantLong (ownS 8) 232 8236 ∈ gW := gWm (w := Cond.constantLong (ownS 8) 232 8236) 1316 (by decide +kernel) (by decide +kernel)
theorem gl_8_237 : Cond.constantLong (ownS 8) 237 540700233 ∈ gW := gWm (w := Cond.constantLong (ownS 8) 237 540700233) 1325 (by decide +kernel) (by decide +kernel)
theorem gl_8_239 : Cond.constantLong (ownS 8) 239 35383826980908 ∈ gW := gWm (w := Cond.constantLong (ownS 8) 239 35383826980908) 1326 (by decide +kernel) (by decide +kernel)
theorem gl_8_278 : Cond.constantLong (ownS 8) 278 111542001886546 ∈ gW := gWm (w := Cond.constantLong (ownS 8) 278 111542001886546) 1359 (by decide +kernel) (by decide +kernel)
theorem gl_8_280 : Cond.constantLong (ownS 8) 280 44119840088942 ∈ gW := gWm (w := Cond.constantLong (ownS 8) 280 44119840088942) 1360 (by decide +kernel) (by decide +kernel)
theorem lL_ok : ∀ o i v, lL o i = some v → Cond.constantLong (ownS o) i v ∈ gW := by
  intro o i v h
  unfold lL at h
  split at h
  · cases h; exact gl_8_139
  · cases h; exact gl_8_201
  · cases h; exact gl_8_207
  · cases h; exact gl_8_232
  · cases h; exact gl_8_237
  · cases h; exact gl_8_239
  · cases h; exact gl_8_278
  · cases h; exact gl_8_280
  · cases h
theorem gs_cl110 : Cond.classLink (ownS 14) 110 "[Ljava/lang/Object;" ∈ gW := gWm (w := Cond.classLink (ownS 14) 110 "[Ljava/lang/Object;") 401 (by decide +kernel) (by decide +kernel)
theorem gs_st1 : Cond.fieldLink RJx4a65c 39 "java/util/ArrayList" "DEFAULTCAPACITY_EMPTY_ELEMENTDATA" "[Ljava/lang/Object;" ∈ gW := gWm (w := Cond.fieldLink RJx4a65c 39 "java/util/ArrayList" "DEFAULTCAPACITY_EMPTY_ELEMENTDATA" "[Ljava/lang/Object;") 114 (by decide +kernel) (by decide +kernel)
theorem gs_st2 : Cond.fieldLink RJ0 38 "java/lang/String" "COMPACT_STRINGS" "Z" ∈ gW := gWm (w := Cond.fieldLink RJ0 38 "java/lang/String" "COMPACT_STRINGS" "Z") 515 (by decide +kernel) (by decide +kernel)
theorem gs_st3 : Cond.fieldLink RJ0 1053 "jdk/internal/util/Preconditions" "SIOOBE_FORMATTER" "Ljava/util/function/BiFunction;" ∈ gW := gWm (w := Cond.fieldLink RJ0 1053 "jdk/internal/util/Preconditions" "SIOOBE_FORMATTER" "Ljava/util/function/BiFunction;") 531 (by decide +kernel) (by decide +kernel)
theorem gs_sv : Cond.fieldLink RJ0 9 "java/lang/String" "value" "[B" ∈ gW := gWm (w := Cond.fieldLink RJ0 9 "java/lang/String" "value" "[B") 1395 (by decide +kernel) (by decide +kernel)
theorem gs_sc : Cond.fieldLink RJ0 15 "java/lang/String" "coder" "B" ∈ gW := gWm (w := Cond.fieldLink RJ0 15 "java/lang/String" "coder" "B") 1396 (by decide +kernel) (by decide +kernel)
theorem gs_sf : Cond.sameField "java/util/ArrayList" "java/util/AbstractList" "modCount" "I" ∈ gW := gWm (w := Cond.sameField "java/util/ArrayList" "java/util/AbstractList" "modCount" "I") 120 (by decide +kernel) (by decide +kernel)
end
section
/-! THE PURE MACHINE. A state: the next address, the slots in use, and by address: the kind, the length of an array, ints (fields or places), references (fields or places). Kinds: 1 + the number in vwCl; 101 int[], 102 char[], 103 Text[], 104 Object[]; constants: 1000 String, 1001 its bytes, 1002 NEEDED, 1003 the empty element data; 0 nothing that is known -/
abbrev PS : Type := Nat × Nat × (Nat → Nat) × (Nat → Nat) × (Nat → Nat → Int32) × (Nat → Nat → Option Nat)
def zN (σ : PS) : Nat := σ.1
def zS (σ : PS) : Nat := σ.2.1
def zK (σ : PS) : Nat → Nat := σ.2.2.1
def zL (σ : PS) : Nat → Nat := σ.2.2.2.1
def zI (σ : PS) : Nat → Nat → Int32 := σ.2.2.2.2.1
def zP (σ : PS) : Nat → Nat → Option Nat := σ.2.2.2.2.2
/-- a store of an int, of a reference; a new object (kind c, N slots); a new array (kind c, n places) -/
def stI (σ : PS) (a k : Nat) (v : Int32) : PS := (zN σ, zS σ, zK σ, zL σ, fun b j => if b = a ∧ j = k then v else zI σ b j, zP σ)
def stP (σ : PS) (a k : Nat) (v : Option Nat) : PS := (zN σ, zS σ, zK σ, zL σ, zI σ, fun b j => if b = a ∧ j = k then v else zP σ b j)
def alO (σ : PS) (c N : Nat) : PS := (zN σ + 1, zS σ + N, fun b => if b = zN σ then c else zK σ b, zL σ, fun b j => if b = zN σ then 0 else zI σ b j, fun b j => if b = zN σ then none else zP σ b j)
def alA (σ : PS) (c n : Nat) : PS := (zN σ + 1, zS σ + n, fun b => if b = zN σ then c else zK σ b, fun b => if b = zN σ then n else zL σ b, fun b j => if b = zN σ then 0 else zI σ b j, fun b j => if b = zN σ then none else zP σ b j)
/-- System.arraycopy: of ints, of references -/
def cpI (σ : PS) (a sp b dp n : Nat) : PS := (zN σ, zS σ, zK σ, zL σ, fun x j => if x = b then va_cpy (zI σ a) (zI σ b) sp dp n j else zI σ x j, zP σ)
def cpP (σ : PS) (a sp b dp n : Nat) : PS := (zN σ, zS σ, zK σ, zL σ, zI σ, fun x j => if x = b then va_cpy (zP σ a) (zP σ b) sp dp n j else zP σ x j)
/-- nothing lies at addresses to come -/
def zOK (σ : PS) : Prop := ∀ a, zN σ ≤ a → zK σ a = 0
/-- answers: a value or none; or the number of an exception -/
abbrev Rs : Type := Option Value ⊕ Nat
abbrev LV : Type := List (Option Value)
def clr : Option Value → Option Value
  | some (.long _) => none
  | some (.double _) => none
  | x => x
/-- a store into the locals -/
def stl (ls : LV) (i : Nat) (v : Value) : LV := (match i with | 0 => ls | j + 1 => ls.set j (clr (ls.getD j none))).set i (some v)
def stl2 (ls : LV) (i : Nat) (v : Value) : LV := ((match i with | 0 => ls | j + 1 => ls.set j (clr (ls.getD j none))).set i (some v)).set (i + 1) none
/-- a call's locals at its entry -/
def ent : List Value → LV
  | [] => []
  | .long x :: r => some (.long x) :: none :: ent r
  | .double x :: r => some (.double x) :: none :: ent r
  | v :: r => some v :: ent r
def entL (vs : List Value) (n : Nat) : LV := ent vs ++ List.replicate (n - (ent vs).length) none
def jmp (pc : Nat) (off : Int) : Option Nat := if 0 ≤ (pc : Int) + off then some ((pc : Int) + off).toNat else none
def cnd (c : Jvm.ClassFile.Cond) (x y : Int32) : Bool := match c with
  | .eq => decide (x = y)
  | .ne => decide (¬ x = y)
  | .lt => decide (x < y)
  | .ge => decide (y ≤ x)
  | .gt => decide (y < x)
  | .le => decide (x ≤ y)
def rfv (r : Option Nat) : Value := va_rf r
def rOf : Value → Option (Option Nat)
  | .ref a => some (some a)
  | .null => some none
  | _ => none
/-- an int that a method of this type may answer -/
def nOK (ty : Option FieldType) (x : Int32) : Bool := match ty with
  | some .int => true
  | some .boolean => decide (x = 0) || decide (x = 1)
  | some .char => decide (narrow .char (.int x) = .int x)
  | some .byte => decide (narrow .byte (.int x) = .int x)
  | _ => false
def aOK (ty : Option FieldType) : Bool := match ty with
  | some (.object _) => true
  | some (.array _) => true
  | _ => false
/-- the room for a call of k2 out of k -/
def rmOK (k k2 : Nat) : Bool := decide (mF k2 + 1 ≤ mF k) && decide (8 + (mL k2 + 11) + mW k2 ≤ mW k)
def stO (g : Nat → Nat) : Nat → Option Value
  | 0 => some (.ref (g 0))
  | 1 => some (.ref (g 1))
  | 2 => some (.int 1)
  | 3 => some (va_rf (if g 6 = 0 then none else some (g 6 - 1)))
  | _ => none
def okP (σ : PS) (r : Option Nat) : Bool := match r with
  | some y => decide (1 ≤ zK σ y) && decide (zK σ y ≤ 9)
  | none => true
/-- who may be called: 0 an instance's method, 1 a constructor, 2 a static one -/
def rcv (σ : PS) (op k2 : Nat) (as : List Value) : Bool := match op, as with
  | 0, .ref b :: _ => !mS k2 && !mI k2 && ((decide (mO k2 ≤ 8) && zK σ b == mO k2 + 1) || (mO k2 == 9 && zK σ b == 1000))
  | 1, .ref _ :: _ => !mS k2 && mI k2
  | 2, _ => mS k2
  | _, _ => false
/-- a call of a method of the table -/
def calM (rec : Nat → Nat → LV → List Value → PS → Option (Rs × PS)) (k pc len : Nat) (ls : LV) (st : List Value) (σ : PS) (k2 op : Nat) : Option (Rs × PS) :=
  if rmOK k k2 = true ∧ mA k2 ≤ st.length ∧ (st.drop (mA k2)).length ≤ 4 ∧ (ent (st.take (mA k2)).reverse).length ≤ mL k2 ∧ rcv σ op k2 (st.take (mA k2)).reverse = true then
    match rec k2 0 (entL (st.take (mA k2)).reverse (mL k2)) [] σ with
    | some (.inl v, τ) => rec k (pc + len) ls (v.toList ++ st.drop (mA k2)) τ
    | some (.inr j, τ) => if 81 ≤ k2 ∧ k2 ≤ 86 then some (.inr j, τ) else none
    | none => none
  else none
def calA (rec : PS → Option (Rs × PS)) (σ : PS) (a sp b dp n : Nat) : Option (Rs × PS) :=
  if sp + n ≤ zL σ a ∧ dp + n ≤ zL σ b ∧ ¬ a = b then
    if zK σ a = 102 ∧ zK σ b = 102 ∧ (∀ i, i < n → narrow .char (.int (zI σ a (sp + i))) = .int (zI σ a (sp + i))) then rec (cpI σ a sp b dp n)
    else if zK σ a = 104 ∧ zK σ b = 104 ∧ (∀ i, i < n → okP σ (zP σ a (sp + i)) = true) then rec (cpP σ a sp b dp n)
    else none
  else none
/-- the few that stand for themselves: Object.<init>, System.arraycopy, Math.max, Math.min, getClass -/
def calS (g : Nat → Nat) (rec : List Value → PS → Option (Rs × PS)) (k : Nat) (st : List Value) (σ : PS) (k2 op : Nat) : Option (Rs × PS) :=
  match k2, op, st with
  | 1000, 1, .ref _ :: r => if r.length ≤ 4 ∧ 1 ≤ mF k ∧ 20 ≤ mW k then rec r σ else none
  | 1001, 2, .int n :: .int dp :: .ref b :: .int sp :: .ref a :: r =>
    if r.length ≤ 4 ∧ 1 ≤ mF k ∧ 60 ≤ mW k ∧ ¬ sp < 0 ∧ ¬ dp < 0 ∧ ¬ n < 0 then calA (rec r) σ a sp.toNatClampNeg b dp.toNatClampNeg n.toNatClampNeg else none
  | 1002, 2, .int y :: .int x :: r => if r.length ≤ 4 ∧ 1 ≤ mF k ∧ 21 ≤ mW k then rec (.int (if x < y then y else x) :: r) σ else none
  | 1003, 2, .int y :: .int x :: r => if r.length ≤ 4 ∧ 1 ≤ mF k ∧ 21 ≤ mW k then rec (.int (if y < x then y else x) :: r) σ else none
  | 1004, 0, .ref a :: r => if r.length ≤ 4 ∧ 1 ≤ mF k ∧ 22 ≤ mW k ∧ zK σ a = 104 then rec (.ref (g 7) :: r) σ else none
  | _, _, _ => none
def calX (g : Nat → Nat) (rec : Nat → Nat → LV → List Value → PS → Option (Rs × PS)) (k pc len : Nat) (ls : LV) (st : List Value) (σ : PS) (i op : Nat) : Option (Rs × PS) :=
  match cR (mO k) i with
  | none => none
  | some k2 => if 1000 ≤ k2 then calS g (rec k (pc + len) ls) k st σ k2 op else calM rec k pc len ls st σ k2 op
def kOK (c κ : Nat) : Bool := (decide (c ≤ 8) && κ == c + 1) || (c == 9 && κ == 1000)
def fldV (σ : PS) (a c j : Nat) : Value := if fB c j = true ∨ (c = 9 ∧ j = 0) then va_rf (zP σ a j) else .int (zI σ a j)
def getX (rec : List Value → Option (Rs × PS)) (k : Nat) (st : List Value) (σ : PS) (i : Nat) : Option (Rs × PS) :=
  match fR (mO k) i, st with
  | some (c, j), .ref a :: r => if kOK c (zK σ a) = true then rec (fldV σ a c j :: r) else none
  | _, _ => none
def putX (rec : List Value → PS → Option (Rs × PS)) (k : Nat) (st : List Value) (σ : PS) (i : Nat) : Option (Rs × PS) :=
  match fR (mO k) i, st with
  | some (c, j), v :: .ref a :: r =>
    if c ≤ 8 ∧ zK σ a = c + 1 ∧ (fF c j = false ∨ (mI k = true ∧ mO k = c)) then
      if fB c j = true then
        match rOf v with
        | some q => rec r (stP σ a j q)
        | none => none
      else
        match v with
        | .int x => if fZ c j = false ∨ x = 0 ∨ x = 1 then rec r (stI σ a j x) else none
        | _ => none
    else none
  | _, _ => none
/-- one instruction -/
def ex (g : Nat → Nat) (C S : Nat) (rec : Nat → Nat → LV → List Value → PS → Option (Rs × PS)) (k pc len : Nat) (ls : LV) (st : List Value) (σ : PS) (i : Instr) : Option (Rs × PS) :=
  match i with
  | .iconst n => rec k (pc + len) ls (.int (Int32.ofInt n) :: st) σ
  | .bipush n => rec k (pc + len) ls (.int (Int8.ofInt n).toInt32 :: st) σ
  | .sipush n => rec k (pc + len) ls (.int (Int16.ofInt n).toInt32 :: st) σ
  | .lconst n => rec k (pc + len) ls (.long (Int64.ofNat (n : Nat)) :: st) σ
  | .aconst_null => rec k (pc + len) ls (.null :: st) σ
  | .iload i => (match ls[i]? with | some (some (.int x)) => rec k (pc + len) ls (.int x :: st) σ | _ => none)
  | .iload_n i => (match ls[(i : Nat)]? with | some (some (.int x)) => rec k (pc + len) ls (.int x :: st) σ | _ => none)
  | .lload_n i => (match ls[(i : Nat)]? with | some (some (.long x)) => rec k (pc + len) ls (.long x :: st) σ | _ => none)
  | .aload i => (match ls[i]? with | some (some v) => (match rOf v with | some r => rec k (pc + len) ls (va_rf r :: st) σ | none => none) | _ => none)
  | .aload_n i => (match ls[(i : Nat)]? with | some (some v) => (match rOf v with | some r => rec k (pc + len) ls (va_rf r :: st) σ | none => none) | _ => none)
  | .istore i => (match st with | .int x :: r => if i < ls.length then rec k (pc + len) (stl ls i (.int x)) r σ else none | _ => none)
  | .istore_n i => (match st with | .int x :: r => if (i : Nat) < ls.length then rec k (pc + len) (stl ls i (.int x)) r σ else none | _ => none)
  | .lstore_n i => (match st with | .long x :: r => if (i : Nat) + 1 < ls.length then rec k (pc + len) (stl2 ls i (.long x)) r σ else none | _ => none)
  | .astore i => (match st with | v :: r => (match rOf v with | some q => if i < ls.length then rec k (pc + len) (stl ls i (va_rf q)) r σ else none | none => none) | _ => none)
  | .astore_n i => (match st with | v :: r => (match rOf v with | some q => if (i : Nat) < ls.length then rec k (pc + len) (stl ls i (va_rf q)) r σ else none | none => none) | _ => none)
  | .iinc i n => if i < ls.length then (match ls[i]? with | some (some (.int x)) => rec k (pc + len) (stl ls i (.int (x + Int32.ofInt n))) st σ | _ => none) else none
  | .iadd => (match st with | .int y :: .int x :: r => rec k (pc + len) ls (.int (x + y) :: r) σ | _ => none)
  | .isub => (match st with | .int y :: .int x :: r => rec k (pc + len) ls (.int (x - y) :: r) σ | _ => none)
  | .imul => (match st with | .int y :: .int x :: r => rec k (pc + len) ls (.int (x * y) :: r) σ | _ => none)
  | .iand => (match st with | .int y :: .int x :: r => rec k (pc + len) ls (.int (x &&& y) :: r) σ | _ => none)
  | .idiv => (match st with | .int y :: .int x :: r => if y = 0 then none else rec k (pc + len) ls (.int (x / y) :: r) σ | _ => none)
  | .irem => (match st with | .int y :: .int x :: r => if y = 0 then none else rec k (pc + len) ls (.int (x - x / y * y) :: r) σ | _ => none)
  | .ishr => (match st with | .int y :: .int x :: r => rec k (pc + len) ls (.int (x >>> (y &&& 31)) :: r) σ | _ => none)
  | .iushr => (match st with | .int y :: .int x :: r => rec k (pc + len) ls (.int (x.toUInt32 >>> (y.toUInt32 &&& Int32.toUInt32 31)).toInt32 :: r) σ | _ => none)
  | .ldiv => (match st with | .long y :: .long x :: r => if y = 0 then none else rec k (pc + len) ls (.long (x / y) :: r) σ | _ => none)
  | .lrem => (match st with | .long y :: .long x :: r => if y = 0 then none else rec k (pc + len) ls (.long (x - x / y * y) :: r) σ | _ => none)
  | .lcmp => (match st with | .long y :: .long x :: r => rec k (pc + len) ls (.int (lg_cmp x y) :: r) σ | _ => none)
  | .l2i => (match st with | .long x :: r => rec k (pc + len) ls (.int x.toInt32 :: r) σ | _ => none)
  | .i2c => (match st with | .int x :: r => rec k (pc + len) ls (.int (x.toUInt32 % 65536).toInt32 :: r) σ | _ => none)
  | .dup => (match st with | v :: r => if v.category = 1 then rec k (pc + len) ls (v :: v :: r) σ else none | _ => none)
  | .dup_x1 => (match st with | v :: u :: r => if v.category = 1 ∧ u.category = 1 then rec k (pc + len) ls (v :: u :: v :: r) σ else none | _ => none)
  | .dup2 => (match st with | v :: u :: r => if v.category = 1 ∧ u.category = 1 then rec k (pc + len) ls (v :: u :: v :: u :: r) σ else none | _ => none)
  | .pop => (match st with | v :: r => if v.category = 1 then rec k (pc + len) ls r σ else none | _ => none)
  | .goto off => (match jmp pc off with | some t => rec k t ls st σ | none => none)
  | .ifCond c off => (match st, jmp pc off with | .int x :: r, some t => if cnd c x 0 = true then rec k t ls r σ else rec k (pc + len) ls r σ | _, _ => none)
  | .if_icmp c off => (match st, jmp pc off with | .int y :: .int x :: r, some t => if cnd c x y = true then rec k t ls r σ else rec k (pc + len) ls r σ | _, _ => none)
  | .ifnull off => (match st with | .ref _ :: r => rec k (pc + len) ls r σ | .null :: r => (match jmp pc off with | some t => rec k t ls r σ | none => none) | _ => none)
  | .if_acmp c off => (match st, jmp pc off with
    | v :: u :: r, some t => (match rOf u, rOf v with
      | some x, some y => (match c with
        | .eq => if x = y then rec k t ls r σ else rec k (pc + len) ls r σ
        | .ne => if x = y then rec k (pc + len) ls r σ else rec k t ls r σ)
      | _, _ => none)
    | _, _ => none)
  | .getfield i => getX (fun s => rec k (pc + len) ls s σ) k st σ i
  | .putfield i => putX (fun s τ => rec k (pc + len) ls s τ) k st σ i
  | .getstatic i => (match sR (mO k) i with | some j => (match stO g j with | some v => rec k (pc + len) ls (v :: st) σ | none => none) | none => none)
  | .iaload => (match st with | .int j :: .ref a :: r => if (zK σ a = 101 ∨ zK σ a = 1002) ∧ ¬ j < 0 ∧ j.toNatClampNeg < zL σ a then rec k (pc + len) ls (.int (zI σ a j.toNatClampNeg) :: r) σ else none | _ => none)
  | .caload => (match st with | .int j :: .ref a :: r => if zK σ a = 102 ∧ ¬ j < 0 ∧ j.toNatClampNeg < zL σ a then rec k (pc + len) ls (.int (zI σ a j.toNatClampNeg) :: r) σ else none | _ => none)
  | .baload => (match st with | .int j :: .ref a :: r => if zK σ a = 1001 ∧ ¬ j < 0 ∧ j.toNatClampNeg < zL σ a then rec k (pc + len) ls (.int (zI σ a j.toNatClampNeg) :: r) σ else none | _ => none)
  | .aaload => (match st with | .int j :: .ref a :: r => if (zK σ a = 103 ∨ zK σ a = 104) ∧ ¬ j < 0 ∧ j.toNatClampNeg < zL σ a then rec k (pc + len) ls (va_rf (zP σ a j.toNatClampNeg) :: r) σ else none | _ => none)
  | .iastore => (match st with | .int x :: .int j :: .ref a :: r => if zK σ a = 101 ∧ ¬ j < 0 ∧ j.toNatClampNeg < zL σ a then rec k (pc + len) ls r (stI σ a j.toNatClampNeg x) else none | _ => none)
  | .castore => (match st with | .int x :: .int j :: .ref a :: r => if zK σ a = 102 ∧ ¬ j < 0 ∧ j.toNatClampNeg < zL σ a then rec k (pc + len) ls r (stI σ a j.toNatClampNeg (vp_nar .char x)) else none | _ => none)
  | .aastore => (match st with | .ref y :: .int j :: .ref a :: r => if ((zK σ a = 103 ∧ zK σ y = 7) ∨ (zK σ a = 104 ∧ okP σ (some y) = true)) ∧ ¬ j < 0 ∧ j.toNatClampNeg < zL σ a then rec k (pc + len) ls r (stP σ a j.toNatClampNeg (some y)) else none | _ => none)
  | .arraylength => (match st with | .ref a :: r => if (101 ≤ zK σ a ∧ zK σ a ≤ 104) ∨ zK σ a = 1001 ∨ zK σ a = 1003 then rec k (pc + len) ls (.int (Int32.ofNat (zL σ a)) :: r) σ else none | _ => none)
  | .new i => (match kR (mO k) i with | some c => if c ≤ 8 ∧ zN σ + 1 ≤ C ∧ zS σ + fN c ≤ S then rec k (pc + len) ls (.ref (zN σ) :: st) (alO σ (c + 1) (fN c)) else none | none => none)
  | .newarray t => (match st with
    | .int n :: r => if ¬ n < 0 ∧ n.toNatClampNeg ≤ 100000 ∧ zN σ + 1 ≤ C ∧ zS σ + n.toNatClampNeg ≤ S then
        (match t with
          | .int => rec k (pc + len) ls (.ref (zN σ) :: r) (alA σ 101 n.toNatClampNeg)
          | .char => rec k (pc + len) ls (.ref (zN σ) :: r) (alA σ 102 n.toNatClampNeg)
          | _ => none)
      else none
    | _ => none)
  | .anewarray i => (match kR (mO k) i, st with
    | some c, .int n :: r => if (c = 6 ∨ c = 104) ∧ ¬ n < 0 ∧ n.toNatClampNeg ≤ 100000 ∧ zN σ + 1 ≤ C ∧ zS σ + n.toNatClampNeg ≤ S then rec k (pc + len) ls (.ref (zN σ) :: r) (alA σ (if c = 6 then 103 else 104) n.toNatClampNeg) else none
    | _, _ => none)
  | .checkcast i => (match kR (mO k) i, st with
    | some c, .ref a :: r => if (c ≤ 8 ∧ zK σ a = c + 1) ∨ (c = 204 ∧ zK σ a = 104) then rec k (pc + len) ls (.ref a :: r) σ else none
    | _, _ => none)
  | .ldc i => (match lS (mO k) i with
    | some j => rec k (pc + len) ls (.ref (g (100 + j)) :: st) σ
    | none => if mO k = 14 ∧ i = 110 then rec k (pc + len) ls (.ref (g 7) :: st) σ else if mO k = 16 ∧ i = 200 then rec k (pc + len) ls (.int 2147483639 :: st) σ else none)
  | .ldc2_w i => (match lL (mO k) i with | some v => rec k (pc + len) ls (.long v :: st) σ | none => none)
  | .invokevirtual i => calX g rec k pc len ls st σ i 0
  | .invokespecial i => calX g rec k pc len ls st σ i 1
  | .invokestatic i => calX g rec k pc len ls st σ i 2
  | .ireturn => (match st with | [.int x] => if nOK (mR k) x = true then some (.inl (some (.int x)), σ) else none | _ => none)
  | .areturn => (match st with | [v] => (match rOf v with | some q => if aOK (mR k) = true then some (.inl (some (va_rf q)), σ) else none | none => none) | _ => none)
  | .return_ => (match st with | [] => if mR k = none then some (.inl none, σ) else none | _ => none)
  | _ => none
def ilen : Instr → Nat
  | .bipush _ | .iload _ | .aload _ | .istore _ | .astore _ | .ldc _ | .newarray _ => 2
  | .sipush _ | .iinc _ _ | .goto _ | .ifCond _ _ | .if_icmp _ _ | .ifnull _ | .if_acmp _ _ | .getfield _ | .putfield _ | .getstatic _ | .new _ | .anewarray _ | .checkcast _ | .ldc2_w _ | .invokevirtual _ | .invokespecial _ | .invokestatic _ => 3
  | _ => 1
def stp (g : Nat → Nat) (C S : Nat) (rec : Nat → Nat → LV → List Value → PS → Option (Rs × PS)) (k pc : Nat) (ls : LV) (st : List Value) (σ : PS) : Option (Rs × PS) :=
  match tR k pc with
  | some j => if st.length ≤ 4 ∧ 6 ≤ mF k ∧ 90 ≤ mW k ∧ zN σ + 1 ≤ C ∧ zS σ + 6 ≤ S then some (.inr j, σ) else none
  | none =>
    match decode (mB k) pc with
    | .ok (i, len) => if len = ilen i then ex g C S rec k pc (ilen i) ls st σ i else none
    | .error _ => none
/-- the machine: so many steps deep -/
def run (g : Nat → Nat) (C S : Nat) : Nat → Nat → Nat → LV → List Value → PS → Option (Rs × PS)
  | 0, _, _, _, _, _ => none
  | f + 1, k, pc, ls, st, σ => stp g C S (run g C S f) k pc ls st σ
end
section
/-! THE MACHINE'S HEAP AND THE PURE STATE -/
/-- the slots in use -/
def hsl (H : Heap) : Nat := H.foldl (fun n c => n + c.slots.size) 0
section SimW
variable {p : Program} {l : Launch} {e : Env} {R : Room} {s : State} {m : MethodId} {args : Array Value} {below : List Frame} {meth : Method} {c : Code} {H : Heap} {locs : List Loc} {cells slots : Nat} {Q : State → Prop}
theorem st_sum {T : State} (X : Stand p l e R s m args below meth c T locs cells slots) : hsl T.heap = hsl s.heap + ((T.heap.toList.drop s.heap.size).map (·.slots.size)).sum := by
  have h0 : s.slotsTrue = true := by
    have h := X.room
    simp only [State.hasRoom, Bool.and_eq_true] at h
    exact h.2
  have h1 := X.book
  have h4 : T.slotsUsed = s.slotsUsed + _ := X.same.2.2.2.1
  simp only [State.slotsTrue, beq_iff_eq] at h0 h1
  unfold hsl
  rw [← h1, ← h0, h4]
  rfl
theorem W_look {g : JFrame} (k : hsl H ≤ hsl s.heap + slots → H.size ≤ s.heap.size + cells → W p l e R s m args below meth c H locs cells slots Q g) : W p l e R s m args below meth c H locs cells slots Q g := by
  intro T hT X
  refine k ?_ ?_ T hT X
  · have h := st_sum X
    have h5 := X.same.2.2.2.2.1
    rw [hT] at h
    have h6 : ((T.heap.toList.drop s.heap.size).map (·.slots.size)).sum ≤ slots := h5
    rw [hT] at h6
    omega
  · have h := X.heapSize
    rw [hT] at h
    exact h
theorem W_tight {g : JFrame} {cells' slots' : Nat} (h1 : hsl H ≤ hsl s.heap + slots') (h2 : H.size ≤ s.heap.size + cells') (k : W p l e R s m args below meth c H locs cells' slots' Q g) : W p l e R s m args below meth c H locs cells slots Q g := by
  intro T hT X
  have h3 := st_sum X
  rw [hT] at h3
  refine k T hT { X with same := ⟨X.same.1, X.same.2.1, ?_, X.same.2.2.2.1, ?_, X.same.2.2.2.2.2⟩ }
  · show T.heap.size ≤ _
    rw [hT]
    exact h2
  · show ((T.heap.toList.drop s.heap.size).map (·.slots.size)).sum ≤ slots'
    rw [hT]
    omega
end SimW
/-! locals -/
def lsR (ls : Array Slot) (lf : LV) : Prop := ls.size = lf.length ∧ lv_wf ls ∧ ∀ (i : Nat) (v : Value), lf[i]? = some (some v) → ls[i]? = some (.val v)
def pr (lf : LV) : List (Nat × Value) := (List.range lf.length).filterMap (fun i => match lf[i]? with | some (some v) => some (i, v) | _ => none)
theorem pr_mem {lf : LV} {i : Nat} {v : Value} : (i, v) ∈ pr lf ↔ lf[i]? = some (some v) := by
  unfold pr
  rw [List.mem_filterMap]
  constructor
  · rintro ⟨j, hj, h⟩
    split at h
    · next w hw => cases h; exact hw
    · cases h
  · intro h
    refine ⟨i, List.mem_range.mpr (List.getElem?_eq_some_iff.mp h).1, ?_⟩
    rw [h]
theorem lsR.has {ls : Array Slot} {lf : LV} (h : lsR ls lf) : lv_has ls lf.length (pr lf) := ⟨h.1, h.2.1, fun q hq => h.2.2 q.1 q.2 (pr_mem.mp hq)⟩
theorem stl_length (lf : LV) (i : Nat) (v : Value) : (stl lf i v).length = lf.length := by
  unfold stl
  cases i <;> simp
theorem stl2_length (lf : LV) (i : Nat) (v : Value) : (stl2 lf i v).length = lf.length := by
  unfold stl2
  cases i <;> simp
theorem clr_some {x : Option Value} {w : Value} (h : clr x = some w) : x = some w ∧ ¬ w.category = 2 := by
  cases x with
  | none => cases h
  | some y => cases y <;> simp [clr] at h <;> subst h <;> simp [Value.category]
theorem stl_get {lf : LV} {i j : Nat} {v w : Value} (hi : i < lf.length) (h : (stl lf i v)[j]? = some (some w)) : (j = i ∧ w = v) ∨ (j ≠ i ∧ lf[j]? = some (some w) ∧ ¬ (j + 1 = i ∧ w.category = 2)) := by
  by_cases hj : j = i
  · subst hj
    left
    refine ⟨rfl, ?_⟩
    unfold stl at h
    rw [List.getElem?_set_self (by cases j <;> simp <;> omega)] at h
    simp at h
    exact h.symm
  · right
    refine ⟨hj, ?_⟩
    unfold stl at h
    rw [List.getElem?_set_ne (fun q => hj q.symm)] at h
    cases i with
    | zero => exact ⟨h, fun q => by omega⟩
    | succ n =>
      simp only at h
      by_cases hn : j = n
      · subst hn
        rw [List.getElem?_set_self (by omega)] at h
        simp only [Option.some.injEq] at h
        obtain ⟨h1, h2⟩ := clr_some h
        refine ⟨?_, fun q => h2 q.2⟩
        rw [List.getD_eq_getElem?_getD] at h1
        rw [List.getElem?_eq_getElem (by omega)] at h1 ⊢
        exact congrArg some h1
      · rw [List.getElem?_set_ne (fun q => hn q.symm)] at h
        exact ⟨h, fun q => hn (by omega)⟩
theorem lsR_stl {ls ls' : Array Slot} {lf : LV} {i : Nat} {v : Value} (hi : i < lf.length) (h' : lv_has ls' lf.length ((i, v) :: (pr lf).filter (fun q => !(q.1 == i) && !(q.1 + 1 == i && q.2.category == 2)))) : lsR ls' (stl lf i v) := by
  refine ⟨by rw [stl_length]; exact h'.1, h'.2.1, fun j w hw => ?_⟩
  rcases stl_get hi hw with ⟨rfl, rfl⟩ | ⟨h1, h2, h3⟩
  · exact h'.2.2 (j, w) List.mem_cons_self
  · refine h'.2.2 (j, w) (List.mem_cons_of_mem _ (List.mem_filter.mpr ⟨pr_mem.mpr h2, ?_⟩))
    have h4 : ¬ ((j + 1 == i && w.category == 2) = true) := by
      intro q
      simp only [Bool.and_eq_true, beq_iff_eq] at q
      exact h3 q
    simp only [Bool.and_eq_true, Bool.not_eq_true', beq_eq_false_iff_ne, ne_eq]
    exact ⟨h1, by simpa using h4⟩
theorem lsR_stl2 {ls ls' : Array Slot} {lf : LV} {i : Nat} {v : Value} (hi : i + 1 < lf.length) (h' : lv_has ls' lf.length ((i, v) :: (pr lf).filter (fun q => !(q.1 == i) && (!(q.1 == i + 1) && !(q.1 + 1 == i && q.2.category == 2))))) : lsR ls' (stl2 lf i v) := by
  refine ⟨by rw [stl2_length]; exact h'.1, h'.2.1, fun j w hw => ?_⟩
  have e : stl2 lf i v = (stl lf i v).set (i + 1) none := rfl
  rw [e] at hw
  by_cases hj : j = i + 1
  · subst hj
    rw [List.getElem?_set_self (by rw [stl_length]; exact hi)] at hw
    cases hw
  · rw [List.getElem?_set_ne (fun q => hj q.symm)] at hw
    rcases stl_get (by omega) hw with ⟨rfl, rfl⟩ | ⟨h1, h2, h3⟩
    · exact h'.2.2 (j, w) List.mem_cons_self
    · refine h'.2.2 (j, w) (List.mem_cons_of_mem _ (List.mem_filter.mpr ⟨pr_mem.mpr h2, ?_⟩))
      have h4 : ¬ ((j + 1 == i && w.category == 2) = true) := by
        intro q
        simp only [Bool.and_eq_true, beq_iff_eq] at q
        exact h3 q
      simp only [Bool.and_eq_true, Bool.not_eq_true', beq_eq_false_iff_ne, ne_eq]
      exact ⟨h1, hj, by simpa using h4⟩
theorem ent_args : ∀ (vs : List Value) (i j : Nat) (v : Value), (ent vs)[j]? = some (some v) → (i + j, v) ∈ lv_args i vs
  | [], i, j, v, h => by simp [ent] at h
  | x :: r, i, j, v, h => by
    by_cases hx : x.category = 2
    · have e : ent (x :: r) = some x :: none :: ent r := by
        cases x <;> simp [Value.category] at hx <;> rfl
      rw [e] at h
      unfold lv_args
      rw [if_pos hx]
      match j, h with
      | 0, h => simp at h; subst h; exact List.mem_cons_self
      | 1, h => simp at h
      | j + 2, h =>
        have := ent_args r (i + 2) j v (by simpa using h)
        rw [show i + 2 + j = i + (j + 2) by omega] at this
        exact List.mem_cons_of_mem _ this
    · have e : ent (x :: r) = some x :: ent r := by
        cases x <;> simp [Value.category] at hx <;> rfl
      rw [e] at h
      unfold lv_args
      rw [if_neg hx]
      match j, h with
      | 0, h => simp at h; subst h; exact List.mem_cons_self
      | j + 1, h =>
        have := ent_args r (i + 1) j v (by simpa using h)
        rw [show i + 1 + j = i + (j + 1) by omega] at this
        exact List.mem_cons_of_mem _ this
theorem ent_length : ∀ vs : List Value, (ent vs).length = (lg_sl vs).length
  | [] => rfl
  | x :: r => by
    have := ent_length r
    cases x <;> simp [ent, lg_sl, Value.category] at * <;> omega
theorem lsR_entry (vs : List Value) {n : Nat} (h : (ent vs).length ≤ n) : lsR ((lg_sl vs ++ List.replicate (n - (lg_sl vs).length) Slot.unset).toArray) (entL vs n) := by
  have h' := lv_entry vs (n := n) (by rw [← ent_length]; exact h)
  have hn : (entL vs n).length = n := by unfold entL; simp; omega
  refine ⟨by rw [hn]; exact h'.1, h'.2.1, fun i v hv => ?_⟩
  refine h'.2.2 (i, v) ?_
  unfold entL at hv
  by_cases hi : i < (ent vs).length
  · rw [List.getElem?_append_left hi] at hv
    have := ent_args vs 0 i v hv
    rwa [Nat.zero_add] at this
  · rw [List.getElem?_append_right (by omega), List.getElem?_replicate] at hv
    split at hv <;> cases hv
end
section
def sLs : List Nat := [64, 5, 7, 2, 1, 2, 0, 4, 6, 12]
def sBs : List (List Int32) := [[97, 97, 97, 97, 97, 97, 97, 99, 101, 101, 101, 101, 105, 105, 105, 105, 100, 110, 111, 111, 111, 111, 111, 45, 111, 117, 117, 117, 117, 121, 116, 115, 97, 97, 97, 97, 97, 97, 97, 99, 101, 101, 101, 101, 105, 105, 105, 105, 100, 110, 111, 111, 111, 111, 111, 45, 111, 117, 117, 117, 117, 121, 116, 121], [32, 97, 110, 100, 32], [32, 101, 116, 32, 97, 108, 46], [46, 32], [32], [44, 32], [], [73, 110, 58, 32], [44, 32, 112, 112, 46, 32], [82, 101, 102, 101, 114, 101, 110, 99, 101, 115, 32, 40]]
def sLen (j : Nat) : Nat := sLs.getD j 0
def sByt (j i : Nat) : Int32 := (sBs.getD j []).getD i 0
def needs : List Int32 := [0, 1, 2, 3, 0, 1, 2, 4, 0, 1, 2, 6, 1, 2, -1, -1, 1, -1, -1, -1]
def need (j : Nat) : Int32 := needs.getD j 0
/-- the texts that the class loads: class, place, text, number -/
def sT : List (String × Nat × String × Nat) := [(RX3, 133, " and ", 1), (RX3, 135, ", ", 5), (RX3, 150, " et al.", 2), (RX4, 117, " and ", 1), (RX4, 123, " et al.", 2), (RX4, 138, "", 6), (RX4, 150, ". ", 3), (RX4, 152, " ", 4), (RX4, 157, ", ", 5), (RX4, 163, "In: ", 7), (RX4, 165, ", pp. ", 8), (RX6, 220, "References (", 9), (RX6, 249, "aaaaaaaceeeeiiiidnooooo-ouuuuytsaaaaaaaceeeeiiiidnooooo-ouuuuyty", 0)]
/-- the texts of what is thrown -/
def tT : List (Nat × String) := [(56, "there are 24 entries"), (201, "there is no such entry"), (245, "a byte is no character"), (247, "there is no place for so many characters"), (83, "there is no such field"), (90, "there are 60 citations"), (102, "a sort and a label are 0 to 2"), (204, "there is no such row"), (162, "there is no such person"), (231, "there is no such character"), (179, "nothing such is missing"), (218, "no run was"), (197, "there are not so many entries twice")]
theorem lS_ok : ∀ o i j, lS o i = some j → ∃ tx, (ownS o, i, tx, j) ∈ sT ∧ j < 10 := by
  intro o i j h
  unfold lS at h
  split at h
  · cases h; exact ⟨" and ", by decide +kernel, by decide⟩
  · cases h; exact ⟨", ", by decide +kernel, by decide⟩
  · cases h; exact ⟨" et al.", by decide +kernel, by decide⟩
  · cases h; exact ⟨" and ", by decide +kernel, by decide⟩
  · cases h; exact ⟨" et al.", by decide +kernel, by decide⟩
  · cases h; exact ⟨"", by decide +kernel, by decide⟩
  · cases h; exact ⟨". ", by decide +kernel, by decide⟩
  · cases h; exact ⟨" ", by decide +kernel, by decide⟩
  · cases h; exact ⟨", ", by decide +kernel, by decide⟩
  · cases h; exact ⟨"In: ", by decide +kernel, by decide⟩
  · cases h; exact ⟨", pp. ", by decide +kernel, by decide⟩
  · cases h; exact ⟨"References (", by decide +kernel, by decide⟩
  · cases h; exact ⟨"aaaaaaaceeeeiiiidnooooo-ouuuuytsaaaaaaaceeeeiiiidnooooo-ouuuuyty", by decide +kernel, by decide⟩
  · cases h
def dD : List MethodName := [⟨"java/lang/RuntimeException", "<init>", "(Ljava/lang/String;)V"⟩, ⟨"java/lang/Exception", "<init>", "(Ljava/lang/String;)V"⟩, ⟨"java/lang/Throwable", "<init>", "(Ljava/lang/String;)V"⟩]
def dC : List (String × String) := [("java/util/NoSuchElementException", "java/util/NoSuchElementException"), ("java/lang/IndexOutOfBoundsException", "java/lang/IndexOutOfBoundsException"), ("java/lang/IllegalArgumentException", "java/lang/IllegalArgumentException"), ("java/lang/UnsupportedOperationException", "java/lang/UnsupportedOperationException")]
/-! an object's fields, by its kind -/
def flds (c : Nat) (I : Nat → Int32) (P : Nat → Option Nat) : List Value := (fBs.getD c []).mapIdx (fun k b => if b = true then va_rf (P k) else .int (I k))
theorem flds_len (c : Nat) (I : Nat → Int32) (P : Nat → Option Nat) : (flds c I P).length = fN c := by simp [flds, fN]
theorem flds_get {c k : Nat} (I : Nat → Int32) (P : Nat → Option Nat) (h : k < fN c) : (flds c I P)[k]? = some (if fB c k = true then va_rf (P k) else .int (I k)) := by
  unfold fN at h
  unfold flds fB
  rw [List.getElem?_mapIdx, List.getElem?_eq_getElem h, List.getD_eq_getElem?_getD (l := fBs.getD c []), List.getElem?_eq_getElem h]
  rfl
theorem flds_out {c k : Nat} (I : Nat → Int32) (P : Nat → Option Nat) (h : fN c ≤ k) : (flds c I P)[k]? = none := by
  rw [List.getElem?_eq_none_iff, flds_len]
  exact h
theorem flds_setI {c k : Nat} {I : Nat → Int32} {P : Nat → Option Nat} (h : k < fN c) (hb : fB c k = false) (x : Int32) : (flds c I P).set k (.int x) = flds c (fun j => if j = k then x else I j) P := by
  apply List.ext_getElem?
  intro j
  by_cases hj : j = k
  · subst hj
    rw [List.getElem?_set_self (by rw [flds_len]; exact h), flds_get _ _ h, hb]
    simp
  · rw [List.getElem?_set_ne (fun q => hj q.symm)]
    by_cases hl : j < fN c
    · rw [flds_get _ _ hl, flds_get _ _ hl]
      simp [hj]
    · rw [flds_out _ _ (by omega), flds_out _ _ (by omega)]
theorem flds_setP {c k : Nat} {I : Nat → Int32} {P : Nat → Option Nat} (h : k < fN c) (hb : fB c k = true) (x : Option Nat) : (flds c I P).set k (va_rf x) = flds c I (fun j => if j = k then x else P j) := by
  apply List.ext_getElem?
  intro j
  by_cases hj : j = k
  · subst hj
    rw [List.getElem?_set_self (by rw [flds_len]; exact h), flds_get _ _ h, hb]
    simp
  · rw [List.getElem?_set_ne (fun q => hj q.symm)]
    by_cases hl : j < fN c
    · rw [flds_get _ _ hl, flds_get _ _ hl]
      simp [hj]
    · rw [flds_out _ _ (by omega), flds_out _ _ (by omega)]
/-- the cell at an address -/
def cel (g : Nat → Nat) (σ : PS) (a : Nat) : va_E :=
  if zK σ a = 101 then .inl (g 2, zL σ a, .inl (zI σ a))
  else if zK σ a = 102 then .inl (g 3, zL σ a, .inl (zI σ a))
  else if zK σ a = 103 then .inl (g 4, zL σ a, .inr (.inr (.inr (.inr (zP σ a)))))
  else if zK σ a = 104 then .inl (g 5, zL σ a, .inr (.inr (.inr (.inr (zP σ a)))))
  else .inr (zK σ a - 1, flds (zK σ a - 1) (zI σ a) (zP σ a))
def live (κ : Nat) : Prop := (1 ≤ κ ∧ κ ≤ 9) ∨ (101 ≤ κ ∧ κ ≤ 104)
/-- what a method that begins at σ0 may write -/
def Ar (σ0 : PS) : Nat → Prop := fun q => live (zK σ0 q) ∨ zN σ0 ≤ q
abbrev tyG (g : Nat → Nat) : List (ClassId × FieldType) := [(g 2, .int), (g 3, .char), (g 4, .object RX5), (g 5, .object "java/lang/Object")]
/-- the heap holds what the pure state says -/
def Pl (D : va_G) (g : Nat → Nat) (A : Nat → Prop) (σ : PS) (H : Heap) : Prop := ∃ Ls : List Nat, (∀ a, a ∈ Ls ↔ live (zK σ a)) ∧ va_P D vwCl (va_pl Ls (cel g σ)) H ∧ va_D A (va_pl Ls (cel g σ))
/-- the constants, as the pure state has them -/
def cOK (g : Nat → Nat) (σ : PS) : Prop := ∀ a, 1000 ≤ zK σ a →
  (zK σ a = 1000 ∧ ∃ j, j < 10 ∧ a = g (100 + j) ∧ zP σ a 0 = some (g (200 + j)) ∧ zI σ a 1 = 0) ∨
  (zK σ a = 1001 ∧ ∃ j, j < 10 ∧ a = g (200 + j) ∧ zL σ a = sLen j ∧ ∀ i, i < sLen j → zI σ a i = sByt j i) ∨
  (zK σ a = 1002 ∧ a = g 0 ∧ zL σ a = 20 ∧ ∀ i, i < 20 → zI σ a i = need i) ∨
  (zK σ a = 1003 ∧ a = g 1 ∧ zL σ a = 0)
theorem c_stI {g : Nat → Nat} {σ : PS} (h : cOK g σ) {a k : Nat} {v : Int32} (ha : zK σ a < 1000) : cOK g (stI σ a k v) := by
  intro b hb
  have hb' : 1000 ≤ zK σ b := hb
  have hne : b ≠ a := fun e => by subst e; omega
  have e : zI (stI σ a k v) b = zI σ b := by funext j; simp [zI, stI, hne]
  have h1 := h b hb'
  rw [← e] at h1
  exact h1
theorem c_stP {g : Nat → Nat} {σ : PS} (h : cOK g σ) {a k : Nat} {v : Option Nat} (ha : zK σ a < 1000) : cOK g (stP σ a k v) := by
  intro b hb
  have hb' : 1000 ≤ zK σ b := hb
  have hne : b ≠ a := fun e => by subst e; omega
  have e : zP (stP σ a k v) b = zP σ b := by funext j; simp [zP, stP, hne]
  have h1 := h b hb'
  rw [← e] at h1
  exact h1
theorem c_cpI {g : Nat → Nat} {σ : PS} (h : cOK g σ) {a sp x dp n : Nat} (ha : zK σ x < 1000) : cOK g (cpI σ a sp x dp n) := by
  intro b hb
  have hb' : 1000 ≤ zK σ b := hb
  have hne : b ≠ x := fun e => by subst e; omega
  have e : zI (cpI σ a sp x dp n) b = zI σ b := by funext j; simp [zI, cpI, hne]
  have h1 := h b hb'
  rw [← e] at h1
  exact h1
theorem c_cpP {g : Nat → Nat} {σ : PS} (h : cOK g σ) {a sp x dp n : Nat} (ha : zK σ x < 1000) : cOK g (cpP σ a sp x dp n) := by
  intro b hb
  have hb' : 1000 ≤ zK σ b := hb
  have hne : b ≠ x := fun e => by subst e; omega
  have e : zP (cpP σ a sp x dp n) b = zP σ b := by funext j; simp [zP, cpP, hne]
  have h1 := h b hb'
  rw [← e] at h1
  exact h1
theorem c_alO {g : Nat → Nat} {σ : PS} (h : cOK g σ) {κ N : Nat} (ha : κ < 1000) : cOK g (alO σ κ N) := by
  intro b hb
  by_cases hne : b = zN σ
  · subst hne
    simp [zK, alO] at hb
    omega
  · have e0 : zK (alO σ κ N) b = zK σ b := by simp [zK, alO, hne]
    have e1 : zI (alO σ κ N) b = zI σ b := by funext j; simp [zI, alO, hne]
    have e2 : zP (alO σ κ N) b = zP σ b := by funext j; simp [zP, alO, hne]
    rw [e0] at hb
    have h1 := h b hb
    rw [e0, e1, e2]
    exact h1
theorem c_alA {g : Nat → Nat} {σ : PS} (h : cOK g σ) {κ N : Nat} (ha : κ < 1000) : cOK g (alA σ κ N) := by
  intro b hb
  by_cases hne : b = zN σ
  · subst hne
    simp [zK, alA] at hb
    omega
  · have e0 : zK (alA σ κ N) b = zK σ b := by simp [zK, alA, hne]
    have e1 : zI (alA σ κ N) b = zI σ b := by funext j; simp [zI, alA, hne]
    have e2 : zP (alA σ κ N) b = zP σ b := by funext j; simp [zP, alA, hne]
    have e3 : zL (alA σ κ N) b = zL σ b := by simp [zL, alA, hne]
    rw [e0] at hb
    have h1 := h b hb
    rw [e0, e1, e2, e3]
    exact h1
/-! cells behind a store -/
theorem cel_obj {g : Nat → Nat} {σ : PS} {a c : Nat} (hc : c ≤ 8) (h : zK σ a = c + 1) : cel g σ a = .inr (c, flds c (zI σ a) (zP σ a)) := by
  unfold cel
  rw [h, if_neg (by omega), if_neg (by omega), if_neg (by omega), if_neg (by omega), Nat.add_sub_cancel]
theorem cel_101 {g : Nat → Nat} {σ : PS} {a : Nat} (h : zK σ a = 101) : cel g σ a = .inl (g 2, zL σ a, .inl (zI σ a)) := by
  unfold cel
  rw [if_pos h]
theorem cel_102 {g : Nat → Nat} {σ : PS} {a : Nat} (h : zK σ a = 102) : cel g σ a = .inl (g 3, zL σ a, .inl (zI σ a)) := by
  unfold cel
  rw [if_neg (by omega), if_pos h]
theorem cel_103 {g : Nat → Nat} {σ : PS} {a : Nat} (h : zK σ a = 103) : cel g σ a = .inl (g 4, zL σ a, .inr (.inr (.inr (.inr (zP σ a))))) := by
  unfold cel
  rw [if_neg (by omega), if_neg (by omega), if_pos h]
theorem cel_104 {g : Nat → Nat} {σ : PS} {a : Nat} (h : zK σ a = 104) : cel g σ a = .inl (g 5, zL σ a, .inr (.inr (.inr (.inr (zP σ a))))) := by
  unfold cel
  rw [if_neg (by omega), if_neg (by omega), if_neg (by omega), if_pos h]
theorem cel_congr {g : Nat → Nat} {σ τ : PS} {b : Nat} (h0 : zK τ b = zK σ b) (h1 : zL τ b = zL σ b) (h2 : zI τ b = zI σ b) (h3 : zP τ b = zP σ b) : cel g τ b = cel g σ b := by
  unfold cel
  rw [h0, h1, h2, h3]
theorem cel_up {g : Nat → Nat} {σ τ : PS} {a : Nat} {x : va_E} (ha : cel g τ a = x) (ho : ∀ b, b ≠ a → zK τ b = zK σ b ∧ zL τ b = zL σ b ∧ zI τ b = zI σ b ∧ zP τ b = zP σ b) (b : Nat) : va_up (cel g σ) a x b = cel g τ b := by
  unfold va_up
  by_cases hb : b = a
  · subst hb
    rw [if_pos rfl, ha]
  · rw [if_neg hb]
    obtain ⟨q0, q1, q2, q3⟩ := ho b hb
    exact (cel_congr q0 q1 q2 q3).symm
theorem o_stI {σ : PS} {a k : Nat} {v : Int32} (b : Nat) (hb : b ≠ a) : zK (stI σ a k v) b = zK σ b ∧ zL (stI σ a k v) b = zL σ b ∧ zI (stI σ a k v) b = zI σ b ∧ zP (stI σ a k v) b = zP σ b := ⟨rfl, rfl, by funext j; simp [zI, stI, hb], rfl⟩
theorem o_stP {σ : PS} {a k : Nat} {v : Option Nat} (b : Nat) (hb : b ≠ a) : zK (stP σ a k v) b = zK σ b ∧ zL (stP σ a k v) b = zL σ b ∧ zI (stP σ a k v) b = zI σ b ∧ zP (stP σ a k v) b = zP σ b := ⟨rfl, rfl, rfl, by funext j; simp [zP, stP, hb]⟩
theorem o_cpI {σ : PS} {a sp x dp n : Nat} (b : Nat) (hb : b ≠ x) : zK (cpI σ a sp x dp n) b = zK σ b ∧ zL (cpI σ a sp x dp n) b = zL σ b ∧ zI (cpI σ a sp x dp n) b = zI σ b ∧ zP (cpI σ a sp x dp n) b = zP σ b := ⟨rfl, rfl, by funext j; simp [zI, cpI, hb], rfl⟩
theorem o_cpP {σ : PS} {a sp x dp n : Nat} (b : Nat) (hb : b ≠ x) : zK (cpP σ a sp x dp n) b = zK σ b ∧ zL (cpP σ a sp x dp n) b = zL σ b ∧ zI (cpP σ a sp x dp n) b = zI σ b ∧ zP (cpP σ a sp x dp n) b = zP σ b := ⟨rfl, rfl, rfl, by funext j; simp [zP, cpP, hb]⟩
theorem o_alO {σ : PS} {κ N : Nat} (b : Nat) (hb : b ≠ zN σ) : zK (alO σ κ N) b = zK σ b ∧ zL (alO σ κ N) b = zL σ b ∧ zI (alO σ κ N) b = zI σ b ∧ zP (alO σ κ N) b = zP σ b := ⟨by simp [zK, alO, hb], rfl, by funext j; simp [zI, alO, hb], by funext j; simp [zP, alO, hb]⟩
theorem o_alA {σ : PS} {κ N : Nat} (b : Nat) (hb : b ≠ zN σ) : zK (alA σ κ N) b = zK σ b ∧ zL (alA σ κ N) b = zL σ b ∧ zI (alA σ κ N) b = zI σ b ∧ zP (alA σ κ N) b = zP σ b := ⟨by simp [zK, alA, hb], by simp [zL, alA, hb], by funext j; simp [zI, alA, hb], by funext j; simp [zP, alA, hb]⟩
/-! THE WORLD AROUND: what the tables and the cells that nobody writes say -/
def EnvT (D : va_G) (g : Nat → Nat) (U : State) : Prop :=
  va_K D vwCl (tyG g) U ∧ (∀ q ∈ nF, va_Nw (.fieldLinkNest q.1 q.2.1 q.2.2.1 q.2.2.2.1 q.2.2.2.2 RX6) U) ∧ (∀ q ∈ nM, va_Nw (.methodLinkNest q.1 q.2.1 q.2.2 RX6) U) ∧ (∀ c, c ≤ 8 → va_Nw (.castable (clN c) "java/lang/Object") U) ∧
  va_AO "java/lang/Object" U ∧ va_AO RX5 U ∧ va_Mi "[Ljava/lang/Object;" (g 7) U ∧ va_Dc U ∧ va_Nw (.fieldLinkNest RX1 106 RX6 "NEEDED" "[I" RX6) U ∧
  (∀ q ∈ sT, vk_R q.1 q.2.1 q.2.2.1 (g (100 + q.2.2.2)) U) ∧ (∀ q ∈ tT, ∃ a, vk_R RX6 q.1 q.2 a U) ∧ (∀ q ∈ dD, va_Nw (.declares q) U) ∧ (∀ q ∈ dC, va_Nw (.castable q.1 q.2) U)
def EnvH (g : Nat → Nat) (A : Nat → Prop) (U : State) (H : Heap) : Prop :=
  va_Z RX6 "NEEDED" "[I" (.ref (g 0)) A U H ∧ va_T .int (g 0) 20 (fun j => .int (need j)) A U H ∧ va_Z RJx4a65c "DEFAULTCAPACITY_EMPTY_ELEMENTDATA" "[Ljava/lang/Object;" (.ref (g 1)) A U H ∧ va_T (.object "java/lang/Object") (g 1) 0 (fun _ => .null) A U H ∧
  va_Z RJ0 "COMPACT_STRINGS" "Z" (.int 1) A U H ∧ va_Z RJ3 "SIOOBE_FORMATTER" "Ljava/util/function/BiFunction;" (va_rf (if g 6 = 0 then none else some (g 6 - 1))) A U H ∧
  vk_S 10 sLs sBs (fun j => g (100 + j)) (fun j => g (200 + j)) A U H ∧ vx_Zq Bundle.tN "UNASSIGNED_STACK" Bundle.steD A U H ∧ vx_Zq Bundle.tN "SUPPRESSED_SENTINEL" Bundle.listD A U H
theorem EnvT.warm {D : va_G} {g : Nat → Nat} {s U : State} (hW : s.WarmedH U.vm) (h : EnvT D g s) : EnvT D g U := by
  obtain ⟨h1, h2, h3, h4, h5, h6, h7, h8, h9, h10, h11, h12, h13⟩ := h
  refine ⟨va_K.moved hW.alike h1, fun q hq => (h2 q hq).warmF hW, fun q hq => (h3 q hq).warmM hW, fun c hc => (h4 c hc).warmC hW, va_AO.moved hW.alike h5, va_AO.moved hW.alike h6, va_Mi.moved hW.alike h7, va_Dc.moved hW.alike h8, h9.warmF hW, fun q hq => (h10 q hq).warm hW, fun q hq => ?_, fun q hq => (h12 q hq).warmD hW, fun q hq => (h13 q hq).warmC hW⟩
  obtain ⟨a, ha⟩ := h11 q hq
  exact ⟨a, ha.warm hW⟩
theorem EnvH.moved {g : Nat → Nat} {A : Nat → Prop} {s U : State} {H : Heap} (hW : s.vm.Alike U.vm) (h : EnvH g A s H) : EnvH g A U H := by
  obtain ⟨h1, h2, h3, h4, h5, h6, h7, h8, h9⟩ := h
  exact ⟨h1.moved hW, h2.moved hW, h3.moved hW, h4.moved hW, h5.moved hW, h6.moved hW, h7.moved hW, h8.moved hW, h9.moved hW⟩
theorem EnvH.kept {g : Nat → Nat} {A : Nat → Prop} {U : State} {H H1 : Heap} (h : EnvH g A U H) (hq : ∀ a : Nat, a < H.size → ¬ A a → H1[a]? = H[a]?) : EnvH g A U H1 := by
  obtain ⟨h1, h2, h3, h4, h5, h6, h7, h8, h9⟩ := h
  exact ⟨h1.kept hq, h2.kept hq, h3.kept hq, h4.kept hq, h5.kept hq, h6.kept hq, h7.kept hq, h8.kept hq, h9.kept hq⟩
theorem EnvH.narrow {g : Nat → Nat} {A B : Nat → Prop} {U : State} {H : Heap} (h : EnvH g A U H) (hAB : ∀ q, B q → A q) : EnvH g B U H := by
  obtain ⟨h1, h2, h3, h4, h5, h6, h7, h8, h9⟩ := h
  exact ⟨h1.narrow hAB, h2.narrow hAB, h3.narrow hAB, h4.narrow hAB, h5.narrow hAB, h6.narrow hAB, h7.narrow hAB, h8.narrow hAB, h9.narrow hAB⟩
end
section
/-! SOUNDNESS: a run of the pure machine is a run of the machine -/
abbrev rmK (C S k : Nat) (σ0 : PS) : Room := { frames := mF k, cells := C - zN σ0, slots := S - zS σ0, locals := mW k }
/-- what holds in a body of method k that began at σ0 -/
def Cx (p : Program) (l : Launch) (s : State) (m : MethodId) (args : Array Value) (meth : Method) (c : Code) (D : va_G) (g : Nat → Nat) (C S k : Nat) (σ0 : PS) : Prop :=
  CallFix p m c (mB k) (mL k) s args gW (ownS (mO k)) ∧ (meth.locks = false ∧ meth.sig.returnType = mR k ∧ (mI k = true → meth.name = "<init>") ∧ (∀ x ∈ c.exceptionTable.toList, False)) ∧
  (EnvT D g s ∧ EnvH g (Ar σ0) s s.heap ∧ s.heap.size = zN σ0 ∧ True) ∧ l.stackTraces = false ∧ k < 172 ∧ zN σ0 ≤ C ∧ zS σ0 ≤ S
def VV (p : Program) (l : Launch) (e : Env) (s : State) (m : MethodId) (args : Array Value) (below : List Frame) (meth : Method) (c : Code) (D : va_G) (g : Nat → Nat) (C S k : Nat) (σ0 : PS) (Q : State → Prop) (pc : Nat) (lf : LV) (st : List Value) (σ : PS) : Prop :=
  ∀ (H : Heap) (locs : List Loc) (ls : Array Slot), lsR ls lf → lf.length = mL k → H.size = zN σ → (zS σ0 ≤ zS σ ∧ zN σ ≤ C ∧ zS σ ≤ S) → Pl D g (Ar σ0) σ H → va_S (Ar σ0) s.heap H locs → cOK g σ →
    W p l e (rmK C S k σ0) s m args below meth c H locs (zN σ - zN σ0) (zS σ - zS σ0) Q (F0 m pc ls st)
section Snd
variable {p : Program} {l : Launch} {e : Env} {s : State} {m : MethodId} {args : Array Value} {below : List Frame} {meth : Method} {c : Code} {Q : State → Prop}
variable {D : va_G} {g : Nat → Nat} {C S k : Nat} {σ0 : PS}
theorem VV.stp {pc pc' : Nat} {lf : LV} {st st' : List Value} {σ : PS} (h : VV p l e s m args below meth c D g C S k σ0 Q pc' lf st' σ)
    (r : ∀ (H : Heap) (locs : List Loc) (ls : Array Slot) (cells slots : Nat), lsR ls lf → W p l e (rmK C S k σ0) s m args below meth c H locs cells slots Q (F0 m pc' ls st') → W p l e (rmK C S k σ0) s m args below meth c H locs cells slots Q (F0 m pc ls st)) :
    VV p l e s m args below meth c D g C S k σ0 Q pc lf st σ := fun H locs ls h1 h2 h3 h4 h5 h6 h7 => r H locs ls _ _ h1 (h H locs ls h1 h2 h3 h4 h5 h6 h7)
theorem VV.stl {pc pc' i : Nat} {lf : LV} {v : Value} {st st' : List Value} {σ : PS} (hi : i < lf.length) (h : VV p l e s m args below meth c D g C S k σ0 Q pc' (stl lf i v) st' σ)
    (r : ∀ (H : Heap) (locs : List Loc) (ls : Array Slot) (cells slots : Nat), lv_has ls lf.length (pr lf) → (∀ ls' : Array Slot, lv_has ls' lf.length ((i, v) :: (pr lf).filter (fun q => !(q.1 == i) && !(q.1 + 1 == i && q.2.category == 2))) → W p l e (rmK C S k σ0) s m args below meth c H locs cells slots Q (F0 m pc' ls' st')) → W p l e (rmK C S k σ0) s m args below meth c H locs cells slots Q (F0 m pc ls st)) :
    VV p l e s m args below meth c D g C S k σ0 Q pc lf st σ := fun H locs ls h1 h2 h3 h4 h5 h6 h7 => r H locs ls _ _ h1.has (fun ls' h' => h H locs ls' (lsR_stl (ls := ls) hi h') (by rw [stl_length]; exact h2) h3 h4 h5 h6 h7)
theorem VV.stl2 {pc pc' i : Nat} {lf : LV} {v : Value} {st st' : List Value} {σ : PS} (hi : i + 1 < lf.length) (h : VV p l e s m args below meth c D g C S k σ0 Q pc' (stl2 lf i v) st' σ)
    (r : ∀ (H : Heap) (locs : List Loc) (ls : Array Slot) (cells slots : Nat), lv_has ls lf.length (pr lf) → (∀ ls' : Array Slot, lv_has ls' lf.length ((i, v) :: (pr lf).filter (fun q => !(q.1 == i) && (!(q.1 == i + 1) && !(q.1 + 1 == i && q.2.category == 2)))) → W p l e (rmK C S k σ0) s m args below meth c H locs cells slots Q (F0 m pc' ls' st')) → W p l e (rmK C S k σ0) s m args below meth c H locs cells slots Q (F0 m pc ls st)) :
    VV p l e s m args below meth c D g C S k σ0 Q pc lf st σ := fun H locs ls h1 h2 h3 h4 h5 h6 h7 => r H locs ls _ _ h1.has (fun ls' h' => h H locs ls' (lsR_stl2 (ls := ls) hi h') (by rw [stl2_length]; exact h2) h3 h4 h5 h6 h7)
theorem jmp_eq {pc t : Nat} {off : Int} (h : jmp pc off = some t) : (pc : Int) + off = (t : Int) := by
  unfold jmp at h
  split at h
  · cases h
    omega
  · cases h
theorem rOf_eq {v : Value} {r : Option Nat} (h : rOf v = some r) : v = va_rf r := by
  cases v <;> simp [rOf] at h <;> subst h <;> rfl
theorem w_aload_n {cc : ByteArray} {R : Room} {H : Heap} {locs : List Loc} {cells slots pc : Nat} {ls : Array Slot} {rest : List Value} (hexec : p.tables.exec = Jvm.exec) (hb : c.code = cc) {n : Fin 4} {r : Option Nat} (hdg : decode cc pc = .ok (.aload_n n, 1)) (hl : ls[(n : Nat)]? = some (.val (va_rf r))) (kk : W p l e R s m args below meth c H locs cells slots Q (F0 m (pc + 1) ls (va_rf r :: rest))) : W p l e R s m args below meth c H locs cells slots Q (F0 m pc ls rest) := by
  cases r with
  | none => exact lv_aload_nN hexec hb hdg rfl hl kk
  | some x => exact lv_aload_n hexec hb hdg rfl hl kk
theorem w_aload {cc : ByteArray} {R : Room} {H : Heap} {locs : List Loc} {cells slots pc i : Nat} {ls : Array Slot} {rest : List Value} (hexec : p.tables.exec = Jvm.exec) (hb : c.code = cc) {r : Option Nat} (hdg : decode cc pc = .ok (.aload i, 2)) (hl : ls[i]? = some (.val (va_rf r))) (kk : W p l e R s m args below meth c H locs cells slots Q (F0 m (pc + 2) ls (va_rf r :: rest))) : W p l e R s m args below meth c H locs cells slots Q (F0 m pc ls rest) := by
  cases r with
  | none => exact lv_aloadN hexec hb hdg hl kk
  | some x => exact lv_aload hexec hb hdg hl kk
theorem w_astore_n {cc : ByteArray} {R : Room} {H : Heap} {locs : List Loc} {cells slots pc nL : Nat} {ls : Array Slot} {rest : List Value} {lv : List (Nat × Value)} (hexec : p.tables.exec = Jvm.exec) (hb : c.code = cc) {n : Fin 4} {r : Option Nat} (hdg : decode cc pc = .ok (.astore_n n, 1)) (h : lv_has ls nL lv) (hn : (n : Nat) < nL)
    (kk : ∀ ls' : Array Slot, lv_has ls' nL (((n : Nat), va_rf r) :: lv.filter (fun q => !(q.1 == (n : Nat)) && !(q.1 + 1 == (n : Nat) && q.2.category == 2))) → W p l e R s m args below meth c H locs cells slots Q (F0 m (pc + 1) ls' rest)) : W p l e R s m args below meth c H locs cells slots Q (F0 m pc ls (va_rf r :: rest)) := by
  cases r with
  | none => exact lv_astore_nN hexec hb hdg rfl h hn rfl kk
  | some x => exact lv_astore_n hexec hb hdg rfl h hn rfl kk
theorem w_astore {cc : ByteArray} {R : Room} {H : Heap} {locs : List Loc} {cells slots pc nL n : Nat} {ls : Array Slot} {rest : List Value} {lv : List (Nat × Value)} (hexec : p.tables.exec = Jvm.exec) (hb : c.code = cc) {r : Option Nat} (hdg : decode cc pc = .ok (.astore n, 2)) (h : lv_has ls nL lv) (hn : n < nL)
    (kk : ∀ ls' : Array Slot, lv_has ls' nL ((n, va_rf r) :: lv.filter (fun q => !(q.1 == n) && !(q.1 + 1 == n && q.2.category == 2))) → W p l e R s m args below meth c H locs cells slots Q (F0 m (pc + 2) ls' rest)) : W p l e R s m args below meth c H locs cells slots Q (F0 m pc ls (va_rf r :: rest)) := by
  cases r with
  | none => exact lv_astoreN hexec hb hdg h hn rfl kk
  | some x => exact lv_astore hexec hb hdg h hn rfl kk
theorem w_if {cc : ByteArray} {R : Room} {H : Heap} {locs : List Loc} {cells slots pc tgt : Nat} {ls : Array Slot} {rest : List Value} {x : Int32} {off : Int} (cd : Jvm.ClassFile.Cond) (hexec : p.tables.exec = Jvm.exec) (hb : c.code = cc) (hdg : decode cc pc = .ok (.ifCond cd off, 3)) (ht : (pc : Int) + off = (tgt : Int))
    (kt : cnd cd x 0 = true → W p l e R s m args below meth c H locs cells slots Q (F0 m tgt ls rest)) (kf : ¬ cnd cd x 0 = true → W p l e R s m args below meth c H locs cells slots Q (F0 m (pc + 3) ls rest)) : W p l e R s m args below meth c H locs cells slots Q (F0 m pc ls (.int x :: rest)) := by
  cases cd with
  | eq => exact lv_if_eq hexec hb hdg ht (fun h => kt (decide_eq_true h)) (fun h => kf (fun q => h (of_decide_eq_true q)))
  | ne => exact lv_if_ne hexec hb hdg ht (fun h => kt (decide_eq_true h)) (fun h => kf (fun q => of_decide_eq_true q h))
  | lt => exact lv_if_lt hexec hb hdg ht (fun h => kt (decide_eq_true h)) (fun h => kf (fun q => h (of_decide_eq_true q)))
  | ge => exact lv_if_ge hexec hb hdg ht (fun h => kt (decide_eq_true h)) (fun h => kf (fun q => h (of_decide_eq_true q)))
  | gt => exact lv_if_gt hexec hb hdg ht (fun h => kt (decide_eq_true h)) (fun h => kf (fun q => h (of_decide_eq_true q)))
  | le => exact lv_if_le hexec hb hdg ht (fun h => kt (decide_eq_true h)) (fun h => kf (fun q => h (of_decide_eq_true q)))
theorem w_icmp {cc : ByteArray} {R : Room} {H : Heap} {locs : List Loc} {cells slots pc tgt : Nat} {ls : Array Slot} {rest : List Value} {x y : Int32} {off : Int} (cd : Jvm.ClassFile.Cond) (hexec : p.tables.exec = Jvm.exec) (hb : c.code = cc) (hdg : decode cc pc = .ok (.if_icmp cd off, 3)) (ht : (pc : Int) + off = (tgt : Int))
    (kt : cnd cd x y = true → W p l e R s m args below meth c H locs cells slots Q (F0 m tgt ls rest)) (kf : ¬ cnd cd x y = true → W p l e R s m args below meth c H locs cells slots Q (F0 m (pc + 3) ls rest)) : W p l e R s m args below meth c H locs cells slots Q (F0 m pc ls (.int y :: .int x :: rest)) := by
  cases cd with
  | eq => exact lv_icmp_eq hexec hb hdg ht (fun h => kt (decide_eq_true h)) (fun h => kf (fun q => h (of_decide_eq_true q)))
  | ne => exact lv_icmp_ne hexec hb hdg ht (fun h => kt (decide_eq_true h)) (fun h => kf (fun q => of_decide_eq_true q h))
  | lt => exact lv_icmp_lt hexec hb hdg ht (fun h => kt (decide_eq_true h)) (fun h => kf (fun q => h (of_decide_eq_true q)))
  | ge => exact lv_icmp_ge hexec hb hdg ht (fun h => kt (decide_eq_true h)) (fun h => kf (fun q => h (of_decide_eq_true q)))
  | gt => exact lv_icmp_gt hexec hb hdg ht (fun h => kt (decide_eq_true h)) (fun h => kf (fun q => h (of_decide_eq_true q)))
  | le => exact lv_icmp_le hexec hb hdg ht (fun h => kt (decide_eq_true h)) (fun h => kf (fun q => h (of_decide_eq_true q)))
/-! fields -/
theorem same_mod {args : Array Value} (h : (Cond.sameField "java/util/ArrayList" "java/util/AbstractList" "modCount" "I").before args s = true) (x : ClassId × Class × Nat × Field) (hx : s.fieldFound? "java/util/AbstractList" "modCount" "I" = some x) : s.fieldFound? "java/util/ArrayList" "modCount" "I" = some x := by
  cases hy : s.fieldFound? "java/util/ArrayList" "modCount" "I" with
  | none => simp [Cond.before, Cond.holds, Cond.value, hy] at h
  | some y =>
    obtain ⟨a1, a2, a3, a4⟩ := y
    have h1 := Cond.sameField_spec hy h
    rw [hx] at h1
    exact h1.symm
theorem ref_same (hts : ∀ w ∈ gW, w.before args s = true) {cI j : Nat} {ref : String} (hr : ref = (clT cI j).1 ∨ (cI = 0 ∧ j = 0 ∧ ref = RJx4a65c)) : ∀ x, s.fieldFound? (clT cI j).1 (clT cI j).2.1 (clT cI j).2.2.1 = some x → s.fieldFound? ref (clT cI j).2.1 (clT cI j).2.2.1 = some x := by
  rcases hr with rfl | ⟨rfl, rfl, rfl⟩
  · exact fun x h => h
  · exact same_mod (hts _ gs_sf)
theorem fldV_eq {σ : PS} {a cI j : Nat} (hc : cI ≤ 8) : fldV σ a cI j = if fB cI j = true then va_rf (zP σ a j) else .int (zI σ a j) := by
  unfold fldV
  by_cases h : fB cI j = true
  · rw [if_pos (Or.inl h), if_pos h]
  · rw [if_neg (by intro q; rcases q with q | q; exact h q; omega), if_neg h]
theorem kOK_8 {cI κ : Nat} (hc : cI ≤ 8) (h : kOK cI κ = true) : κ = cI + 1 := by
  unfold kOK at h
  simp only [Bool.or_eq_true, Bool.and_eq_true, decide_eq_true_eq, beq_iff_eq] at h
  omega
theorem kOK_9 {cI κ : Nat} (hc : ¬ cI ≤ 8) (h : kOK cI κ = true) : cI = 9 ∧ κ = 1000 := by
  unfold kOK at h
  simp only [Bool.or_eq_true, Bool.and_eq_true, decide_eq_true_eq, beq_iff_eq] at h
  omega
theorem live_8 {cI κ : Nat} (hc : cI ≤ 8) (h : κ = cI + 1) : live κ := Or.inl ⟨by omega, by omega⟩
theorem pl_at {σ : PS} {a : Nat} {Ls : List Nat} {x : va_E} (hL : ∀ a, a ∈ Ls ↔ live (zK σ a)) (hl : live (zK σ a)) (hx : cel g σ a = x) : ∃ q0 : Nat, (va_pl Ls (cel g σ))[q0]? = some (a, x) := by
  obtain ⟨q0, h⟩ := va_pl_get (X := []) (f := cel g σ) ((hL a).mpr hl)
  exact ⟨q0, by rw [← hx]; exact h⟩
theorem fR_9 : ∀ o i j, fR o i = some (9, j) → (o = 9 ∧ i = 9 ∧ j = 0) ∨ (o = 9 ∧ i = 15 ∧ j = 1) := by
  intro o i j h
  unfold fR at h
  split at h <;> first | (cases h; simp; done) | (simp at h; done)
theorem v_get (X : Cx p l s m args meth c D g C S k σ0) {pc i cI j a : Nat} {lf : LV} {r : List Value} {σ : PS} (hd : decode (mB k) pc = .ok (.getfield i, 3)) (hf : fR (mO k) i = some (cI, j)) (hK : kOK cI (zK σ a) = true)
    (h : VV p l e s m args below meth c D g C S k σ0 Q (pc + 3) lf (fldV σ a cI j :: r) σ) : VV p l e s m args below meth c D g C S k σ0 Q pc lf (.ref a :: r) σ := by
  obtain ⟨⟨hx, hb, hml, hown, hts⟩, -, ⟨hE, hH, hsz, -⟩, -⟩ := X
  intro H locs ls h1 h2 h3 h4 h5 h6 h7
  have kk := h H locs ls h1 h2 h3 h4 h5 h6 h7
  by_cases hc : cI ≤ 8
  · obtain ⟨Ls, hL, hP, hD⟩ := h5
    have hk := kOK_8 hc hK
    obtain ⟨q0, he⟩ := pl_at hL (live_8 hc hk) (cel_obj (g := g) hc hk)
    obtain ⟨hj, ref, hr, hl⟩ := fR_ok _ _ _ _ hf hc
    obtain ⟨c1, c2, -⟩ := cl_ok cI hc
    rw [fldV_eq hc] at kk
    rcases hl with hl | hl
    · exact va_get (D := D) (ci := cI) hx hb hts c2 hown hE.1 hP q0 he c1 j hj (hts _ hl) (ref_same hts hr) (flds_get _ _ hj) hd kk
    · exact va_getN (D := D) (ci := cI) hx hb hts c2 hown hE.1 hP q0 he c1 j hj ((hE.2.1 _ hl).use rfl) (ref_same hts hr) (flds_get _ _ hj) hd kk
  · obtain ⟨rfl, hk⟩ := kOK_9 hc hK
    rcases h7 a (by omega) with ⟨-, n, hn, rfl, e1, e2⟩ | ⟨q, -⟩ | ⟨q, -⟩ | ⟨q, -⟩
    · have hv := (hH.2.2.2.2.2.2.1).1 n hn
      rcases fR_9 _ _ _ hf with ⟨eo, rfl, rfl⟩ | ⟨eo, rfl, rfl⟩
      · rw [eo] at hown
        have e3 : fldV σ (g (100 + n)) 9 0 = .ref (g (200 + n)) := by unfold fldV; rw [if_pos (Or.inr ⟨rfl, rfl⟩), e1]; rfl
        rw [e3] at kk
        exact vk_getf hx hb hv.2.2.1 h6 hown (hts _ gs_sv) (fun _ h9 => h9) hd kk
      · rw [eo] at hown
        have e3 : fldV σ (g (100 + n)) 9 1 = .int 0 := by unfold fldV; rw [if_neg (by decide), e2]
        rw [e3] at kk
        exact vk_getf hx hb hv.2.1 h6 hown (hts _ gs_sc) (fun _ h9 => h9) hd kk
    · omega
    · omega
    · omega
/-- behind a store: the same kinds, the same sizes -/
theorem VV.put (X : Cx p l s m args meth c D g C S k σ0) {pc' a q0 : Nat} {lf : LV} {st : List Value} {σ τ : PS} {H H1 : Heap} {locs1 : List Loc} {locs : List Loc} {ls : Array Slot} {Ls : List Nat} {x : va_E} (h : VV p l e s m args below meth c D g C S k σ0 Q pc' lf st τ)
    (h1 : lsR ls lf) (h2 : lf.length = mL k) (h3 : H.size = zN σ) (h4 : zS σ0 ≤ zS σ ∧ zN σ ≤ C ∧ zS σ ≤ S) (h6 : va_S (Ar σ0) s.heap H locs) (h7 : cOK g τ) (hL : ∀ a, a ∈ Ls ↔ live (zK σ a)) (hD : va_D (Ar σ0) (va_pl Ls (cel g σ))) (ha : live (zK σ a)) (hq : (va_pl Ls (cel g σ))[q0]? = some (a, cel g σ a))
    (e0 : zK τ = zK σ) (e1 : zN τ = zN σ) (e2 : zS τ = zS σ) (hx : ∀ b, va_up (cel g σ) a x b = cel g τ b)
    (hP1 : va_P D vwCl ((va_pl Ls (cel g σ)).set q0 (a, x)) H1) (hD1 : va_D (Ar σ0) ((va_pl Ls (cel g σ)).set q0 (a, x))) (hS1 : va_S (Ar σ0) H H1 locs1) :
    W p l e (rmK C S k σ0) s m args below meth c H1 locs1 (zN σ - zN σ0) (zS σ - zS σ0) Q (F0 m pc' ls st) := by
  have hset : (va_pl Ls (cel g σ)).set q0 (a, x) = va_pl Ls (cel g τ) := (va_pl_set (X := []) hD ((hL a).mpr ha) hq).trans (va_pl_congr hx)
  rw [hset] at hP1 hD1
  refine W_look fun z1 z2 => ?_
  have hs := X.2.2.1.2.2.1
  have hle := h6.1
  have hS : va_S (Ar σ0) s.heap H1 locs1 := ⟨Nat.le_trans h6.1 hS1.1, fun q g1 g2 => (hS1.2.1 q (Nat.lt_of_lt_of_le g1 h6.1) g2).trans (h6.2.1 q g1 g2), hS1.2.2⟩
  have hz : H1.size = zN τ := by
    have h9 := hS1.1
    rw [e1]
    omega
  have kk := h H1 locs1 ls h1 h2 hz (by rw [e1, e2]; exact h4) ⟨Ls, fun b => by rw [e0]; exact hL b, hP1, hD1⟩ hS h7
  rw [e1, e2] at kk
  exact kk
theorem S_self {H : Heap} {locs : List Loc} (h6 : va_S (Ar σ0) s.heap H locs) : va_S (Ar σ0) H H locs := ⟨Nat.le_refl _, fun _ _ _ => rfl, h6.2.2⟩
theorem ownS_8 : ∀ cI, cI ≤ 8 → ownS cI = clN cI := by decide +kernel
theorem nF_own : ∀ q ∈ nF, q.1 ≠ q.2.2.1 := by decide +kernel
theorem v_put (X : Cx p l s m args meth c D g C S k σ0) {pc i cI j a : Nat} {v : Value} {lf : LV} {r : List Value} {σ τ : PS} (hd : decode (mB k) pc = .ok (.putfield i, 3)) (hf : fR (mO k) i = some (cI, j)) (hc : cI ≤ 8) (hk : zK σ a = cI + 1) (hF : fF cI j = false ∨ (mI k = true ∧ mO k = cI))
    (hn : narrow (clY cI j) v = v) (hfit : fits (clY cI j) v = true) (e0 : zK τ = zK σ) (e1 : zN τ = zN σ) (e2 : zS τ = zS σ) (hx : ∀ b, va_up (cel g σ) a (.inr (cI, (flds cI (zI σ a) (zP σ a)).set j v)) b = cel g τ b) (h7' : cOK g σ → cOK g τ)
    (h : VV p l e s m args below meth c D g C S k σ0 Q (pc + 3) lf r τ) : VV p l e s m args below meth c D g C S k σ0 Q pc lf (v :: .ref a :: r) σ := by
  have X0 := X
  obtain ⟨⟨hx0, hb, hml, hown, hts⟩, ⟨-, -, hin, -⟩, ⟨hE, hH, hsz, -⟩, -⟩ := X
  intro H locs ls h1 h2 h3 h4 h5 h6 h7
  obtain ⟨Ls, hL, hP, hD⟩ := h5
  have hlv : live (zK σ a) := live_8 hc hk
  obtain ⟨q0, hq⟩ := pl_at (g := g) hL hlv rfl
  have he : (va_pl Ls (cel g σ))[q0]? = some (a, .inr (cI, flds cI (zI σ a) (zP σ a))) := by rw [hq, cel_obj hc hk]
  obtain ⟨hj, ref, hr, hl⟩ := fR_ok _ _ _ _ hf hc
  obtain ⟨c1, c2, -, -, c5, c6, c7, c8⟩ := cl_ok cI hc
  have hlen : j < (flds cI (zI σ a) (zP σ a)).length := by rw [flds_len]; exact hj
  by_cases hff : fF cI j = false
  · rcases hl with hl | hl
    · exact va_put (D := D) (ci := cI) hx0 hb hts c2 (clY cI) c5 c6 hown hE.1 hP hD (S_self h6) q0 he c1 j hj (hts _ hl) (ref_same hts hr) ((c7 j hj).2.trans hff) (c5 j hj) hn hfit hlen hd (fun H1 locs1 hP1 hD1 hS1 => VV.put X0 h h1 h2 h3 h4 h6 (h7' h7) hL hD hlv hq e0 e1 e2 hx hP1 hD1 hS1)
    · exact va_putN (D := D) (ci := cI) hx0 hb hts c2 (clY cI) c5 c6 hown hE.1 hP hD (S_self h6) q0 he c1 j hj ((hE.2.1 _ hl).use rfl) (ref_same hts hr) ((c7 j hj).2.trans hff) (c5 j hj) hn hfit hlen hd (fun H1 locs1 hP1 hD1 hS1 => VV.put X0 h h1 h2 h3 h4 h6 (h7' h7) hL hD hlv hq e0 e1 e2 hx hP1 hD1 hS1)
  · have hft : fF cI j = true := by cases hz : fF cI j <;> simp_all
    obtain ⟨hi, ho⟩ := hF.resolve_left hff
    have hcl := c8 j hj hft
    have hdecl : (clT cI j).1 = ownS (mO k) := by rw [hcl, ho, ownS_8 _ hc]
    rcases hl with hl | hl
    · exact va_putF (D := D) (ci := cI) hx0 hb hts c2 (clY cI) c5 c6 hown hE.1 hP hD (S_self h6) q0 he c1 j hj (hts _ hl) (ref_same hts hr) ((c7 j hj).2.trans hft) (hin hi) hdecl (c5 j hj) hn hfit hlen hd (fun H1 locs1 hP1 hD1 hS1 => VV.put X0 h h1 h2 h3 h4 h6 (h7' h7) hL hD hlv hq e0 e1 e2 hx hP1 hD1 hS1)
    · rcases hr with rfl | ⟨rfl, rfl, -⟩
      · exact absurd hdecl.symm (nF_own _ hl)
      · exact absurd hft (by decide)
end Snd
end
section
section Snd
variable {p : Program} {l : Launch} {e : Env} {s : State} {m : MethodId} {args : Array Value} {below : List Frame} {meth : Method} {c : Code} {Q : State → Prop}
variable {D : va_G} {g : Nat → Nat} {C S k : Nat} {σ0 : PS}
/-! arrays -/
theorem in_of {j : Int32} {n : Nat} (h0 : ¬ j < 0) (h1 : j.toNatClampNeg < n) : vp_in j n := fun q => q.elim h0 (fun z => absurd h1 (Nat.not_lt.mpr z))
theorem live_a {κ : Nat} (h : 101 ≤ κ ∧ κ ≤ 104) : live κ := Or.inr h
theorem v_iald (X : Cx p l s m args meth c D g C S k σ0) {pc a : Nat} {j : Int32} {lf : LV} {r : List Value} {σ : PS} (hd : decode (mB k) pc = .ok (.iaload, 1)) (hk : zK σ a = 101 ∨ zK σ a = 1002) (h0 : ¬ j < 0) (hj : j.toNatClampNeg < zL σ a)
    (h : VV p l e s m args below meth c D g C S k σ0 Q (pc + 1) lf (.int (zI σ a j.toNatClampNeg) :: r) σ) : VV p l e s m args below meth c D g C S k σ0 Q pc lf (.int j :: .ref a :: r) σ := by
  obtain ⟨⟨hx, hb, hml, hown, hts⟩, -, ⟨hE, hH, hsz, -⟩, -⟩ := X
  intro H locs ls h1 h2 h3 h4 h5 h6 h7
  have kk := h H locs ls h1 h2 h3 h4 h5 h6 h7
  obtain ⟨Ls, hL, hP, hD⟩ := h5
  rcases hk with hk | hk
  · obtain ⟨q0, he⟩ := pl_at hL (live_a (by omega)) (cel_101 (g := g) hk)
    exact va_iald hx hb hE.1 hP q0 0 he rfl (in_of h0 hj) hd kk
  · rcases h7 a (by omega) with ⟨q, -⟩ | ⟨q, -⟩ | ⟨-, rfl, e1, e2⟩ | ⟨q, -⟩
    · omega
    · omega
    · rw [e1] at hj
      exact va_ti hx hb hH.2.1 h6 (in_of h0 hj) (v := .int (zI σ (g 0) j.toNatClampNeg)) (by rw [e2 _ hj]) hd kk
    · omega
theorem v_cald (X : Cx p l s m args meth c D g C S k σ0) {pc a : Nat} {j : Int32} {lf : LV} {r : List Value} {σ : PS} (hd : decode (mB k) pc = .ok (.caload, 1)) (hk : zK σ a = 102) (h0 : ¬ j < 0) (hj : j.toNatClampNeg < zL σ a)
    (h : VV p l e s m args below meth c D g C S k σ0 Q (pc + 1) lf (.int (zI σ a j.toNatClampNeg) :: r) σ) : VV p l e s m args below meth c D g C S k σ0 Q pc lf (.int j :: .ref a :: r) σ := by
  obtain ⟨⟨hx, hb, hml, hown, hts⟩, -, ⟨hE, hH, hsz, -⟩, -⟩ := X
  intro H locs ls h1 h2 h3 h4 h5 h6 h7
  have kk := h H locs ls h1 h2 h3 h4 h5 h6 h7
  obtain ⟨Ls, hL, hP, hD⟩ := h5
  obtain ⟨q0, he⟩ := pl_at hL (live_a (by omega)) (cel_102 (g := g) hk)
  exact va_cald hx hb hE.1 hP q0 1 he rfl (in_of h0 hj) hd kk
theorem v_bald (X : Cx p l s m args meth c D g C S k σ0) {pc a : Nat} {j : Int32} {lf : LV} {r : List Value} {σ : PS} (hd : decode (mB k) pc = .ok (.baload, 1)) (hk : zK σ a = 1001) (h0 : ¬ j < 0) (hj : j.toNatClampNeg < zL σ a)
    (h : VV p l e s m args below meth c D g C S k σ0 Q (pc + 1) lf (.int (zI σ a j.toNatClampNeg) :: r) σ) : VV p l e s m args below meth c D g C S k σ0 Q pc lf (.int j :: .ref a :: r) σ := by
  obtain ⟨⟨hx, hb, hml, hown, hts⟩, -, ⟨hE, hH, hsz, -⟩, -⟩ := X
  intro H locs ls h1 h2 h3 h4 h5 h6 h7
  have kk := h H locs ls h1 h2 h3 h4 h5 h6 h7
  rcases h7 a (by omega) with ⟨q, -⟩ | ⟨-, n, hn, rfl, e1, e2⟩ | ⟨q, -⟩ | ⟨q, -⟩
  · omega
  · rw [e1] at hj
    exact va_tb hx hb ((hH.2.2.2.2.2.2.1).1 n hn).2.2.2 h6 (in_of h0 hj) (v := .int (zI σ (g (200 + n)) j.toNatClampNeg)) (by rw [e2 _ hj]; rfl) hd kk
  · omega
  · omega
theorem v_aald (X : Cx p l s m args meth c D g C S k σ0) {pc a : Nat} {j : Int32} {lf : LV} {r : List Value} {σ : PS} (hd : decode (mB k) pc = .ok (.aaload, 1)) (hk : zK σ a = 103 ∨ zK σ a = 104) (h0 : ¬ j < 0) (hj : j.toNatClampNeg < zL σ a)
    (h : VV p l e s m args below meth c D g C S k σ0 Q (pc + 1) lf (va_rf (zP σ a j.toNatClampNeg) :: r) σ) : VV p l e s m args below meth c D g C S k σ0 Q pc lf (.int j :: .ref a :: r) σ := by
  obtain ⟨⟨hx, hb, hml, hown, hts⟩, -, ⟨hE, hH, hsz, -⟩, -⟩ := X
  intro H locs ls h1 h2 h3 h4 h5 h6 h7
  have kk := h H locs ls h1 h2 h3 h4 h5 h6 h7
  obtain ⟨Ls, hL, hP, hD⟩ := h5
  rcases hk with hk | hk
  · obtain ⟨q0, he⟩ := pl_at hL (live_a (by omega)) (cel_103 (g := g) hk)
    exact va_aldq hx hb hE.1 hP q0 2 he rfl (in_of h0 hj) hd kk
  · obtain ⟨q0, he⟩ := pl_at hL (live_a (by omega)) (cel_104 (g := g) hk)
    exact va_aldq hx hb hE.1 hP q0 3 he rfl (in_of h0 hj) hd kk
theorem v_alen (X : Cx p l s m args meth c D g C S k σ0) {pc a : Nat} {lf : LV} {r : List Value} {σ : PS} (hd : decode (mB k) pc = .ok (.arraylength, 1)) (hk : (101 ≤ zK σ a ∧ zK σ a ≤ 104) ∨ zK σ a = 1001 ∨ zK σ a = 1003)
    (h : VV p l e s m args below meth c D g C S k σ0 Q (pc + 1) lf (.int (Int32.ofNat (zL σ a)) :: r) σ) : VV p l e s m args below meth c D g C S k σ0 Q pc lf (.ref a :: r) σ := by
  obtain ⟨⟨hx, hb, hml, hown, hts⟩, -, ⟨hE, hH, hsz, -⟩, -⟩ := X
  intro H locs ls h1 h2 h3 h4 h5 h6 h7
  have kk := h H locs ls h1 h2 h3 h4 h5 h6 h7
  obtain ⟨Ls, hL, hP, hD⟩ := h5
  rcases hk with hk | hk | hk
  · have hlv := live_a hk
    rcases (show zK σ a = 101 ∨ zK σ a = 102 ∨ zK σ a = 103 ∨ zK σ a = 104 by omega) with q | q | q | q
    · obtain ⟨q0, he⟩ := pl_at hL hlv (cel_101 (g := g) q)
      exact va_alen hx hb hE.1 hP q0 0 he (ty := .int) rfl rfl hd kk
    · obtain ⟨q0, he⟩ := pl_at hL hlv (cel_102 (g := g) q)
      exact va_alen hx hb hE.1 hP q0 1 he (ty := .char) rfl rfl hd kk
    · obtain ⟨q0, he⟩ := pl_at hL hlv (cel_103 (g := g) q)
      exact va_alen hx hb hE.1 hP q0 2 he (ty := .object RX5) rfl rfl hd kk
    · obtain ⟨q0, he⟩ := pl_at hL hlv (cel_104 (g := g) q)
      exact va_alen hx hb hE.1 hP q0 3 he (ty := .object "java/lang/Object") rfl rfl hd kk
  · rcases h7 a (by omega) with ⟨q, -⟩ | ⟨-, n, hn, rfl, e1, e2⟩ | ⟨q, -⟩ | ⟨q, -⟩
    · omega
    · exact va_tlen hx hb ((hH.2.2.2.2.2.2.1).1 n hn).2.2.2 h6 (by rw [e1]; rfl) hd kk
    · omega
    · omega
  · rcases h7 a (by omega) with ⟨q, -⟩ | ⟨q, -⟩ | ⟨q, -⟩ | ⟨-, rfl, e1⟩
    · omega
    · omega
    · omega
    · exact va_tlen hx hb hH.2.2.2.1 h6 (by rw [e1]) hd kk
theorem cel_s101 {σ : PS} {a j : Nat} {x : Int32} (hk : zK σ a = 101) : cel g (stI σ a j x) a = .inl (g 2, zL σ a, .inl (upd (zI σ a) j x)) := by
  have e : zI (stI σ a j x) a = upd (zI σ a) j x := by funext b; simp [zI, stI, upd]
  rw [cel_101 (show zK (stI σ a j x) a = 101 from hk), e]
  rfl
theorem cel_s102 {σ : PS} {a j : Nat} {x : Int32} (hk : zK σ a = 102) : cel g (stI σ a j x) a = .inl (g 3, zL σ a, .inl (upd (zI σ a) j x)) := by
  have e : zI (stI σ a j x) a = upd (zI σ a) j x := by funext b; simp [zI, stI, upd]
  rw [cel_102 (show zK (stI σ a j x) a = 102 from hk), e]
  rfl
theorem cel_s103 {σ : PS} {a j : Nat} {x : Option Nat} (hk : zK σ a = 103) : cel g (stP σ a j x) a = .inl (g 4, zL σ a, .inr (.inr (.inr (.inr (va_up (zP σ a) j x))))) := by
  have e : zP (stP σ a j x) a = va_up (zP σ a) j x := by funext b; simp [zP, stP, va_up]
  rw [cel_103 (show zK (stP σ a j x) a = 103 from hk), e]
  rfl
theorem cel_s104 {σ : PS} {a j : Nat} {x : Option Nat} (hk : zK σ a = 104) : cel g (stP σ a j x) a = .inl (g 5, zL σ a, .inr (.inr (.inr (.inr (va_up (zP σ a) j x))))) := by
  have e : zP (stP σ a j x) a = va_up (zP σ a) j x := by funext b; simp [zP, stP, va_up]
  rw [cel_104 (show zK (stP σ a j x) a = 104 from hk), e]
  rfl
theorem v_iast (X : Cx p l s m args meth c D g C S k σ0) {pc a : Nat} {j x : Int32} {lf : LV} {r : List Value} {σ : PS} (hd : decode (mB k) pc = .ok (.iastore, 1)) (hk : zK σ a = 101) (h0 : ¬ j < 0) (hj : j.toNatClampNeg < zL σ a)
    (h : VV p l e s m args below meth c D g C S k σ0 Q (pc + 1) lf r (stI σ a j.toNatClampNeg x)) : VV p l e s m args below meth c D g C S k σ0 Q pc lf (.int x :: .int j :: .ref a :: r) σ := by
  have X0 := X
  obtain ⟨⟨hx, hb, hml, hown, hts⟩, -, ⟨hE, hH, hsz, -⟩, -⟩ := X
  intro H locs ls h1 h2 h3 h4 h5 h6 h7
  obtain ⟨Ls, hL, hP, hD⟩ := h5
  have hlv : live (zK σ a) := live_a (by omega)
  obtain ⟨q0, hq⟩ := pl_at (g := g) hL hlv rfl
  have he : (va_pl Ls (cel g σ))[q0]? = some (a, .inl (g 2, zL σ a, .inl (zI σ a))) := by rw [hq, cel_101 hk]
  exact va_iast hx hb hE.1 hP hD (S_self h6) q0 0 he rfl (in_of h0 hj) hd (fun H1 locs1 hP1 hD1 hS1 => VV.put X0 h h1 h2 h3 h4 h6 (c_stI h7 (by omega)) hL hD hlv hq rfl rfl rfl
    (cel_up (cel_s101 hk) o_stI) hP1 hD1 hS1)
theorem v_cast (X : Cx p l s m args meth c D g C S k σ0) {pc a : Nat} {j x : Int32} {lf : LV} {r : List Value} {σ : PS} (hd : decode (mB k) pc = .ok (.castore, 1)) (hk : zK σ a = 102) (h0 : ¬ j < 0) (hj : j.toNatClampNeg < zL σ a)
    (h : VV p l e s m args below meth c D g C S k σ0 Q (pc + 1) lf r (stI σ a j.toNatClampNeg (vp_nar .char x))) : VV p l e s m args below meth c D g C S k σ0 Q pc lf (.int x :: .int j :: .ref a :: r) σ := by
  have X0 := X
  obtain ⟨⟨hx, hb, hml, hown, hts⟩, -, ⟨hE, hH, hsz, -⟩, -⟩ := X
  intro H locs ls h1 h2 h3 h4 h5 h6 h7
  obtain ⟨Ls, hL, hP, hD⟩ := h5
  have hlv : live (zK σ a) := live_a (by omega)
  obtain ⟨q0, hq⟩ := pl_at (g := g) hL hlv rfl
  have he : (va_pl Ls (cel g σ))[q0]? = some (a, .inl (g 3, zL σ a, .inl (zI σ a))) := by rw [hq, cel_102 hk]
  exact va_cast hx hb hE.1 hP hD (S_self h6) q0 1 he rfl (in_of h0 hj) hd (fun H1 locs1 hP1 hD1 hS1 => VV.put X0 h h1 h2 h3 h4 h6 (c_stI h7 (by omega)) hL hD hlv hq rfl rfl rfl
    (cel_up (cel_s102 hk) o_stI) hP1 hD1 hS1)
theorem okP_8 {σ : PS} {y : Nat} (h : okP σ (some y) = true) : ∃ cI, cI ≤ 8 ∧ zK σ y = cI + 1 := by
  simp only [okP, Bool.and_eq_true, decide_eq_true_eq] at h
  exact ⟨zK σ y - 1, by omega, by omega⟩
theorem v_aast (X : Cx p l s m args meth c D g C S k σ0) {pc a y : Nat} {j : Int32} {lf : LV} {r : List Value} {σ : PS} (hd : decode (mB k) pc = .ok (.aastore, 1)) (hk : (zK σ a = 103 ∧ zK σ y = 7) ∨ (zK σ a = 104 ∧ okP σ (some y) = true)) (h0 : ¬ j < 0) (hj : j.toNatClampNeg < zL σ a)
    (h : VV p l e s m args below meth c D g C S k σ0 Q (pc + 1) lf r (stP σ a j.toNatClampNeg (some y))) : VV p l e s m args below meth c D g C S k σ0 Q pc lf (.ref y :: .int j :: .ref a :: r) σ := by
  have X0 := X
  obtain ⟨⟨hx, hb, hml, hown, hts⟩, -, ⟨hE, hH, hsz, -⟩, -⟩ := X
  intro H locs ls h1 h2 h3 h4 h5 h6 h7
  obtain ⟨Ls, hL, hP, hD⟩ := h5
  rcases hk with ⟨hk, hy⟩ | ⟨hk, hy⟩
  · have hlv : live (zK σ a) := live_a (by omega)
    obtain ⟨q0, hq⟩ := pl_at (g := g) hL hlv rfl
    have he : (va_pl Ls (cel g σ))[q0]? = some (a, .inl (g 4, zL σ a, .inr (.inr (.inr (.inr (zP σ a)))))) := by rw [hq, cel_103 hk]
    obtain ⟨qk, hv⟩ := pl_at hL (live_8 (cI := 6) (by omega) hy) (cel_obj (g := g) (c := 6) (by omega) hy)
    exact va_astq hx hb hE.1 hP hD (S_self h6) q0 2 qk 6 (r := (RX5, TX5, 2)) he rfl hv rfl (in_of h0 hj) hd (fun H1 locs1 hP1 hD1 hS1 => VV.put X0 h h1 h2 h3 h4 h6 (c_stP h7 (by omega)) hL hD hlv hq rfl rfl rfl
      (cel_up (cel_s103 hk) o_stP) hP1 hD1 hS1)
  · have hlv : live (zK σ a) := live_a (by omega)
    obtain ⟨q0, hq⟩ := pl_at (g := g) hL hlv rfl
    have he : (va_pl Ls (cel g σ))[q0]? = some (a, .inl (g 5, zL σ a, .inr (.inr (.inr (.inr (zP σ a)))))) := by rw [hq, cel_104 hk]
    obtain ⟨cI, hc, hcy⟩ := okP_8 hy
    obtain ⟨qk, hv⟩ := pl_at hL (live_8 hc hcy) (cel_obj (g := g) hc hcy)
    obtain ⟨c1, -⟩ := cl_ok cI hc
    exact va_astqO hx hb hE.1 hP hD (S_self h6) q0 3 qk cI he rfl (hE.2.2.2.1 cI hc) hv c1 (in_of h0 hj) hd (fun H1 locs1 hP1 hD1 hS1 => VV.put X0 h h1 h2 h3 h4 h6 (c_stP h7 (by omega)) hL hD hlv hq rfl rfl rfl
      (cel_up (cel_s104 hk) o_stP) hP1 hD1 hS1)
/-! what is new -/
theorem VV.new (X : Cx p l s m args meth c D g C S k σ0) {pc' N : Nat} {lf : LV} {st : List Value} {σ τ : PS} {H H1 : Heap} {locs : List Loc} {ls : Array Slot} (h : VV p l e s m args below meth c D g C S k σ0 Q pc' lf st τ)
    (h1 : lsR ls lf) (h2 : lf.length = mL k) (h3 : H.size = zN σ) (h4 : zS σ0 ≤ zS σ ∧ zN σ ≤ C ∧ zS σ ≤ S) (hC : zN σ + 1 ≤ C) (hSl : zS σ + N ≤ S) (h5 : Pl D g (Ar σ0) σ H) (h6 : va_S (Ar σ0) s.heap H locs) (h7 : cOK g τ)
    (e1 : zN τ = zN σ + 1) (e2 : zS τ = zS σ + N) (ho : ∀ b, b ≠ zN σ → zK τ b = zK σ b ∧ zL τ b = zL σ b ∧ zI τ b = zI σ b ∧ zP τ b = zP σ b) (hlv : live (zK τ (zN σ)))
    (z1 : H1.size = zN σ + 1) (o1 : ∀ q, q < zN σ → H1[q]? = H[q]?) (hat : va_at D vwCl (zN σ, cel g τ (zN σ)) H1) :
    W p l e (rmK C S k σ0) s m args below meth c H1 locs (zN σ - zN σ0 + 1) (zS σ - zS σ0 + N) Q (F0 m pc' ls st) := by
  obtain ⟨Ls, hL, hP, hD⟩ := h5
  have hs := X.2.2.1.2.2.1
  have hle := h6.1
  have hfr : zN σ ∉ Ls := va_pl_fresh (X := []) hP (Nat.le_of_eq h3)
  have hkp : ∀ (k : Nat) (x : Nat × va_E), (va_pl Ls (cel g σ))[k]? = some x → H1[x.1]? = H[x.1]? := fun k x hx => o1 x.1 (by rw [← h3]; exact (hP k x hx).lt)
  have hA : Ar σ0 (zN σ) := Or.inr (by omega)
  have hP1 : va_P D vwCl (va_pl Ls (cel g σ) ++ [(zN σ, cel g τ (zN σ))]) H1 := (hP.kept hkp).app (fun k x hx => by
    have hz : k < 1 := (List.getElem?_eq_some_iff.mp hx).1
    rw [show k = 0 by omega] at hx
    cases hx
    exact hat)
  have hD1 : va_D (Ar σ0) (va_pl Ls (cel g σ) ++ [(zN σ, cel g τ (zN σ))]) := hD.push hP h3.symm hA
  rw [va_pl_push hfr, va_pl_congr (cel_up rfl ho)] at hP1 hD1
  have hS : va_S (Ar σ0) s.heap H1 locs := ⟨by omega, fun q g1 g2 => (o1 q (by omega)).trans (h6.2.1 q g1 g2), h6.2.2⟩
  have kk := h H1 locs ls h1 h2 (by rw [z1, e1]) ⟨by omega, by omega, by omega⟩ ⟨Ls ++ [zN σ], fun b => by
    rw [List.mem_append, List.mem_singleton]
    by_cases hb : b = zN σ
    · subst hb
      exact ⟨fun _ => hlv, fun _ => Or.inr rfl⟩
    · rw [(ho b hb).1, ← hL b]
      exact ⟨fun q => q.resolve_right hb, Or.inl⟩, hP1, hD1⟩ hS h7
  rw [e1, e2, show zN σ + 1 - zN σ0 = zN σ - zN σ0 + 1 by omega, show zS σ + N - zS σ0 = zS σ - zS σ0 + N by omega] at kk
  exact kk
theorem v_new (X : Cx p l s m args meth c D g C S k σ0) {pc i cI : Nat} {lf : LV} {r : List Value} {σ : PS} (hd : decode (mB k) pc = .ok (.new i, 3)) (hk : kR (mO k) i = some cI) (hc : cI ≤ 8) (hC : zN σ + 1 ≤ C) (hS : zS σ + fN cI ≤ S)
    (h : VV p l e s m args below meth c D g C S k σ0 Q (pc + 3) lf (.ref (zN σ) :: r) (alO σ (cI + 1) (fN cI))) : VV p l e s m args below meth c D g C S k σ0 Q pc lf r σ := by
  have X0 := X
  obtain ⟨⟨hx, hb, hml, hown, hts⟩, -, ⟨hE, hH, hsz, -⟩, -⟩ := X
  intro H locs ls h1 h2 h3 h4 h5 h6 h7
  obtain ⟨c1, c2, c3, c4, c5, -, c7, -⟩ := cl_ok cI hc
  have hKn := hE.1.1 cI _ c1
  have hle := h6.1
  refine W.newcK hx hb hown (hts _ (kR_ok _ _ _ hk)) (hts _ c3) (hts _ c4) rfl hd (by show zN σ - zN σ0 + 1 ≤ C - zN σ0; omega) (by show zS σ - zS σ0 + fN cI ≤ S - zS σ0; omega) hKn.2.1 h3 fun H1 kC hkC e1 z1 o1 => ?_
  have kz : zK (alO σ (cI + 1) (fN cI)) (zN σ) = cI + 1 := by simp [zK, alO]
  refine VV.new X0 h h1 h2 h3 h4 hC hS h5 h6 (c_alO h7 (by omega)) rfl rfl o_alO (by rw [kz]; exact live_8 hc rfl) z1 o1 ?_
  rw [cel_obj hc kz]
  refine ⟨_, c1, (u_born (clY cI) hts c2 hKn hkC e1 c5).to (fun j hj => ?_)⟩
  unfold vp_V
  rw [List.getD_eq_getElem?_getD, flds_get _ _ hj]
  have ez : zI (alO σ (cI + 1) (fN cI)) (zN σ) j = 0 := by simp [zI, alO]
  have ep : zP (alO σ (cI + 1) (fN cI)) (zN σ) j = none := by simp [zP, alO]
  rcases (c7 j hj).1 with ⟨q1, q2⟩ | ⟨q1, -, q2⟩ | ⟨q1, -, q2⟩
  · rw [q1, ep]
    cases ht : clY cI j <;> simp [ht, FieldType.isReference] at q2 <;> rfl
  · rw [q1, q2, ez]
    rfl
  · rw [q1, q2, ez]
    rfl
theorem v_newa (X : Cx p l s m args meth c D g C S k σ0) {pc : Nat} {n : Int32} {lf : LV} {r : List Value} {σ : PS} (ch : Bool) (hd : decode (mB k) pc = .ok (.newarray (if ch then .char else .int), 2)) (hn : ¬ n < 0) (hN : n.toNatClampNeg ≤ 100000) (hC : zN σ + 1 ≤ C) (hS : zS σ + n.toNatClampNeg ≤ S)
    (h : VV p l e s m args below meth c D g C S k σ0 Q (pc + 2) lf (.ref (zN σ) :: r) (alA σ (if ch then 102 else 101) n.toNatClampNeg)) : VV p l e s m args below meth c D g C S k σ0 Q pc lf (.int n :: r) σ := by
  have X0 := X
  obtain ⟨⟨hx, hb, hml, hown, hts⟩, -, ⟨hE, hH, hsz, -⟩, -⟩ := X
  intro H locs ls h1 h2 h3 h4 h5 h6 h7
  have hle := h6.1
  cases ch with
  | true =>
    have h : VV p l e s m args below meth c D g C S k σ0 Q (pc + 2) lf (.ref (zN σ) :: r) (alA σ 102 n.toNatClampNeg) := h
    refine va_newaK hx hb (atype := .char) (hts _ gs_char) rfl hd rfl hn rfl (by show n.toNatClampNeg * 2 ≤ 536870912; omega) (by show zN σ - zN σ0 + 1 ≤ C - zN σ0; omega) (by show zS σ - zS σ0 + n.toNatClampNeg ≤ S - zS σ0; omega) h3 fun H1 cA e1 z1 o1 hAr hNm => ?_
    have kz : zK (alA σ 102 n.toNatClampNeg) (zN σ) = 102 := by simp [zK, alA]
    have hcA : cA = g 3 := Option.some.inj (hNm.symm.trans ((hE.1.2 1 _ rfl).2))
    refine VV.new X0 h h1 h2 h3 h4 hC hS h5 h6 (c_alA h7 (by omega)) rfl rfl o_alA (by rw [kz]; exact live_a (by omega)) z1 o1 ?_
    show va_at D vwCl (zN σ, cel g (alA σ 102 n.toNatClampNeg) (zN σ)) H1
    rw [cel_102 kz]
    show H1[zN σ]? = some (vp_cell (g 3) _)
    rw [e1, hcA, vp_cell_i]
    have el : zL (alA σ 102 n.toNatClampNeg) (zN σ) = n.toNatClampNeg := by simp [zL, alA]
    have ei : zI (alA σ 102 n.toNatClampNeg) (zN σ) = fun _ => 0 := by funext j; simp [zI, alA]
    rw [el, ei]
    rfl
  | false =>
    have h : VV p l e s m args below meth c D g C S k σ0 Q (pc + 2) lf (.ref (zN σ) :: r) (alA σ 101 n.toNatClampNeg) := h
    refine va_newaK hx hb (atype := .int) (hts _ gs_int) rfl hd rfl hn rfl (by show n.toNatClampNeg * 4 ≤ 536870912; omega) (by show zN σ - zN σ0 + 1 ≤ C - zN σ0; omega) (by show zS σ - zS σ0 + n.toNatClampNeg ≤ S - zS σ0; omega) h3 fun H1 cA e1 z1 o1 hAr hNm => ?_
    have kz : zK (alA σ 101 n.toNatClampNeg) (zN σ) = 101 := by simp [zK, alA]
    have hcA : cA = g 2 := Option.some.inj (hNm.symm.trans ((hE.1.2 0 _ rfl).2))
    refine VV.new X0 h h1 h2 h3 h4 hC hS h5 h6 (c_alA h7 (by omega)) rfl rfl o_alA (by rw [kz]; exact live_a (by omega)) z1 o1 ?_
    show va_at D vwCl (zN σ, cel g (alA σ 101 n.toNatClampNeg) (zN σ)) H1
    rw [cel_101 kz]
    show H1[zN σ]? = some (vp_cell (g 2) _)
    rw [e1, hcA, vp_cell_i]
    have el : zL (alA σ 101 n.toNatClampNeg) (zN σ) = n.toNatClampNeg := by simp [zL, alA]
    have ei : zI (alA σ 101 n.toNatClampNeg) (zN σ) = fun _ => 0 := by funext j; simp [zI, alA]
    rw [el, ei]
    rfl
theorem v_anew (X : Cx p l s m args meth c D g C S k σ0) {pc i cI : Nat} {n : Int32} {lf : LV} {r : List Value} {σ : PS} (hd : decode (mB k) pc = .ok (.anewarray i, 3)) (hk : kR (mO k) i = some cI) (hc : cI = 6 ∨ cI = 104) (hn : ¬ n < 0) (hN : n.toNatClampNeg ≤ 100000) (hC : zN σ + 1 ≤ C) (hS : zS σ + n.toNatClampNeg ≤ S)
    (h : VV p l e s m args below meth c D g C S k σ0 Q (pc + 3) lf (.ref (zN σ) :: r) (alA σ (if cI = 6 then 103 else 104) n.toNatClampNeg)) : VV p l e s m args below meth c D g C S k σ0 Q pc lf (.int n :: r) σ := by
  have X0 := X
  obtain ⟨⟨hx, hb, hml, hown, hts⟩, -, ⟨hE, hH, hsz, -⟩, -⟩ := X
  intro H locs ls h1 h2 h3 h4 h5 h6 h7
  have hle := h6.1
  have hlink := hts _ (kR_ok _ _ _ hk)
  rcases hc with rfl | rfl
  · refine W.anew hx hb hown hlink (hE.2.2.2.2.2.1.use) rfl hd rfl hn (by omega) (by show zN σ - zN σ0 + 1 ≤ C - zN σ0; omega) (by show zS σ - zS σ0 + n.toNatClampNeg ≤ S - zS σ0; omega) fun cA kA comp a1 a2 a3 a4 => ?_
    have kz : zK (alA σ 103 n.toNatClampNeg) (zN σ) = 103 := by simp [zK, alA]
    have hcA : cA = g 4 := by
      obtain ⟨_, _, _, _, _, w4⟩ := (hE.1.2 2 _ rfl).2
      exact Option.some.inj (a1.symm.trans w4)
    rw [h3]
    refine VV.new X0 h h1 h2 h3 h4 hC hS h5 h6 (c_alA h7 (by decide)) rfl rfl o_alA (by show live (zK (alA σ 103 n.toNatClampNeg) (zN σ)); rw [kz]; exact live_a (by omega)) (by simp [h3]) (fun q hq => by rw [Array.getElem?_push, if_neg (by omega)]) ?_
    show va_at D vwCl (zN σ, cel g (alA σ 103 n.toNatClampNeg) (zN σ)) _
    rw [cel_103 kz]
    show (H.push _)[zN σ]? = some (vp_cell (g 4) _)
    rw [← h3, Array.getElem?_push_size, arrV_new, hcA, vp_cell_q]
    have el : zL (alA σ 103 n.toNatClampNeg) H.size = n.toNatClampNeg := by rw [h3]; simp [zL, alA]
    have ei : zP (alA σ 103 n.toNatClampNeg) H.size = fun _ => none := by rw [h3]; funext j; simp [zP, alA]
    rw [el, ei]
    rfl
  · refine W.anew hx hb hown hlink (hE.2.2.2.2.1.use) rfl hd rfl hn (by omega) (by show zN σ - zN σ0 + 1 ≤ C - zN σ0; omega) (by show zS σ - zS σ0 + n.toNatClampNeg ≤ S - zS σ0; omega) fun cA kA comp a1 a2 a3 a4 => ?_
    have kz : zK (alA σ 104 n.toNatClampNeg) (zN σ) = 104 := by simp [zK, alA]
    have hcA : cA = g 5 := by
      obtain ⟨_, _, _, _, _, w4⟩ := (hE.1.2 3 _ rfl).2
      exact Option.some.inj (a1.symm.trans w4)
    rw [h3]
    refine VV.new X0 h h1 h2 h3 h4 hC hS h5 h6 (c_alA h7 (by decide)) rfl rfl o_alA (by show live (zK (alA σ 104 n.toNatClampNeg) (zN σ)); rw [kz]; exact live_a (by omega)) (by simp [h3]) (fun q hq => by rw [Array.getElem?_push, if_neg (by omega)]) ?_
    show va_at D vwCl (zN σ, cel g (alA σ 104 n.toNatClampNeg) (zN σ)) _
    rw [cel_104 kz]
    show (H.push _)[zN σ]? = some (vp_cell (g 5) _)
    rw [← h3, Array.getElem?_push_size, arrV_new, hcA, vp_cell_q]
    have el : zL (alA σ 104 n.toNatClampNeg) H.size = n.toNatClampNeg := by rw [h3]; simp [zL, alA]
    have ei : zP (alA σ 104 n.toNatClampNeg) H.size = fun _ => none := by rw [h3]; funext j; simp [zP, alA]
    rw [el, ei]
    rfl
end Snd
end
section
/-! calls -/
def wsK (k : Nat) : List Cond := Cond.code (mY k) (mB k) (mL k) (mR k) :: gW
def PreK (D : va_G) (g : Nat → Nat) (σ : PS) (U : State) : Prop := U.heap.size = zN σ ∧ Pl D g (Ar σ) σ U.heap ∧ cOK g σ ∧ EnvT D g U ∧ EnvH g (Ar σ) U U.heap
def QcK (D : va_G) (g : Nat → Nat) (C S : Nat) (σ : PS) (r : Rs) (τ : PS) : Array Value → State → Outcome → State → Prop := fun _ st o t =>
  (∃ v, r = Sum.inl v ∧ o = .returned v ∧ t.heap.size = zN τ ∧ hsl t.heap + zS σ ≤ hsl st.heap + zS τ ∧ Pl D g (Ar σ) τ t.heap ∧ cOK g τ ∧ zS σ ≤ zS τ ∧ zN τ ≤ C ∧ zS τ ≤ S) ∧ va_F (Ar σ) st t
def XcK (D : va_G) (g : Nat → Nat) (σ : PS) (r : Rs) (τ : PS) : String → State → State → Prop := fun E st t => ∃ j, r = Sum.inr j ∧ E = exN j ∧ zN τ ≤ t.heap.size ∧ Pl D g (Ar σ) τ t.heap ∧ cOK g τ ∧ va_F (Ar σ) st t
/-- method k, with these arguments, from σ: it comes to r and τ -/
def Ctr (l : Launch) (D : va_G) (g : Nat → Nat) (C S k : Nat) (as : List Value) (σ : PS) (r : Rs) (τ : PS) : Prop :=
  vx_Met l (mY k) (wsK k) (rmK C S k σ) (va_Pc as (PreK D g σ)) (QcK D g C S σ r τ) (XcK D g σ r τ) (C - zN σ) (S - zS σ) (Ar σ)
theorem met_of {l : Launch} {y : MethodName} {ws : List Cond} {rm : Room} {Pc : Array Value → State → Prop} {Qc : Array Value → State → Outcome → State → Prop} {XC : String → State → State → Prop} {mc ms : Nat} {free : Addr → Prop} (h : vx_Met l y ws rm Pc Qc XC mc ms free) (hx : ∀ E st t, ¬ XC E st t) : Met l y ws rm Pc Qc mc ms free := by
  intro p e ha hc hk s m args below hf happ hP hK
  obtain ⟨n, o, h1, h2, h3, hq⟩ := h p e ha hc hk s m args below hf happ hP hK
  refine ⟨n, o, h1, h2, h3, ?_⟩
  rcases hq with hq | ⟨q, -, E, ce, L, hX, -⟩
  · exact hq
  · exact absurd hX (hx _ _ _)
theorem gIn {ws : List Cond} (h : ∀ w ∈ ws, w ∈ gW) : GoodIn gW ws := fun w hw => ⟨h w hw, good_of_word (gW_good w (h w hw))⟩
theorem wsK_in {k : Nat} (hk : k < 172) : ∀ w ∈ wsK k, w ∈ gW := fun w hw => (List.mem_cons.mp hw).elim (fun e => by rw [e]; exact mC_ok k hk) id
section Cal
variable {p : Program} {l : Launch} {e : Env} {s : State} {m : MethodId} {args : Array Value} {below : List Frame} {meth : Method} {c : Code} {Q : State → Prop}
variable {D : va_G} {g : Nat → Nat} {C S k : Nat} {σ0 : PS}
theorem fb_K {as : List Value} {σ : PS} : FrameBlind (va_Pc as (PreK D g σ)) := by
  intro a U gg mk h
  obtain ⟨h1, h2, h3, h4, h5, h6⟩ := h
  exact ⟨h1, h2, h3, h4, EnvT.warm (s := U) (State.WarmedH.refl U) h5, EnvH.moved (s := U) (Vm.Alike.refl U.vm) h6⟩
theorem Ar_le {σ : PS} {A : Nat → Prop} {H : Heap} (h5 : Pl D g A σ H) (hn : ∀ q, zN σ ≤ q → A q) : ∀ q, Ar σ q → A q := by
  obtain ⟨Ls, hL, hP, hD⟩ := h5
  intro q hq
  rcases hq with hq | hq
  · obtain ⟨q0, h⟩ := pl_at (g := g) hL hq rfl
    exact hD.2 q0 _ h
  · exact hn q hq
theorem Pl.self {σ : PS} {A : Nat → Prop} {H : Heap} (h5 : Pl D g A σ H) : Pl D g (Ar σ) σ H := by
  obtain ⟨Ls, hL, hP, hD⟩ := h5
  refine ⟨Ls, hL, hP, hD.1, fun k q hq => Or.inl ?_⟩
  have hm := List.mem_of_getElem? hq
  unfold va_pl at hm
  obtain ⟨a, ha, rfl⟩ := List.mem_map.mp hm
  exact (hL a).mp ha
theorem Pl.weak {τ : PS} {A B : Nat → Prop} {H : Heap} (h5 : Pl D g A τ H) (hAB : ∀ q, A q → B q) : Pl D g B τ H := by
  obtain ⟨Ls, hL, hP, hD⟩ := h5
  exact ⟨Ls, hL, hP, hD.1, fun k q hq => hAB _ (hD.2 k q hq)⟩
/-- a callee's start -/
theorem pre_K (X : Cx p l s m args meth c D g C S k σ0) {as : List Value} {σ : PS} {H : Heap} {locs : List Loc} (h3 : H.size = zN σ) (h5 : Pl D g (Ar σ0) σ H) (h6 : va_S (Ar σ0) s.heap H locs) (h7 : cOK g σ) : ∀ U : State, U.heap = H → s.WarmedH U.vm → va_Pc as (PreK D g σ) as.toArray U := by
  obtain ⟨-, -, ⟨hE, hH, hsz, -⟩, -⟩ := X
  intro U hU hW
  have hle := h6.1
  refine ⟨rfl, by rw [hU]; exact h3, by rw [hU]; exact h5.self, h7, hE.warm hW, ?_⟩
  rw [hU]
  exact (((hH.moved hW.alike).kept h6.2.1).narrow (Ar_le h5 (fun q hq => Or.inr (by omega))))
theorem call_go {R : Room} {H : Heap} {locs : List Loc} {cells slots mc ms pc : Nat} {ls : Array Slot} {st0 rest : List Value} {free : Addr → Prop} {σ τ : PS} {v : Option Value} {as : Array Value}
    (hr : va_Run p l e R s m args below meth c H locs cells slots mc ms (F0 m pc ls st0) rest (QcK D g C S σ (Sum.inl v) τ as) free) (hS : va_S (Ar σ0) s.heap H locs) (hA : ∀ q, Ar σ q → Ar σ0 q) (hf : ∀ q, free q → Ar σ0 q)
    (kk : ∀ (H1 : Heap) (locs1 : List Loc), H1.size = zN τ → hsl H1 + zS σ ≤ hsl H + zS τ → zS σ ≤ zS τ → zN τ ≤ C → zS τ ≤ S → Pl D g (Ar σ) τ H1 → cOK g τ → va_S (Ar σ0) s.heap H1 locs1 → W p l e R s m args below meth c H1 locs1 (cells + mc) (slots + ms) Q (F0 m (pc + 3) ls (v.toList ++ rest))) :
    W p l e R s m args below meth c H locs cells slots Q (F0 m pc ls st0) := by
  intro T hT X
  obtain ⟨v', st₀, t, T', L, h0, X', hL, e1, e2, ⟨⟨v1, r1, r2, z1, z2, z3, z4, z5, z6, z7⟩, hz, hk⟩, st⟩ := hr T hT X
  cases r1
  cases r2
  rw [h0] at hz hk z2
  obtain ⟨t2, a1, b1⟩ := kk T'.heap (locs ++ L) (by rw [e1]; exact z1) (by rw [e1]; exact z2) z5 z6 z7 (by rw [e1]; exact z3) z4
    ⟨Nat.le_trans hS.1 (by rw [e1]; exact hz), fun q g1 g2 => by rw [e1, hk q (Nat.lt_of_lt_of_le g1 hS.1) (fun z => g2 (hA q z))]; exact hS.2.1 q g1 g2, fun q hq => by
      rcases List.mem_append.mp hq with h | h
      · exact hS.2.2 q h
      · exact hf _ (hL q h)⟩ T' rfl X'
  exact ⟨t2, st t2 a1, b1⟩
/-- how a call goes on in the caller -/
theorem call_on (X : Cx p l s m args meth c D g C S k σ0) {pc : Nat} {lf : LV} {rest : List Value} {v : Option Value} {σ τ : PS} {H : Heap} {locs : List Loc} {ls : Array Slot} (h : VV p l e s m args below meth c D g C S k σ0 Q (pc + 3) lf (v.toList ++ rest) τ)
    (h1 : lsR ls lf) (h2 : lf.length = mL k) (h3 : H.size = zN σ) (h4 : zS σ0 ≤ zS σ ∧ zN σ ≤ C ∧ zS σ ≤ S) (h5 : Pl D g (Ar σ0) σ H) (h6 : va_S (Ar σ0) s.heap H locs) {st0 : List Value} {as : Array Value}
    (hr : va_Run p l e (rmK C S k σ0) s m args below meth c H locs (zN σ - zN σ0) (zS σ - zS σ0) (C - zN σ) (S - zS σ) (F0 m pc ls st0) rest (QcK D g C S σ (Sum.inl v) τ as) (Ar σ)) :
    W p l e (rmK C S k σ0) s m args below meth c H locs (zN σ - zN σ0) (zS σ - zS σ0) Q (F0 m pc ls st0) := by
  have hsz := X.2.2.1.2.2.1
  have hle := h6.1
  have hA := Ar_le h5 (fun q hq => Or.inr (by omega) : ∀ q, zN σ ≤ q → Ar σ0 q)
  refine W_look fun z1 z2 => ?_
  refine call_go hr h6 hA hA fun H1 locs1 y1 y2 y3 y4 y5 y6 y7 y8 => ?_
  have hle1 := y8.1
  refine W_tight (cells' := zN τ - zN σ0) (slots' := zS τ - zS σ0) (by omega) (by omega) ?_
  exact h H1 locs1 ls h1 h2 y1 ⟨by omega, y4, y5⟩ (y6.weak hA) y8 y7
theorem gn_all : ∀ k, k < 172 → (if mS k = true then Cond.static (mY k) ∈ gW else Cond.instanceMethod (mY k) ∈ gW ∧ (mI k = true ∨ Cond.selects (mY k).cls (mY k) (mY k) ∈ gW)) := by
  intro k hk
  have h : (if mS k = true then decide (lw_tbl[mIx.getD k 0]? = some (Cond.static (mY k))) && goodWord (Cond.static (mY k)) else decide (lw_tbl[mIx.getD k 0]? = some (Cond.instanceMethod (mY k))) && goodWord (Cond.instanceMethod (mY k)) && (mI k || (decide (lw_tbl[mJx.getD k 0]? = some (Cond.selects (mY k).cls (mY k) (mY k))) && goodWord (Cond.selects (mY k).cls (mY k) (mY k))))) = true := by
    rcases (show k < 24 ∨ (24 ≤ k ∧ k < 48) ∨ (48 ≤ k ∧ k < 72) ∨ (72 ≤ k ∧ k < 96) ∨ (96 ≤ k ∧ k < 120) ∨ (120 ≤ k ∧ k < 144) ∨ (144 ≤ k ∧ k < 168) ∨ (168 ≤ k ∧ k < 172) by omega) with q | q | q | q | q | q | q | q
    · exact gn_0 k q (by omega)
    · exact gn_24 k q.2 q.1
    · exact gn_48 k q.2 q.1
    · exact gn_72 k q.2 q.1
    · exact gn_96 k q.2 q.1
    · exact gn_120 k q.2 q.1
    · exact gn_144 k q.2 q.1
    · exact gn_168 k q.2 q.1
  by_cases hs : mS k = true
  · rw [if_pos hs] at h ⊢
    simp only [Bool.and_eq_true, decide_eq_true_eq] at h
    exact gWm _ h.1 h.2
  · rw [if_neg hs] at h ⊢
    simp only [Bool.and_eq_true, Bool.or_eq_true, decide_eq_true_eq] at h
    exact ⟨gWm _ h.1.1 h.1.2, h.2.elim Or.inl (fun q => Or.inr (gWm _ q.1 q.2))⟩
theorem gi_all : ∀ o, o ≤ 17 → o ≠ 11 → Cond.initialized (ownS o) ∈ gW := by
  intro o h1 h2
  match o, h1, h2 with
  | 0, _, _ => exact gi_0
  | 1, _, _ => exact gi_1
  | 2, _, _ => exact gi_2
  | 3, _, _ => exact gi_3
  | 4, _, _ => exact gi_4
  | 5, _, _ => exact gi_5
  | 6, _, _ => exact gi_6
  | 7, _, _ => exact gi_7
  | 8, _, _ => exact gi_8
  | 9, _, _ => exact gi_9
  | 10, _, _ => exact gi_10
  | 12, _, _ => exact gi_12
  | 13, _, _ => exact gi_13
  | 14, _, _ => exact gi_14
  | 15, _, _ => exact gi_15
  | 16, _, _ => exact gi_16
  | 17, _, _ => exact gi_17
  | 11, _, h => exact absurd rfl h
  | n + 18, h, _ => exact absurd h (by omega)
theorem mO_11 : ∀ k, k < 172 → mO k ≠ 11 := by decide +kernel
theorem len_sum (r : List Value) : (r.map fun v => v.category).sum ≤ 2 * r.length := by
  induction r with
  | nil => simp
  | cons v r ih =>
    simp only [List.map_cons, List.sum_cons, List.length_cons]
    rcases lv_cat v with h | h <;> omega
end Cal
end
section
section Cal2
variable {p : Program} {l : Launch} {e : Env} {s : State} {m : MethodId} {args : Array Value} {below : List Frame} {meth : Method} {c : Code} {Q : State → Prop}
variable {D : va_G} {g : Nat → Nat} {C S k : Nat} {σ0 : PS}
theorem call_th {R : Room} {H : Heap} {locs : List Loc} {cells slots mc ms mc' ms' pc j : Nat} {ls : Array Slot} {st0 rest : List Value} {free : Addr → Prop} {σ τ : PS} {as : Array Value}
    (hr : vx_Run p l e R s m args below meth c H locs cells slots mc ms (F0 m pc ls st0) rest (QcK D g C S σ (Sum.inr j) τ as) (XcK D g σ (Sum.inr j) τ) free) (hS : va_S (Ar σ0) s.heap H locs) (hA : ∀ q, Ar σ q → Ar σ0 q) (hf : ∀ q, free q → Ar σ0 q)
    (hlocks : meth.locks = false) (hout : ∀ x ∈ c.exceptionTable.toList, False) (hc : cells + mc ≤ mc') (hs : slots + ms ≤ ms') :
    W p l e R s m args below meth c H locs cells slots (vx_MQ below (QcK D g C S σ0 (Sum.inr j) τ) (XcK D g σ0 (Sum.inr j) τ) args s mc' ms' (Ar σ0)) (F0 m pc ls st0) := by
  intro T hT X
  rcases hr T hT X with ⟨v', st₀, t, T', L, h0, X', hL, e1, e2, ⟨⟨v1, r1, -⟩, -⟩, st⟩ | ⟨q, st₀, t, T', L, E, ce, h0, X', hL, e1, e2, ⟨j', r1, rfl, y1, y2, y3, hF⟩, hce, hcv, hcl, st⟩
  · cases r1
  · cases r1
    obtain ⟨k1, k2, k3⟩ := vx_keep h0 e1 hS (fun q _ h => hA q h) hf hL hF
    have hx : vx_W p l e R s m args below meth c T'.heap (locs ++ L) (cells + mc) (slots + ms) (vx_MQ below (QcK D g C S σ0 (Sum.inr j) τ) (XcK D g σ0 (Sum.inr j) τ) args s mc' ms' (Ar σ0)) (F0 m pc ls rest) q :=
      vx_out (fun x hx => absurd hx (fun q => hout x q)) hlocks (by rw [e1]; exact hce) hcv hcl (fun t2 ht2 _ => ⟨j, rfl, rfl, by rw [ht2, e1]; exact y1, by rw [ht2, e1]; exact y2.weak hA, y3, k3.F ht2⟩) k3.2.2 hc hs
    obtain ⟨t2, a1, b1⟩ := hx T' rfl X'
    exact ⟨t2, st.trans a1, b1⟩
theorem rm_ok {k k2 : Nat} (h : rmOK k k2 = true) {σ σ0 : PS} : (rmK C S k2 σ).frames + 1 ≤ (rmK C S k σ0).frames ∧ 8 + (mL k2 + 11) + (rmK C S k2 σ).locals ≤ (rmK C S k σ0).locals := by
  unfold rmOK at h
  simp only [Bool.and_eq_true, decide_eq_true_eq] at h
  exact h
theorem XcK_no {σ τ : PS} {v : Option Value} : ∀ E st t, ¬ XcK D g σ (Sum.inl v) τ E st t := by
  rintro E st t ⟨j, h, -⟩
  cases h
theorem mI_none : ∀ k, k < 172 → mI k = true → mR k = none := by decide +kernel
theorem st_split {st as : List Value} {n : Nat} (h : (st.take n).reverse = as) : st = as.reverse ++ st.drop n := by
  rw [← h, List.reverse_reverse, List.take_append_drop]
theorem as_len {st as : List Value} {n : Nat} (h : (st.take n).reverse = as) (hn : n ≤ st.length) : as.length = n := by
  rw [← h, List.length_reverse, List.length_take]
  omega
theorem rm_sum {r : List Value} (h : r.length ≤ 4) : 2 * (F0 m 0 #[] []).monitorRoom + (r.map fun v => v.category).sum ≤ 8 := by
  have := len_sum r
  show 2 * 0 + _ ≤ 8
  omega
/-- the receiver -/
theorem rcv_at (X : Cx p l s m args meth c D g C S k σ0) {k2 b : Nat} {σ : PS} {H : Heap} {locs : List Loc} (hk2 : k2 < 172) (h5 : Pl D g (Ar σ0) σ H) (h6 : va_S (Ar σ0) s.heap H locs) (h7 : cOK g σ) (hr : (mO k2 ≤ 8 ∧ zK σ b = mO k2 + 1) ∨ (mO k2 = 9 ∧ zK σ b = 1000)) :
    ∃ cellB : Cell, H[b]? = some cellB ∧ cellB.vm.isStatics = false ∧ s.vm.findClass (mY k2).cls = some cellB.cls := by
  obtain ⟨-, -, ⟨hE, hH, hsz, -⟩, -⟩ := X
  obtain ⟨hcls, -⟩ := mY_ok k2 hk2
  rw [hcls]
  rcases hr with ⟨ho, hb⟩ | ⟨ho, hb⟩
  · obtain ⟨Ls, hL, hP, hD⟩ := h5
    obtain ⟨q0, he⟩ := pl_at hL (live_8 ho hb) (cel_obj (g := g) ho hb)
    obtain ⟨c1, -⟩ := cl_ok _ ho
    rw [ownS_8 _ ho]
    exact va_recv hE.1 hP c1 he
  · rcases h7 b (by omega) with ⟨-, n, hn, rfl, -⟩ | ⟨q, -⟩ | ⟨q, -⟩ | ⟨q, -⟩
    · rw [ho]
      exact vk_recv (i := n) (adK := fun j => g (100 + j)) hH.2.2.2.2.2.2.1 hn h6
    · omega
    · omega
    · omega
theorem rcv_0 {σ : PS} {k2 : Nat} {as : List Value} (h : rcv σ 0 k2 as = true) : ∃ b As, as = .ref b :: As ∧ mS k2 = false ∧ mI k2 = false ∧ ((mO k2 ≤ 8 ∧ zK σ b = mO k2 + 1) ∨ (mO k2 = 9 ∧ zK σ b = 1000)) := by
  cases as with
  | nil => exact absurd h (by simp [rcv])
  | cons v As =>
    cases v with
    | ref b =>
      have h : (!mS k2 && !mI k2 && ((decide (mO k2 ≤ 8) && zK σ b == mO k2 + 1) || (mO k2 == 9 && zK σ b == 1000))) = true := h
      simp only [Bool.and_eq_true, Bool.or_eq_true, Bool.not_eq_true', decide_eq_true_eq, beq_iff_eq] at h
      exact ⟨b, As, rfl, h.1.1, h.1.2, h.2⟩
    | _ => exact absurd h (by simp [rcv])
theorem rcv_1 {σ : PS} {k2 : Nat} {as : List Value} (h : rcv σ 1 k2 as = true) : ∃ b As, as = .ref b :: As ∧ mS k2 = false ∧ mI k2 = true := by
  cases as with
  | nil => exact absurd h (by simp [rcv])
  | cons v As =>
    cases v with
    | ref b =>
      have h : (!mS k2 && mI k2) = true := h
      simp only [Bool.and_eq_true, Bool.not_eq_true'] at h
      exact ⟨b, As, rfl, h.1, h.2⟩
    | _ => exact absurd h (by simp [rcv])
theorem rcv_2 {σ : PS} {k2 : Nat} {as : List Value} (h : rcv σ 2 k2 as = true) : mS k2 = true := h
theorem nM_no : ∀ k2, k2 < 172 → 81 ≤ k2 → k2 ≤ 86 → ∀ q ∈ nM, q.2.2 ≠ mY k2 := by decide +kernel
/-- a call of a method of the table that returns -/
theorem v_call (X : Cx p l s m args meth c D g C S k σ0) {pc i k2 op : Nat} {ins : Instr} {lf : LV} {st : List Value} {v : Option Value} {σ τ : PS} (hop : (op = 0 ∧ ins = .invokevirtual i) ∨ (op = 1 ∧ ins = .invokespecial i) ∨ (op = 2 ∧ ins = .invokestatic i)) (hd : decode (mB k) pc = .ok (ins, 3))
    (hcR : cR (mO k) i = some k2) (hk2 : ¬ 1000 ≤ k2) (hrm : rmOK k k2 = true) (hA : mA k2 ≤ st.length) (hrest : (st.drop (mA k2)).length ≤ 4) (hrc : rcv σ op k2 (st.take (mA k2)).reverse = true)
    (hC : Ctr l D g C S k2 (st.take (mA k2)).reverse σ (Sum.inl v) τ) (h : VV p l e s m args below meth c D g C S k σ0 Q (pc + 3) lf (v.toList ++ st.drop (mA k2)) τ) : VV p l e s m args below meth c D g C S k σ0 Q pc lf st σ := by
  have hf := cR_ok _ _ _ hcR
  have hlk : k2 < 172 := by
    rcases hf with q | q
    · exact q.1
    · exact absurd q.1 hk2
  have hlink : Cond.methodLink (ownS (mO k)) i (mY k2) ∈ gW ∨ ((ownS (mO k), i, mY k2) ∈ nM ∧ (mI k2 = true ∨ mS k2 = true)) := by
    rcases hf with q | q
    · exact q.2
    · exact absurd q.1 hk2
  obtain ⟨hcls, hpl, hmh, hpar, hin, hA1, hO17⟩ := mY_ok k2 hlk
  have hgn := gn_all k2 hlk
  have hini : Cond.initialized (mY k2).cls ∈ gW := by rw [hcls]; exact gi_all _ hO17 (mO_11 k2 hlk)
  intro H locs ls h1 h2 h3 h4 h5 h6 h7
  have hM : Met l (mY k2) (wsK k2) (rmK C S k2 σ) (va_Pc (st.take (mA k2)).reverse (PreK D g σ)) (QcK D g C S σ (Sum.inl v) τ) (C - zN σ) (S - zS σ) (Ar σ) := met_of hC XcK_no
  have hpre := pre_K X (as := (st.take (mA k2)).reverse) h3 h5 h6 h7
  have hsz := X.2.2.1.2.2.1
  have hle := h6.1
  have hls : ls.size = mL k := h1.1.trans h2
  have hroom : zN σ - zN σ0 + (C - zN σ) ≤ (rmK C S k σ0).cells ∧ zS σ - zS σ0 + (S - zS σ) ≤ (rmK C S k σ0).slots := ⟨by show _ ≤ C - zN σ0; omega, by show _ ≤ S - zS σ0; omega⟩
  have hS8 : 2 * (F0 m pc ls st).monitorRoom + ((st.drop (mA k2)).map fun v => v.category).sum ≤ 8 := by
    have := len_sum (st.drop (mA k2))
    show 2 * 0 + _ ≤ 8
    omega
  have hts := X.1.2.2.2.2
  have hE := X.2.2.1.1
  generalize has : (st.take (mA k2)).reverse = as at *
  have hst := st_split has
  have hal := as_len has hA
  refine call_on X h h1 h2 h3 h4 h5 h6 (as := as.toArray) ?_
  rcases hop with ⟨rfl, rfl⟩ | ⟨rfl, rfl⟩ | ⟨rfl, rfl⟩
  · obtain ⟨b, As, rfl, hms, hmi, hrb⟩ := rcv_0 hrc
    have hst2 : st = As.reverse ++ .ref b :: st.drop (mA k2) := hst.trans (by rw [List.reverse_cons, List.append_assoc]; rfl)
    rw [if_neg (by rw [hms]; decide)] at hgn
    have hsel := hgn.2.resolve_left (by rw [hmi]; decide)
    have hlk' := hlink.resolve_right (fun q => by
      rcases q.2 with w | w
      · rw [hmi] at w
        cases w
      · rw [hms] at w
        cases w)
    refine va_runV (As := As) (b := b) X.1 hM (cwV (mA k2 - 1) hts (gIn (fun w hw => ?_)) rfl rfl rfl ⟨rfl, hmh.1, hmh.2, by rw [hpar, hms]; rfl⟩ (rm_ok hrm)) ⟨fb_K, rcv_at X hlk h5 h6 h7 hrb, hpre⟩ rfl (by simp at hal; omega) hls hst2 hS8 hd hroom
    unfold wsV at hw
    rcases List.mem_append.mp hw with q | q
    · simp only [List.mem_cons, List.not_mem_nil, or_false] at q
      rcases q with rfl | rfl | rfl | rfl
      · exact hlk'
      · exact hgn.1
      · exact hsel
      · exact hini
    · exact wsK_in hlk w q
  · obtain ⟨b, As, rfl, hms, hmi⟩ := rcv_1 hrc
    have hst2 : st = As.reverse ++ .ref b :: st.drop (mA k2) := hst.trans (by rw [List.reverse_cons, List.append_assoc]; rfl)
    rw [if_neg (by rw [hms]; decide)] at hgn
    have hnm : (mY k2).name = "<init>" := by rw [hmi] at hin; exact of_decide_eq_true hin.symm
    have hret : wsK k2 = Cond.code (mY k2) (mB k2) (mL k2) none :: gW := by unfold wsK; rw [mI_none k2 hlk hmi]
    rcases hlink with q | ⟨q, -⟩
    · exact va_runI (As := As) (b := b) X.1 hM (cwI (mA k2 - 1) hts (gIn (wsK_in hlk)) hret rfl rfl (hts _ hini) (hts _ q) (hts _ hgn.1) hnm ⟨hmh.1, hmh.2, by rw [hpar, hms]; rfl⟩ (rm_ok hrm)) ⟨fb_K, hpre⟩ rfl (by simp at hal; omega) hls hst2 hS8 hd hroom
    · exact va_runIN (As := As) (b := b) X.1 hM ⟨va_cnB (mA k2 - 1) hts (gIn (wsK_in hlk)) hret rfl rfl (hE.2.2.1 (ownS (mO k), i, mY k2) q) (hts _ hini) ⟨hmh.1, hmh.2, by rw [hpar, hms]; rfl⟩ (rm_ok hrm), hnm, hts _ hgn.1⟩ ⟨fb_K, hpre⟩ rfl (by simp at hal; omega) hls hst2 hS8 hd hroom
  · have hms := rcv_2 hrc
    have hret : wsK k2 = Cond.code (mY k2) (mB k2) (mL k2) (mR k2) :: gW := rfl
    rw [if_pos hms] at hgn
    rcases hlink with q | ⟨q, -⟩
    · refine va_runS (As := as) X.1 hM (va_cwS (mA k2) hts (gIn (fun w hw => ?_)) hret rfl rfl ⟨hmh.1, hmh.2, by rw [hpar, hms]; rfl⟩ (rm_ok hrm)) ⟨fb_K, hpre⟩ rfl hal hls hst hS8 hd hroom
      unfold va_wsS at hw
      rcases List.mem_append.mp hw with q' | q'
      · simp only [List.mem_cons, List.not_mem_nil, or_false] at q'
        rcases q' with rfl | rfl | rfl
        · exact q
        · exact hgn
        · exact hini
      · exact wsK_in hlk w q'
    · have hnw : va_Nw (.methodLinkNest (ownS (mO k)) i (mY k2) RX6) s := hE.2.2.1 (ownS (mO k), i, mY k2) q
      have hcn : va_CN (rmK C S k σ0) s args (ownS (mO k)) i (mY k2) RX6 (mB k2) (mL k2) (mR k2) (wsK k2) (rmK C S k2 σ) (C - zN σ) (S - zS σ) (mA k2) := va_cnB (mA k2) hts (gIn (wsK_in hlk)) hret rfl rfl hnw (hts _ hini) ⟨hmh.1, hmh.2, by rw [hpar, hms]; rfl⟩ (rm_ok hrm)
      exact va_runSN (As := as) X.1 hM ⟨hcn, hts _ hgn, trivial⟩ ⟨fb_K, hpre⟩ rfl hal hls hst hS8 hd hroom
/-- .. that throws -/
theorem v_callT (X : Cx p l s m args meth c D g C S k σ0) {pc i k2 op j : Nat} {ins : Instr} {lf : LV} {st : List Value} {σ τ : PS} (hop : (op = 0 ∧ ins = .invokevirtual i) ∨ (op = 1 ∧ ins = .invokespecial i) ∨ (op = 2 ∧ ins = .invokestatic i)) (hd : decode (mB k) pc = .ok (ins, 3))
    (hcR : cR (mO k) i = some k2) (h81 : 81 ≤ k2 ∧ k2 ≤ 86) (hrm : rmOK k k2 = true) (hA : mA k2 ≤ st.length) (hrest : (st.drop (mA k2)).length ≤ 4) (hrc : rcv σ op k2 (st.take (mA k2)).reverse = true)
    (hC : Ctr l D g C S k2 (st.take (mA k2)).reverse σ (Sum.inr j) τ) : VV p l e s m args below meth c D g C S k σ0 (vx_MQ below (QcK D g C S σ0 (Sum.inr j) τ) (XcK D g σ0 (Sum.inr j) τ) args s (C - zN σ0) (S - zS σ0) (Ar σ0)) pc lf st σ := by
  have hf := cR_ok _ _ _ hcR
  have hk2 : ¬ 1000 ≤ k2 := by omega
  have hlk : k2 < 172 := by omega
  have hlink : Cond.methodLink (ownS (mO k)) i (mY k2) ∈ gW := by
    rcases hf with q | q
    · rcases q.2 with q | q
      · exact q
      · exact absurd rfl (nM_no k2 hlk h81.1 h81.2 _ q.1)
    · exact absurd q.1 hk2
  obtain ⟨hcls, hpl, hmh, hpar, hin, hA1, hO17⟩ := mY_ok k2 hlk
  have hgn := gn_all k2 hlk
  have hini : Cond.initialized (mY k2).cls ∈ gW := by rw [hcls]; exact gi_all _ hO17 (mO_11 k2 hlk)
  intro H locs ls h1 h2 h3 h4 h5 h6 h7
  have hpre := pre_K X (as := (st.take (mA k2)).reverse) h3 h5 h6 h7
  have hsz := X.2.2.1.2.2.1
  have hle := h6.1
  have hls : ls.size = mL k := h1.1.trans h2
  have hroom : zN σ - zN σ0 + (C - zN σ) ≤ (rmK C S k σ0).cells ∧ zS σ - zS σ0 + (S - zS σ) ≤ (rmK C S k σ0).slots := ⟨by show _ ≤ C - zN σ0; omega, by show _ ≤ S - zS σ0; omega⟩
  have hS8 : 2 * (F0 m pc ls st).monitorRoom + ((st.drop (mA k2)).map fun v => v.category).sum ≤ 8 := by
    have := len_sum (st.drop (mA k2))
    show 2 * 0 + _ ≤ 8
    omega
  have hts := X.1.2.2.2.2
  have hM := hC
  unfold Ctr at hM
  have hAr := Ar_le h5 (fun q hq => Or.inr (by omega) : ∀ q, zN σ ≤ q → Ar σ0 q)
  generalize has : (st.take (mA k2)).reverse = as at *
  have hst := st_split has
  have hal := as_len has hA
  have hlocks := X.2.1.1
  have hout := X.2.1.2.2.2
  rcases hop with ⟨rfl, rfl⟩ | ⟨rfl, rfl⟩ | ⟨rfl, rfl⟩
  · obtain ⟨b, As, rfl, hms, hmi, hrb⟩ := rcv_0 hrc
    have hst2 : st = As.reverse ++ .ref b :: st.drop (mA k2) := hst.trans (by rw [List.reverse_cons, List.append_assoc]; rfl)
    rw [if_neg (by rw [hms]; decide)] at hgn
    have hsel := hgn.2.resolve_left (by rw [hmi]; decide)
    refine call_th (vx_runV (As := As) (b := b) X.1 hM (cwV (mA k2 - 1) hts (gIn (fun w hw => ?_)) rfl rfl rfl ⟨rfl, hmh.1, hmh.2, by rw [hpar, hms]; rfl⟩ (rm_ok hrm)) ⟨fb_K, rcv_at X hlk h5 h6 h7 hrb, hpre⟩ rfl (by simp at hal; omega) hls hst2 hS8 hd hroom) h6 hAr hAr hlocks hout hroom.1 hroom.2
    unfold wsV at hw
    rcases List.mem_append.mp hw with q | q
    · simp only [List.mem_cons, List.not_mem_nil, or_false] at q
      rcases q with rfl | rfl | rfl | rfl
      · exact hlink
      · exact hgn.1
      · exact hsel
      · exact hini
    · exact wsK_in hlk w q
  · obtain ⟨b, As, rfl, hms, hmi⟩ := rcv_1 hrc
    have : mI k2 = false := by
      rcases (show k2 = 81 ∨ k2 = 82 ∨ k2 = 83 ∨ k2 = 84 ∨ k2 = 85 ∨ k2 = 86 by omega) with rfl | rfl | rfl | rfl | rfl | rfl <;> rfl
    rw [this] at hmi
    cases hmi
  · have hms := rcv_2 hrc
    have hret : wsK k2 = Cond.code (mY k2) (mB k2) (mL k2) (mR k2) :: gW := rfl
    rw [if_pos hms] at hgn
    refine call_th (vx_runS (As := as) X.1 hM (va_cwS (mA k2) hts (gIn (fun w hw => ?_)) hret rfl rfl ⟨hmh.1, hmh.2, by rw [hpar, hms]; rfl⟩ (rm_ok hrm)) ⟨fb_K, hpre⟩ rfl hal hls hst hS8 hd hroom) h6 hAr hAr hlocks hout hroom.1 hroom.2
    unfold va_wsS at hw
    rcases List.mem_append.mp hw with q' | q'
    · simp only [List.mem_cons, List.not_mem_nil, or_false] at q'
      rcases q' with rfl | rfl | rfl
      · exact hlink
      · exact hgn
      · exact hini
    · exact wsK_in hlk w q'
end Cal2
end
section
section Spc
variable {p : Program} {l : Launch} {e : Env} {s : State} {m : MethodId} {args : Array Value} {below : List Frame} {meth : Method} {c : Code} {Q : State → Prop}
variable {D : va_G} {g : Nat → Nat} {C S k : Nat} {σ0 : PS}
theorem sp_link {i k2 : Nat} (h : cR (mO k) i = some k2) (hk : 1000 ≤ k2) : Cond.methodLink (ownS (mO k)) i (spN k2) ∈ gW := by
  rcases cR_ok _ _ _ h with q | q
  · have := q.1
    simp only at this
    omega
  · exact q.2.2
theorem v_oinit (X : Cx p l s m args meth c D g C S k σ0) {pc i a : Nat} {lf : LV} {r : List Value} {σ : PS} (hd : decode (mB k) pc = .ok (.invokespecial i, 3)) (hc : cR (mO k) i = some 1000) (hr : r.length ≤ 4) (hf : 1 ≤ mF k) (hw : 20 ≤ mW k)
    (h : VV p l e s m args below meth c D g C S k σ0 Q (pc + 3) lf r σ) : VV p l e s m args below meth c D g C S k σ0 Q pc lf (.ref a :: r) σ := by
  obtain ⟨⟨hx, hb, hml, hown, hts⟩, -, ⟨hE, hH, hsz, -⟩, -⟩ := X
  intro H locs ls h1 h2 h3 h4 h5 h6 h7
  have hs := len_sum r
  exact W.objInit hx hb hown (hts _ (sp_link hc (by decide))) (hts _ gs_oi) (hts _ gs_oc) rfl (by rw [hml]; exact h1.1.trans h2) rfl hd hf (by show 2 * 0 + _ + 12 ≤ mW k; omega) (h H locs ls h1 h2 h3 h4 h5 h6 h7)
theorem v_max (X : Cx p l s m args meth c D g C S k σ0) {pc i : Nat} {x y : Int32} {lf : LV} {r : List Value} {σ : PS} (hd : decode (mB k) pc = .ok (.invokestatic i, 3)) (hc : cR (mO k) i = some 1002) (hr : r.length ≤ 4) (hf : 1 ≤ mF k) (hw : 21 ≤ mW k)
    (h : VV p l e s m args below meth c D g C S k σ0 Q (pc + 3) lf (.int (if x < y then y else x) :: r) σ) : VV p l e s m args below meth c D g C S k σ0 Q pc lf (.int y :: .int x :: r) σ := by
  obtain ⟨⟨hx, hb, hml, hown, hts⟩, -, ⟨hE, hH, hsz, -⟩, -⟩ := X
  intro H locs ls h1 h2 h3 h4 h5 h6 h7
  have hs := len_sum r
  have hle := h6.1
  exact va_mmax hx hb (by rw [hml]; exact (h1.1.trans h2).symm) hown (hts _ (sp_link hc (by decide))) (hts _ gs_max.1) (hts _ gs_mi) (hts _ gs_max.2) hf (by show _ + 13 ≤ mW k; omega) (by show _ ≤ C - zN σ0; omega) (by show _ ≤ S - zS σ0; omega) hd (h H locs ls h1 h2 h3 h4 h5 h6 h7)
theorem v_min (X : Cx p l s m args meth c D g C S k σ0) {pc i : Nat} {x y : Int32} {lf : LV} {r : List Value} {σ : PS} (hd : decode (mB k) pc = .ok (.invokestatic i, 3)) (hc : cR (mO k) i = some 1003) (hr : r.length ≤ 4) (hf : 1 ≤ mF k) (hw : 21 ≤ mW k)
    (h : VV p l e s m args below meth c D g C S k σ0 Q (pc + 3) lf (.int (if y < x then y else x) :: r) σ) : VV p l e s m args below meth c D g C S k σ0 Q pc lf (.int y :: .int x :: r) σ := by
  obtain ⟨⟨hx, hb, hml, hown, hts⟩, -, ⟨hE, hH, hsz, -⟩, -⟩ := X
  intro H locs ls h1 h2 h3 h4 h5 h6 h7
  have hs := len_sum r
  have hle := h6.1
  exact va_mmin hx hb (by rw [hml]; exact (h1.1.trans h2).symm) hown (hts _ (sp_link hc (by decide))) (hts _ gs_min.1) (hts _ gs_mi) (hts _ gs_min.2) hf (by show _ + 13 ≤ mW k; omega) (by show _ ≤ C - zN σ0; omega) (by show _ ≤ S - zS σ0; omega) hd (h H locs ls h1 h2 h3 h4 h5 h6 h7)
theorem o_arr (hE : EnvT D g s) {H : Heap} {Ls : List Nat} {σ : PS} {a : Nat} (hL : ∀ a, a ∈ Ls ↔ live (zK σ a)) (hP : va_P D vwCl (va_pl Ls (cel g σ)) H) (hk : zK σ a = 104) : ∃ cell : Cell, H[a]? = some cell ∧ cell.vm.isStatics = false ∧ s.vm.findClass "[Ljava/lang/Object;" = some cell.cls := by
  obtain ⟨q0, he⟩ := pl_at hL (live_a (by omega)) (cel_104 (g := g) hk)
  have h1 : H[a]? = some (vp_cell (g 5) _) := hP q0 _ he
  obtain ⟨_, _, _, _, _, w4⟩ := (hE.1.2 3 _ rfl).2
  exact ⟨_, h1, rfl, w4⟩
theorem v_getC (X : Cx p l s m args meth c D g C S k σ0) {pc i a : Nat} {lf : LV} {r : List Value} {σ : PS} (hd : decode (mB k) pc = .ok (.invokevirtual i, 3)) (hc : cR (mO k) i = some 1004) (hr : r.length ≤ 4) (hf : 1 ≤ mF k) (hw : 22 ≤ mW k) (hk : zK σ a = 104)
    (h : VV p l e s m args below meth c D g C S k σ0 Q (pc + 3) lf (.ref (g 7) :: r) σ) : VV p l e s m args below meth c D g C S k σ0 Q pc lf (.ref a :: r) σ := by
  obtain ⟨⟨hx, hb, hml, hown, hts⟩, -, ⟨hE, hH, hsz, -⟩, -⟩ := X
  intro H locs ls h1 h2 h3 h4 h5 h6 h7
  have hs := len_sum r
  have kk := h H locs ls h1 h2 h3 h4 h5 h6 h7
  obtain ⟨Ls, hL, hP, hD⟩ := h5
  exact va_getC hx hb (by rw [hml]; exact (h1.1.trans h2).symm) hown (hts _ (sp_link hc (by decide))) hE.2.2.2.2.2.2.2.1.use (hts _ gs_gs) (hts _ gs_gi) (hts _ gs_gn) hE.2.2.2.2.2.2.1 (o_arr hE hL hP hk) hf (by show _ + 14 ≤ mW k; omega) hd kk
theorem v_copI (X : Cx p l s m args meth c D g C S k σ0) {pc i a b : Nat} {sp dp n : Int32} {lf : LV} {r : List Value} {σ : PS} (hd : decode (mB k) pc = .ok (.invokestatic i, 3)) (hc : cR (mO k) i = some 1001) (hr : r.length ≤ 4) (hf : 1 ≤ mF k) (hw : 60 ≤ mW k)
    (e1 : ¬ sp < 0) (e2 : ¬ dp < 0) (e3 : ¬ n < 0) (e4 : sp.toNatClampNeg + n.toNatClampNeg ≤ zL σ a) (e5 : dp.toNatClampNeg + n.toNatClampNeg ≤ zL σ b) (ka : zK σ a = 102) (kb : zK σ b = 102) (hn : ∀ i, i < n.toNatClampNeg → narrow .char (.int (zI σ a (sp.toNatClampNeg + i))) = .int (zI σ a (sp.toNatClampNeg + i)))
    (h : VV p l e s m args below meth c D g C S k σ0 Q (pc + 3) lf r (cpI σ a sp.toNatClampNeg b dp.toNatClampNeg n.toNatClampNeg)) : VV p l e s m args below meth c D g C S k σ0 Q pc lf (.int n :: .int dp :: .ref b :: .int sp :: .ref a :: r) σ := by
  have X0 := X
  obtain ⟨⟨hx, hb, hml, hown, hts⟩, -, ⟨hE, hH, hsz, -⟩, -⟩ := X
  intro H locs ls h1 h2 h3 h4 h5 h6 h7
  have hs := len_sum r
  obtain ⟨Ls, hL, hP, hD⟩ := h5
  have hlv : live (zK σ b) := live_a (by omega)
  obtain ⟨q0, ha⟩ := pl_at hL (live_a (by omega)) (cel_102 (g := g) ka)
  obtain ⟨q1, hq⟩ := pl_at (g := g) hL hlv rfl
  have he : (va_pl Ls (cel g σ))[q1]? = some (b, .inl (g 3, zL σ b, .inl (zI σ b))) := by rw [hq, cel_102 kb]
  refine va_copyi hx hb (by rw [hml]; exact (h1.1.trans h2).symm) hown (hts _ (sp_link hc (by decide))) (hts _ gs_an) (hts _ gs_as) (hts _ gs_ai) hE.1 hP hD (S_self h6) q0 q1 1 1 ha he rfl rfl (by rfl) e1 e2 e3 e4 e5 (fun i hi => ?_) hf ?_ hd (fun H1 locs1 hP1 hD1 hS1 => VV.put X0 h h1 h2 h3 h4 h6 (c_cpI h7 (by omega)) hL hD hlv hq rfl rfl rfl (cel_up ?_ o_cpI) hP1 hD1 hS1)
  · have hz := fits_narrow_char (zI σ a (sp.toNatClampNeg + i))
    rw [hn i hi] at hz
    exact hz
  · show _ + (nativeFrameWords "java/lang/System" "arraycopy" 5 + 11) ≤ mW k
    have : nativeFrameWords "java/lang/System" "arraycopy" 5 = 7 := by decide +kernel
    omega
  · have e : zI (cpI σ a sp.toNatClampNeg b dp.toNatClampNeg n.toNatClampNeg) b = va_cpy (zI σ a) (zI σ b) sp.toNatClampNeg dp.toNatClampNeg n.toNatClampNeg := by funext j; simp [zI, cpI]
    rw [cel_102 (show zK (cpI σ a sp.toNatClampNeg b dp.toNatClampNeg n.toNatClampNeg) b = 102 from kb), e]
    rfl
theorem v_copP (X : Cx p l s m args meth c D g C S k σ0) {pc i a b : Nat} {sp dp n : Int32} {lf : LV} {r : List Value} {σ : PS} (hd : decode (mB k) pc = .ok (.invokestatic i, 3)) (hc : cR (mO k) i = some 1001) (hr : r.length ≤ 4) (hf : 1 ≤ mF k) (hw : 60 ≤ mW k)
    (e1 : ¬ sp < 0) (e2 : ¬ dp < 0) (e3 : ¬ n < 0) (e4 : sp.toNatClampNeg + n.toNatClampNeg ≤ zL σ a) (e5 : dp.toNatClampNeg + n.toNatClampNeg ≤ zL σ b) (ka : zK σ a = 104) (kb : zK σ b = 104) (hn : ∀ i, i < n.toNatClampNeg → okP σ (zP σ a (sp.toNatClampNeg + i)) = true)
    (h : VV p l e s m args below meth c D g C S k σ0 Q (pc + 3) lf r (cpP σ a sp.toNatClampNeg b dp.toNatClampNeg n.toNatClampNeg)) : VV p l e s m args below meth c D g C S k σ0 Q pc lf (.int n :: .int dp :: .ref b :: .int sp :: .ref a :: r) σ := by
  have X0 := X
  obtain ⟨⟨hx, hb, hml, hown, hts⟩, -, ⟨hE, hH, hsz, -⟩, -⟩ := X
  intro H locs ls h1 h2 h3 h4 h5 h6 h7
  have hs := len_sum r
  obtain ⟨Ls, hL, hP, hD⟩ := h5
  have hlv : live (zK σ b) := live_a (by omega)
  obtain ⟨q0, ha⟩ := pl_at hL (live_a (by omega)) (cel_104 (g := g) ka)
  obtain ⟨q1, hq⟩ := pl_at (g := g) hL hlv rfl
  have he : (va_pl Ls (cel g σ))[q1]? = some (b, .inl (g 5, zL σ b, .inr (.inr (.inr (.inr (zP σ b)))))) := by rw [hq, cel_104 kb]
  refine va_copyM hx hb (by rw [hml]; exact (h1.1.trans h2).symm) hown (hts _ (sp_link hc (by decide))) (hts _ gs_an) (hts _ gs_as) (hts _ gs_ai) hE.1 hP hD (S_self h6) q0 q1 3 3 ha he rfl rfl e1 e2 e3 e4 e5 (fun i hi y hy => ?_) hf ?_ hd (fun H1 locs1 hP1 hD1 hS1 => VV.put X0 h h1 h2 h3 h4 h6 (c_cpP h7 (by omega)) hL hD hlv hq rfl rfl rfl (cel_up ?_ o_cpP) hP1 hD1 hS1)
  · have hz := hn i hi
    rw [hy] at hz
    obtain ⟨cI, hcI, hcy⟩ := okP_8 hz
    obtain ⟨qk, hv⟩ := pl_at hL (live_8 hcI hcy) (cel_obj (g := g) hcI hcy)
    obtain ⟨c1, -⟩ := cl_ok cI hcI
    refine va_rAny hE.1 hP hv c1 (fun comp c0 w1 w2 => ?_)
    obtain ⟨c3, c4, hc3, hc4, hasg⟩ := Cond.castable_spec (hE.2.2.2.1 cI hcI)
    cases Option.some.inj (hc3.symm.trans w2)
    cases Option.some.inj (hc4.symm.trans w1)
    exact hasg
  · show _ + (nativeFrameWords "java/lang/System" "arraycopy" 5 + 11) ≤ mW k
    have : nativeFrameWords "java/lang/System" "arraycopy" 5 = 7 := by decide +kernel
    omega
  · have e : zP (cpP σ a sp.toNatClampNeg b dp.toNatClampNeg n.toNatClampNeg) b = va_cpy (zP σ a) (zP σ b) sp.toNatClampNeg dp.toNatClampNeg n.toNatClampNeg := by funext j; simp [zP, cpP]
    rw [cel_104 (show zK (cpP σ a sp.toNatClampNeg b dp.toNatClampNeg n.toNatClampNeg) b = 104 from kb), e]
    rfl
theorem sR_ok : ∀ o i j, sR o i = some j → (o = 2 ∧ i = 106 ∧ j = 0) ∨ (o = 0 ∧ i = 39 ∧ j = 1) ∨ (o = 9 ∧ i = 38 ∧ j = 2) ∨ (o = 9 ∧ i = 1053 ∧ j = 3) := by
  intro o i j h
  unfold sR at h
  split at h <;> first | (cases h; simp; done) | (simp at h; done)
theorem v_gets (X : Cx p l s m args meth c D g C S k σ0) {pc i j : Nat} {v : Value} {lf : LV} {r : List Value} {σ : PS} (hd : decode (mB k) pc = .ok (.getstatic i, 3)) (hs : sR (mO k) i = some j) (hv : stO g j = some v)
    (h : VV p l e s m args below meth c D g C S k σ0 Q (pc + 3) lf (v :: r) σ) : VV p l e s m args below meth c D g C S k σ0 Q pc lf r σ := by
  obtain ⟨⟨hx, hb, hml, hown, hts⟩, -, ⟨hE, hH, hsz, -⟩, -⟩ := X
  intro H locs ls h1 h2 h3 h4 h5 h6 h7
  have kk := h H locs ls h1 h2 h3 h4 h5 h6 h7
  rcases sR_ok _ _ _ hs with ⟨eo, rfl, rfl⟩ | ⟨eo, rfl, rfl⟩ | ⟨eo, rfl, rfl⟩ | ⟨eo, rfl, rfl⟩
  · rw [eo] at hown
    cases hv
    exact va_getsN hx hb hH.1 h6 hown (hE.2.2.2.2.2.2.2.2.1.use rfl) (fun _ h9 => h9) hd kk
  · rw [eo] at hown
    cases hv
    exact va_gets hx hb hH.2.2.1 h6 hown (hts _ gs_st1) (fun _ h9 => h9) hd kk
  · rw [eo] at hown
    cases hv
    exact va_gets hx hb hH.2.2.2.2.1 h6 hown (hts _ gs_st2) (fun _ h9 => h9) hd kk
  · rw [eo] at hown
    cases hv
    exact va_gets hx hb hH.2.2.2.2.2.1 h6 hown (hts _ gs_st3) (fun _ h9 => h9) hd kk
theorem v_chk (X : Cx p l s m args meth c D g C S k σ0) {pc i cI a : Nat} {lf : LV} {r : List Value} {σ : PS} (hd : decode (mB k) pc = .ok (.checkcast i, 3)) (hk : kR (mO k) i = some cI) (hc : (cI ≤ 8 ∧ zK σ a = cI + 1) ∨ (cI = 204 ∧ zK σ a = 104))
    (h : VV p l e s m args below meth c D g C S k σ0 Q (pc + 3) lf (.ref a :: r) σ) : VV p l e s m args below meth c D g C S k σ0 Q pc lf (.ref a :: r) σ := by
  obtain ⟨⟨hx, hb, hml, hown, hts⟩, -, ⟨hE, hH, hsz, -⟩, -⟩ := X
  intro H locs ls h1 h2 h3 h4 h5 h6 h7
  have kk := h H locs ls h1 h2 h3 h4 h5 h6 h7
  obtain ⟨Ls, hL, hP, hD⟩ := h5
  have hlink := hts _ (kR_ok _ _ _ hk)
  rcases hc with ⟨hc, hz⟩ | ⟨rfl, hz⟩
  · obtain ⟨c1, -⟩ := cl_ok cI hc
    obtain ⟨q0, he⟩ := pl_at hL (live_8 hc hz) (cel_obj (g := g) hc hz)
    exact va_castS hx hb hown hlink (hE.1.1 cI _ c1).2 (va_recv hE.1 hP c1 he) hd kk
  · obtain ⟨q0, he⟩ := pl_at hL (live_a (by omega)) (cel_104 (g := g) hz)
    obtain ⟨_, _, _, _, _, w4⟩ := (hE.1.2 3 _ rfl).2
    exact va_castA hx hb hown hlink hP q0 he w4 hd kk
theorem v_ldcS (X : Cx p l s m args meth c D g C S k σ0) {pc i j : Nat} {lf : LV} {r : List Value} {σ : PS} (hd : decode (mB k) pc = .ok (.ldc i, 2)) (hk : lS (mO k) i = some j)
    (h : VV p l e s m args below meth c D g C S k σ0 Q (pc + 2) lf (.ref (g (100 + j)) :: r) σ) : VV p l e s m args below meth c D g C S k σ0 Q pc lf r σ := by
  obtain ⟨⟨hx, hb, hml, hown, hts⟩, -, ⟨hE, hH, hsz, -⟩, -⟩ := X
  intro H locs ls h1 h2 h3 h4 h5 h6 h7
  have kk := h H locs ls h1 h2 h3 h4 h5 h6 h7
  obtain ⟨tx, ht, -⟩ := lS_ok _ _ _ hk
  exact va_ldcS hx hb hown (hE.2.2.2.2.2.2.2.2.2.1 (ownS (mO k), i, tx, j) ht) hd kk
/-! ends -/
theorem v_ret (X : Cx p l s m args meth c D g C S k σ0) {pc : Nat} {x : Int32} {lf : LV} {σ : PS} (hd : decode (mB k) pc = .ok (.ireturn, 1)) (hn : nOK (mR k) x = true) :
    VV p l e s m args below meth c D g C S k σ0 (vx_MQ below (QcK D g C S σ0 (Sum.inl (some (.int x))) σ) (XcK D g σ0 (Sum.inl (some (.int x))) σ) args s (C - zN σ0) (S - zS σ0) (Ar σ0)) pc lf [.int x] σ := by
  obtain ⟨⟨hx, hb, hml, hown, hts⟩, ⟨hlocks, hret, -, -⟩, ⟨hE, hH, hsz, -⟩, -⟩ := X
  intro H locs ls h1 h2 h3 h4 h5 h6 h7
  have hle := h6.1
  refine W_look fun z1 z2 => ?_
  refine vx_ret ?_
  refine W.widen (k := C - zN σ0) (n := S - zS σ0) (by omega) (by omega) ?_
  have hty : ∃ ty, mR k = some ty ∧ narrow ty (.int x) = .int x := by
    cases hr : mR k with
    | none => rw [hr] at hn; cases hn
    | some ty =>
      refine ⟨ty, rfl, ?_⟩
      rw [hr] at hn
      cases ty <;> simp [nOK] at hn <;> first | rfl | exact hn | (rcases hn with rfl | rfl <;> rfl)
  obtain ⟨ty, ht, hnr⟩ := hty
  exact W.zret hx hb (hret.trans ht) hnr (fun t ht hW => ⟨⟨_, rfl, rfl, by rw [ht]; exact h3, by rw [ht]; omega, by rw [ht]; exact h5, h7, h4.1, h4.2.1, h4.2.2⟩, h6.F ht⟩) h6.2.2 hd
theorem v_aret (X : Cx p l s m args meth c D g C S k σ0) {pc : Nat} {q : Option Nat} {lf : LV} {σ : PS} (hd : decode (mB k) pc = .ok (.areturn, 1)) (hn : aOK (mR k) = true) :
    VV p l e s m args below meth c D g C S k σ0 (vx_MQ below (QcK D g C S σ0 (Sum.inl (some (va_rf q))) σ) (XcK D g σ0 (Sum.inl (some (va_rf q))) σ) args s (C - zN σ0) (S - zS σ0) (Ar σ0)) pc lf [va_rf q] σ := by
  obtain ⟨⟨hx, hb, hml, hown, hts⟩, ⟨hlocks, hret, -, -⟩, ⟨hE, hH, hsz, -⟩, -⟩ := X
  intro H locs ls h1 h2 h3 h4 h5 h6 h7
  have hle := h6.1
  refine W_look fun z1 z2 => ?_
  refine vx_ret ?_
  refine W.widen (k := C - zN σ0) (n := S - zS σ0) (by omega) (by omega) ?_
  have hty : ∃ ty, mR k = some ty ∧ ((∃ n, ty = .object n) ∨ ∃ t, ty = .array t) := by
    cases hr : mR k with
    | none => rw [hr] at hn; cases hn
    | some ty =>
      refine ⟨ty, rfl, ?_⟩
      rw [hr] at hn
      cases ty <;> simp [aOK] at hn <;> simp
  obtain ⟨ty, ht, hrt⟩ := hty
  exact W.aret hx hb (hret.trans ht) hrt (by cases q <;> simp [va_rf]) (fun t ht hW => ⟨⟨_, rfl, rfl, by rw [ht]; exact h3, by rw [ht]; omega, by rw [ht]; exact h5, h7, h4.1, h4.2.1, h4.2.2⟩, h6.F ht⟩) h6.2.2 hd
theorem v_vret (X : Cx p l s m args meth c D g C S k σ0) {pc : Nat} {lf : LV} {σ : PS} (hd : decode (mB k) pc = .ok (.return_, 1)) (hn : mR k = none) :
    VV p l e s m args below meth c D g C S k σ0 (vx_MQ below (QcK D g C S σ0 (Sum.inl none) σ) (XcK D g σ0 (Sum.inl none) σ) args s (C - zN σ0) (S - zS σ0) (Ar σ0)) pc lf [] σ := by
  obtain ⟨⟨hx, hb, hml, hown, hts⟩, ⟨hlocks, hret, -, -⟩, ⟨hE, hH, hsz, -⟩, -⟩ := X
  intro H locs ls h1 h2 h3 h4 h5 h6 h7
  have hle := h6.1
  refine W_look fun z1 z2 => ?_
  refine vx_ret ?_
  refine W.widen (k := C - zN σ0) (n := S - zS σ0) (by omega) (by omega) ?_
  exact W.vret hx hb (hret.trans hn) (fun t ht hW => ⟨⟨_, rfl, rfl, by rw [ht]; exact h3, by rw [ht]; omega, by rw [ht]; exact h5, h7, h4.1, h4.2.1, h4.2.2⟩, h6.F ht⟩) h6.2.2 hd
end Spc
end
section
/-! a thrown exception whose own constructor is linked by another place than the others' -/
def nsB : ByteArray := ⟨#[0x2a, 0x2b, 0xb7, 0x00, 0x0d, 0xb1]⟩
def nsX : String := "java/util/NoSuchElementException"
def nsL (own : String) (ic : Nat) : List Cond :=
  [.methodLink own ic (Bundle.initS nsX), .instantiable nsX 6, .castable nsX nsX, .selects nsX Bundle.tFill0 Bundle.tFill0, .selects nsX Bundle.tFill Bundle.tFill,
   .lays nsX Bundle.tN "cause" "Ljava/lang/Throwable;", .lays nsX Bundle.tN "stackTrace" Bundle.steD, .lays nsX Bundle.tN "suppressedExceptions" Bundle.listD, .lays nsX Bundle.tN "detailMessage" "Ljava/lang/String;",
   .isRef (.static Bundle.tN "UNASSIGNED_STACK" Bundle.steD), .isRef (.static Bundle.tN "SUPPRESSED_SENTINEL" Bundle.listD),
   .fieldLink Bundle.tN 198 Bundle.tN "backtrace" "Ljava/lang/Object;", .lays Bundle.tN Bundle.tN "backtrace" "Ljava/lang/Object;", .lays nsX Bundle.tN "backtrace" "Ljava/lang/Object;"]
def nsP : List Cond := Bundle.passSAtoms nsX "java/lang/RuntimeException" 13 nsB
def nsC : List Cond := Bundle.chainSAtoms "java/lang/RuntimeException" ["java/lang/Exception"]
def nsA (own : String) (ic : Nat) : List Cond := (Bundle.throwableAtoms ++ Bundle.throwableSAtoms) ++ (nsP ++ (nsC ++ nsL own ic))
section Ns
variable {p : Program} {l : Launch} {e : Env} {R : Room} {s : State} {m₀ : MethodId} {args : Array Value} {below : List Frame} {meth : Method} {c : Code} {W : State} {locs : List Loc} {cells slots : Nat}
set_option maxHeartbeats 4000000 in
theorem ns_ctor (X : Stand p l e R s m₀ args below meth c W locs cells slots) (hexec : p.tables.exec = Jvm.exec) (htr : e.platform.stackTraces = false) {own : String} {ic : Nat}
    (hown : s.vm.findClass own = some m₀.cls) (h : ∀ a ∈ nsA own ic, a.before args s = true)
    (hlocs : ∀ x ∈ locs, ∀ cell, s.heap[x.base]? = some cell → cell.vm.isStatics = false)
    {a : Addr} {cX : ClassId} {kX : Class} (hfoundX : s.vm.findClass nsX = some cX) (hkX : s.vm.classes[cX]? = some kX) (hcell : W.heap[a]? = some (freshCell cX kX)) (hnew : s.heap.size ≤ a)
    {msg : Value} (hmsg : msg.isRef = true)
    {g : JFrame} (hg : g.method = m₀) (hsize : g.locals.size = c.maxLocals) (hlocked : g.locked = none) (hentered : g.entered = []) {rest : List Value} (hstack : g.stack = msg :: .ref a :: .ref a :: rest)
    (hd6 : decode c.code g.pc = .ok (.invokespecial ic, 3)) (hd9 : decode c.code (g.pc + 3) = .ok (.athrow, 1)) (hout : ∀ x ∈ c.exceptionTable.toList, covers x (g.pc + 3) = false)
    (hRframes : 5 < R.frames) (hRlocals : 2 * g.monitorRoom + ((Value.ref a :: rest).map fun v => v.category).sum + (13 * 3 + 42) ≤ R.locals) (hlocks : meth.locks = false) :
    ∃ U : State, Steps p.tables e below (W.setTop g) U ∧ U.status = .running ∧ Ended U below (.threw a) ∧ s.WarmedH U.vm ∧ s.sameButNew ({ U with vm := s.vm } : State) locs cells slots ∧
      ∃ ce, U.heap[a]? = some ce ∧ ce.vm = .none ∧ s.vm.findClass nsX = some ce.cls := by
  have howns : e.platform.frameOwnsMonitors = true := by rw [X.admits.platform]
  have hfin : e.platform.finalization = false := by rw [X.admits.platform]
  have hpl : e.platform.magicAccessors = ({} : Platform).magicAccessors := by rw [X.admits.platform]
  have hL : ∀ x, x ∈ nsL own ic → x.before args s = true := fun x hx => h x (List.mem_append_right _ (List.mem_append_right _ (List.mem_append_right _ hx)))
  have a' : ∀ x, x ∈ nsL own ic → x.holds args s none s [] = true := hL
  have hPs : ∀ x ∈ nsP, x.before args s = true := fun x hx => h x (List.mem_append_right _ (List.mem_append_left _ hx))
  obtain ⟨T, Z0, L, -, Y⟩ := ThrowableC.of_atoms (args := args) howns hfin hpl (fun x hx => h x (List.mem_append_left _ (List.mem_append_left _ hx)))
  obtain ⟨Z, M, LZ, LM, hnZ⟩ := Init0T.ofS_atoms (args := args) hpl L Y (fun x hx => h x (List.mem_append_left _ (List.mem_append_right _ hx)))
  obtain ⟨P1, Ps, hlen, L1, hLs, hP1m, hlink1, hlink⟩ := Bundle.chainS (args := args) hpl hnZ ["java/lang/Exception"] "java/lang/RuntimeException" (by decide +kernel) (by decide +kernel) (fun x hx => h x (List.mem_append_right _ (List.mem_append_right _ (List.mem_append_left _ hx))))
  obtain ⟨P0, L0, hP0m, hP0s⟩ := PassC.ofS_atoms (args := args) hpl (X := nsX) (Y := "java/lang/RuntimeException") (index := 13) (bytes := nsB) (by decide +kernel) (by decide +kernel) (by decide +kernel) (by decide +kernel) (by decide +kernel) (by decide +kernel) hPs
  have hP01 : P0.sup = P1.m := Option.some.inj (hP0s.symm.trans hP1m)
  have hfound : s.vm.findClass nsX = some P0.m.cls := findClass_of_methodNamed hP0m
  cases Option.some.inj (hfoundX.symm.trans hfound)
  obtain ⟨c1, kX', hc1, hk, hord, -, -, hn6⟩ := Cond.instantiable_spec (a' (.instantiable nsX 6) (by simp [nsL]))
  cases Option.some.inj (hc1.symm.trans hfound)
  cases Option.some.inj (hkX.symm.trans hk)
  have hsel0 : selectMethod e.platform s.vm P0.m.cls T.fill0 = .method T.fill0 := by
    obtain ⟨c2, r2, m2, q1, q2, q3, q4, -⟩ := Cond.selects_spec (a' (.selects nsX Bundle.tFill0 Bundle.tFill0) (by simp [nsL]))
    cases Option.some.inj (q1.symm.trans hfound)
    cases Option.some.inj (q2.symm.trans (State.methodFound?_of_named Y.fill0 (by decide)))
    cases Option.some.inj (q3.symm.trans Y.fill0)
    rw [Launch.admits_selectMethod X.admits]; exact q4
  have hselF : selectMethod e.platform s.vm P0.m.cls T.fill = .method T.fill := by
    obtain ⟨c2, r2, m2, q1, q2, q3, q4, -⟩ := Cond.selects_spec (a' (.selects nsX Bundle.tFill Bundle.tFill) (by simp [nsL]))
    cases Option.some.inj (q1.symm.trans hfound)
    cases Option.some.inj (q2.symm.trans (State.methodFound?_of_named Y.fill (by decide)))
    cases Option.some.inj (q3.symm.trans Y.fill)
    rw [Launch.admits_selectMethod X.admits]; exact q4
  obtain ⟨cellS0, hcS0, hiss⟩ := Y.statics
  obtain ⟨u0, hu0⟩ := Cond.staticRefV Y.unassigned L.unassignedStatic L.statics hcS0 hiss (a' (.isRef (.static Bundle.tN "UNASSIGNED_STACK" Bundle.steD)) (by simp [nsL]))
  obtain ⟨sen, hsen⟩ := Cond.staticRefV Y.sentinel L.sentinelStatic L.statics hcS0 hiss (a' (.isRef (.static Bundle.tN "SUPPRESSED_SENTINEL" Bundle.listD)) (by simp [nsL]))
  obtain ⟨ci198, i198, fBk, hk198, hg198, ha198, hsB, -, hnB, htB, hffB⟩ := Cond.ownField (t := .object "java/lang/Object") Y.found L.cls (by decide +kernel) (a' (.fieldLink Bundle.tN 198 Bundle.tN "backtrace" "Ljava/lang/Object;") (by simp [nsL])) (a' (.lays Bundle.tN Bundle.tN "backtrace" "Ljava/lang/Object;") (by simp [nsL])) e.platform hpl
  obtain ⟨cellS, hcS', heS, -, hkeep⟩ := X.same.2.2.2.2.2 T.aS cellS0 hcS0
  have hcellS : W.heap[T.aS]? = some cellS := hcS'
  have hout' : ∀ i, (⟨T.aS, i⟩ : Loc) ∉ locs := fun i hmem => by
    have := hlocs _ hmem cellS0 hcS0
    rw [hiss] at this; cases this
  have hknownS : cellS.vm ≠ .unknown := by
    rw [heS]; intro hu
    rw [show cellS0.vm = .unknown from hu] at hiss
    cases hiss
  have hneS : T.aS ≠ a := Nat.ne_of_lt (Nat.lt_of_lt_of_le (Array.getElem?_eq_some_iff.mp hcS0).1 hnew)
  obtain ⟨iM, hffM⟩ := Y.msg
  obtain ⟨tyC, dC, hdC, hdnC⟩ := Cond.laysAt hfound hk Y.cause (a' (.lays nsX Bundle.tN "cause" "Ljava/lang/Throwable;") (by simp [nsL]))
  obtain ⟨tyS, dS, hdS, hdnS⟩ := Cond.laysAt hfound hk Y.stack (a' (.lays nsX Bundle.tN "stackTrace" Bundle.steD) (by simp [nsL]))
  obtain ⟨tyP, dP, hdP, hdnP⟩ := Cond.laysAt hfound hk Y.supp (a' (.lays nsX Bundle.tN "suppressedExceptions" Bundle.listD) (by simp [nsL]))
  obtain ⟨tyM, dM, hdM, hdnM⟩ := Cond.laysAt hfound hk hffM (a' (.lays nsX Bundle.tN "detailMessage" "Ljava/lang/String;") (by simp [nsL]))
  obtain ⟨tyB, dB, hdB, hdnB⟩ := Cond.laysAt hfound hk hffB (a' (.lays nsX Bundle.tN "backtrace" "Ljava/lang/Object;") (by simp [nsL]))
  have bC := Cond.laysApart hdB hdC hdnB hdnC (by rw [hnB, Y.causeName]; decide)
  have bS := Cond.laysApart hdB hdS hdnB hdnS (by rw [hnB, Y.stackName]; decide)
  have bP := Cond.laysApart hdB hdP hdnB hdnP (by rw [hnB, Y.suppName]; decide)
  have hskip : SkipFacts T e.platform s (fun u => u) u0 ((preparedCellV T.toThrowableT (freshCell P0.m.cls kX) a u0 sen).withEntry W.cur) :=
    ⟨{ ci198 := ci198, i198 := i198, fBack := fBk }, ⟨hk198, hg198, ha198, hsB⟩, by
      have := fresh_default (c := P0.m.cls) tyB
      rw [htB] at this
      simpa [preparedCellV, Cell.setSlot, Cell.withEntry, Array.getElem?_setIfInBounds, bC, bS, bP, bC.symm, bS.symm, bP.symm, defaultValue] using this, fun _ _ => rfl⟩
  obtain ⟨tm, methC, cdC, kC, vm₁, hnC, -, -, -, -, -, -, -, hW₁, st1⟩ := Steps.initColdS (tb := p.tables) (e := e) (below := below) (s := s) (U := W) X.here hexec X.warmed hpl hown (t := Bundle.initS nsX) rfl rfl (by decide +kernel)
    (a' (.methodLink own ic (Bundle.initS nsX)) (by simp [nsL])) (hPs (.instanceMethod (Bundle.initS nsX)) (by simp [nsP, Bundle.passSAtoms])) (bytes := nsB) (maxL := 2) (hPs (.code (Bundle.initS nsX) nsB 2 none) (by simp [nsP, Bundle.passSAtoms]))
    (f := g) hg (a := a) (msg := msg) (rest := .ref a :: rest) hstack hd6
  cases Option.some.inj (hnC.symm.trans hP0m)
  have X₁ := X.noted hW₁
  obtain ⟨vm₂, X₂, st2⟩ := X₁.ctorMessageOffV hexec (g := { g with stack := .ref a :: rest }) hg hsize T L Z LZ M LM (P0 :: P1 :: Ps)
    (fun P hP => by
      rcases List.mem_cons.mp hP with rfl | hP
      · exact L0
      · rcases List.mem_cons.mp hP with rfl | hP
        · exact L1
        · exact hLs P hP) ⟨hP01, hlink1, hlink⟩ (u0 := u0) (sen := sen) (self := a) hmsg (cell := freshCell P0.m.cls kX) (cellS := cellS)
    hcell (fun _ => by simp) (by simp) rfl rfl hsel0 hselF hcellS hneS hknownS (by rw [hkeep _ (hout' _)]; exact hu0) (by rw [hkeep _ (hout' _)]; exact hsen)
    (Takes.of_laid hk hord tyC (by rw [Y.causeType]; rfl)) (Takes.of_laid hk hord tyS (by rw [Y.stackType]; exact fits_refV_array _ u0)) (Takes.of_laid hk hord tyP (by rw [Y.suppType]; exact fits_refV_object _ sen))
    (Takes.of_laid hk hord tyM (by rw [Y.msgType]; exact fits_refV_object _ ⟨msg, hmsg⟩)) Y.objLocals hskip htr [] hd6
    (by simp only [List.length_cons, hlen, List.length_nil]; omega) (by simp only [List.length_cons, hlen, List.length_nil]; exact hRlocals)
  obtain ⟨hwalk, hrun, hended, hWU, hsame⟩ := X₂.athrowLeaves hexec (g := { g with stack := .ref a :: rest, pc := g.pc + 3 }) hg hlocked hentered hout (a := a) (rest := rest) rfl hd9
  have hlt : a < ((W.setVm vm₁).setVm vm₂).heap.size := (Array.getElem?_eq_some_iff.mp hcell).1
  have hU := heapAt_setCell_self (s := (W.setVm vm₁).setVm vm₂) (plainBareV T.toThrowableT (freshCell P0.m.cls kX) a u0 sen msg) hlt
  refine ⟨_, st1 _ (fun acts => ?_), hrun, hended, hWU, hsame.weaken (fun y hy hlt' => ?_) (Nat.le_refl _) (Nat.le_refl _), _, hU, rfl, hfound⟩
  · rw [doInvoke_state]
    exact st2 _ hwalk
  · rcases List.mem_append.mp hy with h1 | h1
    · exact h1
    · exfalso
      have hb : y.base = a := by
        simp only [List.mem_cons, List.not_mem_nil, or_false] at h1
        rcases h1 with rfl | rfl | rfl | rfl | rfl <;> rfl
      rw [hb] at hlt'
      exact Nat.not_lt.mpr hnew hlt'
end Ns
end
section
abbrev rtN : List String := ["java/lang/RuntimeException", "java/lang/Exception"]
def dWs : List Cond := dD.map Cond.declares ++ dC.map (fun q => Cond.castable q.1 q.2)
theorem gx_0 : Cond.classLink RX6 199 (exN 0) ∈ gW ∧ Cond.initialized (exN 0) ∈ gW := ⟨gWm (w := Cond.classLink RX6 199 (exN 0)) 841 (by decide +kernel) (by decide +kernel), gWm (w := Cond.initialized (exN 0)) 85 (by decide +kernel) (by decide +kernel)⟩
set_option maxRecDepth 20000 in
theorem gy_0 : ((nsA RX6 203).filter vx_no).all (fun w => vx_ot w && ((decide (w ∈ lw_tbl) && goodWord w) || decide (w ∈ dWs))) = true := by decide +kernel
theorem gz_0 : vx_ot (Cond.classLink RX6 199 (exN 0)) = true ∧ vx_ot (Cond.initialized (exN 0)) = true := by decide +kernel
theorem gx_1 : Cond.classLink RX6 81 (exN 1) ∈ gW ∧ Cond.initialized (exN 1) ∈ gW := ⟨gWm (w := Cond.classLink RX6 81 (exN 1)) 893 (by decide +kernel) (by decide +kernel), gWm (w := Cond.initialized (exN 1)) 89 (by decide +kernel) (by decide +kernel)⟩
set_option maxRecDepth 20000 in
theorem gy_1 : (vx_atS RX6 85 (exN 1) rtN).all (fun w => vx_ot w && ((decide (w ∈ lw_tbl) && goodWord w) || decide (w ∈ dWs))) = true := by decide +kernel
theorem gz_1 : vx_ot (Cond.classLink RX6 81 (exN 1)) = true ∧ vx_ot (Cond.initialized (exN 1)) = true := by decide +kernel
theorem gx_2 : Cond.classLink RX6 100 (exN 2) ∈ gW ∧ Cond.initialized (exN 2) ∈ gW := ⟨gWm (w := Cond.classLink RX6 100 (exN 2)) 866 (by decide +kernel) (by decide +kernel), gWm (w := Cond.initialized (exN 2)) 88 (by decide +kernel) (by decide +kernel)⟩
set_option maxRecDepth 20000 in
theorem gy_2 : (vx_atS RX6 104 (exN 2) rtN).all (fun w => vx_ot w && ((decide (w ∈ lw_tbl) && goodWord w) || decide (w ∈ dWs))) = true := by decide +kernel
theorem gz_2 : vx_ot (Cond.classLink RX6 100 (exN 2)) = true ∧ vx_ot (Cond.initialized (exN 2)) = true := by decide +kernel
theorem gx_3 : Cond.classLink RX6 54 (exN 3) ∈ gW ∧ Cond.initialized (exN 3) ∈ gW := ⟨gWm (w := Cond.classLink RX6 54 (exN 3)) 728 (by decide +kernel) (by decide +kernel), gWm (w := Cond.initialized (exN 3)) 79 (by decide +kernel) (by decide +kernel)⟩
set_option maxRecDepth 20000 in
theorem gy_3 : (vx_atS RX6 58 (exN 3) rtN).all (fun w => vx_ot w && ((decide (w ∈ lw_tbl) && goodWord w) || decide (w ∈ dWs))) = true := by decide +kernel
theorem gz_3 : vx_ot (Cond.classLink RX6 54 (exN 3)) = true ∧ vx_ot (Cond.initialized (exN 3)) = true := by decide +kernel
section Thr
variable {p : Program} {l : Launch} {e : Env} {R : Room} {s : State} {m : MethodId} {args : Array Value} {below : List Frame} {meth : Method} {c : Code} {H : Heap} {locs : List Loc} {cells slots : Nat} {ls : Array Slot} {rest : List Value} {free : Addr → Prop}
variable {Qc : Array Value → State → Outcome → State → Prop} {XC : String → State → State → Prop}
/-- 'throw new NoSuchElementException("text")' -/
theorem ns_throw {cc : ByteArray} {pc : Nat} (hexec : p.tables.exec = Jvm.exec) (hb : c.code = cc) (hl : l.stackTraces = false) {own text : String} {ik is ic mc ms sa : Nat} {A : Nat → Prop}
    (hown : s.vm.findClass own = some m.cls)
    (hk : (Cond.classLink own ik nsX).before args s = true) (hini : (Cond.initialized nsX).before args s = true) (hstr : vk_R own is text sa s) (hat : ∀ w ∈ (nsA own ic).filter vx_no, w.before args s = true)
    (hgood : ∀ w ∈ Cond.classLink own ik nsX :: Cond.initialized nsX :: (nsA own ic).filter vx_no, vx_ot w = true)
    (hU : vx_Zq Bundle.tN "UNASSIGNED_STACK" Bundle.steD A s s.heap) (hN : vx_Zq Bundle.tN "SUPPRESSED_SENTINEL" Bundle.listD A s s.heap) (hS : va_S A s.heap H locs) (hsize : ls.size = c.maxLocals)
    (d0 : decode cc pc = .ok (.new ik, 3)) (d3 : decode cc (pc + 3) = .ok (.dup, 1)) (d4 : decode cc (pc + 4) = .ok (.ldc is, 2)) (d6 : decode cc (pc + 6) = .ok (.invokespecial ic, 3)) (d9 : decode cc (pc + 9) = .ok (.athrow, 1))
    (hout : ∀ x ∈ c.exceptionTable.toList, covers x (pc + 9) = false)
    (hRframes : 5 < R.frames) (hRlocals : (rest.map fun v => v.category).sum + 82 ≤ R.locals) (hRcells : cells + 1 ≤ R.cells) (hRslots : slots + 6 ≤ R.slots) (hlocks : meth.locks = false)
    (hx : ∀ t : State, s.vm.Alike t.vm → H.size ≤ t.heap.size → (∀ q : Nat, q < H.size → t.heap[q]? = H[q]?) → XC nsX s t)
    (hf : ∀ z ∈ locs, free z.base) (hc : cells + 1 ≤ mc) (hs : slots + 6 ≤ ms) :
    W p l e R s m args below meth c H locs cells slots (vx_MQ below Qc XC args s mc ms free) (F0 m pc ls rest) := by
  intro T hT X
  have htr : e.platform.stackTraces = false := (show e.platform.stackTraces = l.stackTraces by rw [X.admits.platform]).trans hl
  have Y := vx_rebase X (R' := { frames := R.frames, locals := R.locals, cells := 1, slots := 6 }) (Nat.le_refl _) (Nat.le_refl _) hRcells hRslots
  obtain ⟨s', hA⟩ : ∃ z, z = (T.setVm s.vm).setFrames (.invoking m args :: below) := ⟨_, rfl⟩
  rw [← hA] at Y
  have hvm : s'.vm = s.vm := by rw [hA]; rfl
  have hhp : s'.heap = H := by rw [hA]; exact hT
  have hW0 : s.WarmedH s'.vm := by rw [hvm]; exact State.WarmedH.refl s
  have hat' : ∀ w ∈ (nsA own ic).filter vx_no, w.before args s' = true := fun w hw => vx_ot_at hW0 hvm.symm (hgood w (List.mem_cons_of_mem _ (List.mem_cons_of_mem _ hw))) (hat w hw)
  have hk' : (Cond.classLink own ik nsX).before args s' = true := vx_ot_at hW0 hvm.symm (hgood _ List.mem_cons_self) hk
  have hini' : (Cond.initialized nsX).before args s' = true := vx_ot_at hW0 hvm.symm (hgood _ (List.mem_cons_of_mem _ List.mem_cons_self)) hini
  have hU' : vx_Zq Bundle.tN "UNASSIGNED_STACK" Bundle.steD A s' s'.heap := by rw [hhp]; exact vx_Zq.moved hW0.alike (hU.kept hS.2.1)
  have hN' : vx_Zq Bundle.tN "SUPPRESSED_SENTINEL" Bundle.listD A s' s'.heap := by rw [hhp]; exact vx_Zq.moved hW0.alike (hN.kept hS.2.1)
  have h : ∀ w ∈ nsA own ic, w.before args s' = true := vx_own hat' (vx_isRefq hU'.1) (vx_isRefq hN'.1) hU'.2.word hN'.2.word
  have hown' : s'.vm.findClass own = some m.cls := by rw [hvm]; exact hown
  have hins : (Cond.instantiable nsX 6).before args s' = true := h _ (List.mem_append_right _ (List.mem_append_right _ (List.mem_append_right _ (by simp [nsL]))))
  obtain ⟨vm₁, cX, kX, hfX, hkX, -, -, X₁, st1⟩ := Y.newCold hexec (own := own) (C := nsX) (index := ik) (n := 6) hown' hk' hins hini'
    (g := F0 m pc ls rest) rfl (by rw [hb]; exact d0) (Nat.le_refl _) (Nat.le_refl _)
  generalize hT1 : (T.setVm vm₁).pushCell { cls := cX, slots := kX.instanceTypes.map defaultValue, vm := .none } = T1 at X₁ st1
  have hcat : (Value.ref T.heap.size).category = 1 := rfl
  have hcellA : T1.heap[T.heap.size]? = some (freshCell cX kX) := by rw [← hT1]; exact State.heap_pushCell_size _ _
  have d3' : decode c.code (pc + 3) = .ok (.dup, 1) := by rw [hb]; exact d3
  have d4' : decode c.code (pc + 4) = .ok (.ldc is, 2) := by rw [hb]; exact d4
  have hstr' : vk_R own is text sa s' := vk_R.warm hW0 hstr
  obtain ⟨U, hsteps, hrun, hend, hW, hsame, ce, hce, hov, hocl⟩ := ns_ctor X₁ hexec htr (own := own) (ic := ic) hown' h (fun x hx => nomatch hx) hfX hkX hcellA (by rw [hhp, hT]; exact Nat.le_refl _) (msg := .ref sa) rfl
    (g := { method := m, pc := pc + 6, locals := ls, stack := .ref sa :: .ref T.heap.size :: .ref T.heap.size :: rest, locked := none }) rfl hsize rfl rfl (rest := rest) rfl
    (by rw [hb]; exact d6) (by rw [hb]; exact d9) hout hRframes (by simp only [List.map_cons, List.sum_cons, hcat]; show 2 * 0 + _ + _ ≤ R.locals; omega) hlocks
  obtain ⟨f1, f2⟩ := vx_frame hsame
  rw [hhp] at f1 f2
  have hWs : s.WarmedH U.vm := State.WarmedH.trans hW0 hW
  have hcl : s.vm.findClass nsX = some ce.cls := by
    rw [hvm] at hocl
    exact hocl
  have hall : s.sameButNew ({ U with vm := s.vm } : State) locs mc ms := by
    subst hA
    obtain ⟨e1, e2⟩ := hsame
    rw [State.setFrames_setFrames] at e1
    have h2 : (T.setVm s.vm).sameButNew ({ U with vm := s.vm } : State) [] (0 + 1) (0 + 6) := ⟨e1, e2⟩
    have h3 := X.same.trans h2
    rw [List.append_nil] at h3
    exact h3.mono hc hs
  refine ⟨U, ?_, .threw T.heap.size, hrun, hend, Or.inr ⟨T.heap.size, rfl, nsX, ce, locs, hx U hWs.alike f1 (fun q hq => f2 q hq (fun z hz => nomatch hz)), hce, hov, hcl, hWs, hall, hf⟩⟩
  refine st1 _ ?_
  show Steps p.tables e below (T1.setTop { method := m, pc := pc + 3, locals := ls, stack := .ref T.heap.size :: rest, locked := none }) _
  jvm_step X₁.here [X₁.here.top, hexec, d3', Value.category]
  exact X₁.ldcString hexec (own := own) (text := text) (index := is) (a := sa) hown' hstr'.1 hstr'.2
    (g := { method := m, pc := pc + 4, locals := ls, stack := .ref T.heap.size :: .ref T.heap.size :: rest, locked := none }) rfl d4' _ hsteps
end Thr
section Thr2
variable {p : Program} {l : Launch} {e : Env} {s : State} {m : MethodId} {args : Array Value} {below : List Frame} {meth : Method} {c : Code}
variable {D : va_G} {g : Nat → Nat} {C S k : Nat} {σ0 : PS}
theorem hat_of (hts : ∀ w ∈ gW, w.before args s = true) (hE : EnvT D g s) {ws : List Cond} (h : ws.all (fun w => vx_ot w && ((decide (w ∈ lw_tbl) && goodWord w) || decide (w ∈ dWs))) = true) : ∀ w ∈ ws, w.before args s = true ∧ vx_ot w = true := by
  intro w hw
  have h1 := List.all_eq_true.mp h w hw
  simp only [Bool.and_eq_true, Bool.or_eq_true, decide_eq_true_eq] at h1
  refine ⟨?_, h1.1⟩
  rcases h1.2 with q | q
  · exact hts w (List.mem_filter.mpr q)
  · unfold dWs at q
    rcases List.mem_append.mp q with q | q
    · obtain ⟨y, hy, rfl⟩ := List.mem_map.mp q
      exact (hE.2.2.2.2.2.2.2.2.2.2.2.1 y hy).use rfl
    · obtain ⟨y, hy, rfl⟩ := List.mem_map.mp q
      exact (hE.2.2.2.2.2.2.2.2.2.2.2.2 y hy).use rfl
theorem Pl.grown {A : Nat → Prop} {σ : PS} {H H1 : Heap} (h : Pl D g A σ H) (o : ∀ q : Nat, q < H.size → H1[q]? = H[q]?) : Pl D g A σ H1 := by
  obtain ⟨Ls, hL, hP, hD⟩ := h
  exact ⟨Ls, hL, hP.kept (fun k x hx => o x.1 ((hP k x hx).lt)), hD⟩
theorem v_thr (X : Cx p l s m args meth c D g C S k σ0) {pc ik is ic j : Nat} {text : String} {lf : LV} {st : List Value} {σ : PS} (hO : mO k = 7) (hid : exN j = exN j) (hft : Bundle.fit (exN j) = true) (hk : Cond.classLink RX6 ik (exN j) ∈ gW) (hini : Cond.initialized (exN j) ∈ gW) (ht : (is, text) ∈ tT)
    (hat : (vx_atS RX6 ic (exN j) rtN).all (fun w => vx_ot w && ((decide (w ∈ lw_tbl) && goodWord w) || decide (w ∈ dWs))) = true) (hz : vx_ot (Cond.classLink RX6 ik (exN j)) = true ∧ vx_ot (Cond.initialized (exN j)) = true)
    (d0 : decode (mB k) pc = .ok (.new ik, 3)) (d3 : decode (mB k) (pc + 3) = .ok (.dup, 1)) (d4 : decode (mB k) (pc + 4) = .ok (.ldc is, 2)) (d6 : decode (mB k) (pc + 6) = .ok (.invokespecial ic, 3)) (d9 : decode (mB k) (pc + 9) = .ok (.athrow, 1))
    (hl : st.length ≤ 4) (hF : 6 ≤ mF k) (hW : 90 ≤ mW k) (hN : zN σ + 1 ≤ C) (hS : zS σ + 6 ≤ S) :
    VV p l e s m args below meth c D g C S k σ0 (vx_MQ below (QcK D g C S σ0 (Sum.inr j) σ) (XcK D g σ0 (Sum.inr j) σ) args s (C - zN σ0) (S - zS σ0) (Ar σ0)) pc lf st σ := by
  obtain ⟨⟨hx, hb, hml, hown, hts⟩, ⟨hlocks, hret, -, hout⟩, ⟨hE, hH, hsz, -⟩, hst, -⟩ := X
  intro H locs ls h1 h2 h3 h4 h5 h6 h7
  have hle := h6.1
  have hs := len_sum st
  rw [hO] at hown
  obtain ⟨sa, hsa⟩ := hE.2.2.2.2.2.2.2.2.2.2.1 (is, text) ht
  have ha := hat_of hts hE hat
  refine vx_throwS (A := Ar σ0) (names := rtN) hx hb hst hown hft (by decide +kernel) (hts _ hk) (hts _ hini) hsa (fun w hw => (ha w hw).1) (fun w hw => ?_) hH.2.2.2.2.2.2.2.1 hH.2.2.2.2.2.2.2.2 h6 (by rw [hml]; exact h1.1.trans h2) d0 d3 d4 d6 d9 (fun x hx => absurd hx (fun q => hout x q)) (by show 2 + 3 < mF k; omega) (by show _ + (13 * 3 + 43) ≤ mW k; omega) (by show _ ≤ C - zN σ0; omega) (by show _ ≤ S - zS σ0; omega) hlocks (fun t _ hts1 ho => ?_) h6.2.2 (by omega) (by omega)
  · rcases List.mem_cons.mp hw with rfl | hw
    · exact hz.1
    · rcases List.mem_cons.mp hw with rfl | hw
      · exact hz.2
      · exact (ha w hw).2
  · refine ⟨j, rfl, rfl, by omega, h5.grown ho, h7, by omega, fun q g1 g2 => ?_⟩
    rw [ho q (by omega)]
    exact h6.2.1 q g1 g2
theorem v_thrN (X : Cx p l s m args meth c D g C S k σ0) {pc ik is ic : Nat} {text : String} {lf : LV} {st : List Value} {σ : PS} (hO : mO k = 7) (hid : exN 0 = exN 0) (hk : Cond.classLink RX6 ik (exN 0) ∈ gW) (hini : Cond.initialized (exN 0) ∈ gW) (ht : (is, text) ∈ tT)
    (hat : ((nsA RX6 ic).filter vx_no).all (fun w => vx_ot w && ((decide (w ∈ lw_tbl) && goodWord w) || decide (w ∈ dWs))) = true) (hz : vx_ot (Cond.classLink RX6 ik (exN 0)) = true ∧ vx_ot (Cond.initialized (exN 0)) = true)
    (d0 : decode (mB k) pc = .ok (.new ik, 3)) (d3 : decode (mB k) (pc + 3) = .ok (.dup, 1)) (d4 : decode (mB k) (pc + 4) = .ok (.ldc is, 2)) (d6 : decode (mB k) (pc + 6) = .ok (.invokespecial ic, 3)) (d9 : decode (mB k) (pc + 9) = .ok (.athrow, 1))
    (hl : st.length ≤ 4) (hF : 6 ≤ mF k) (hW : 90 ≤ mW k) (hN : zN σ + 1 ≤ C) (hS : zS σ + 6 ≤ S) :
    VV p l e s m args below meth c D g C S k σ0 (vx_MQ below (QcK D g C S σ0 (Sum.inr 0) σ) (XcK D g σ0 (Sum.inr 0) σ) args s (C - zN σ0) (S - zS σ0) (Ar σ0)) pc lf st σ := by
  obtain ⟨⟨hx, hb, hml, hown, hts⟩, ⟨hlocks, hret, -, hout⟩, ⟨hE, hH, hsz, -⟩, hst, -⟩ := X
  intro H locs ls h1 h2 h3 h4 h5 h6 h7
  have hle := h6.1
  have hs := len_sum st
  rw [hO] at hown
  obtain ⟨sa, hsa⟩ := hE.2.2.2.2.2.2.2.2.2.2.1 (is, text) ht
  have ha := hat_of hts hE hat
  refine ns_throw (A := Ar σ0) hx hb hst hown (hts _ hk) (hts _ hini) hsa (fun w hw => (ha w hw).1) (fun w hw => ?_) hH.2.2.2.2.2.2.2.1 hH.2.2.2.2.2.2.2.2 h6 (by rw [hml]; exact h1.1.trans h2) d0 d3 d4 d6 d9 (fun x hx => absurd hx (fun q => hout x q)) (by show 5 < mF k; omega) (by show _ + 82 ≤ mW k; omega) (by show _ ≤ C - zN σ0; omega) (by show _ ≤ S - zS σ0; omega) hlocks (fun t _ hts1 ho => ?_) h6.2.2 (by omega) (by omega)
  · rcases List.mem_cons.mp hw with rfl | hw
    · exact hz.1
    · rcases List.mem_cons.mp hw with rfl | hw
      · exact hz.2
      · exact (ha w hw).2
  · refine ⟨0, rfl, rfl, by omega, h5.grown ho, h7, by omega, fun q g1 g2 => ?_⟩
    rw [ho q (by omega)]
    exact h6.2.1 q g1 g2
theorem v_site (X : Cx p l s m args meth c D g C S k σ0) {pc j : Nat} {lf : LV} {st : List Value} {σ : PS} (h : tR k pc = some j) (hl : st.length ≤ 4) (hF : 6 ≤ mF k) (hW : 90 ≤ mW k) (hN : zN σ + 1 ≤ C) (hS : zS σ + 6 ≤ S) :
    VV p l e s m args below meth c D g C S k σ0 (vx_MQ below (QcK D g C S σ0 (Sum.inr j) σ) (XcK D g σ0 (Sum.inr j) σ) args s (C - zN σ0) (S - zS σ0) (Ar σ0)) pc lf st σ := by
  unfold tR at h
  split at h
  · cases h; exact v_thr X (j := 3) (ic := 58) rfl rfl (by decide) gx_3.1 gx_3.2 (show (56, "there are 24 entries") ∈ tT by decide +kernel) gy_3 gz_3 dX6_entry_14 dX6_entry_17 dX6_entry_18 dX6_entry_20 dX6_entry_23 hl hF hW hN hS
  · cases h; exact v_thr X (j := 1) (ic := 85) rfl rfl (by decide) gx_1.1 gx_1.2 (show (83, "there is no such field") ∈ tT by decide +kernel) gy_1 gz_1 dX6_field_17 dX6_field_20 dX6_field_21 dX6_field_23 dX6_field_26 hl hF hW hN hS
  · cases h; exact v_thr X (j := 3) (ic := 58) rfl rfl (by decide) gx_3.1 gx_3.2 (show (90, "there are 60 citations") ∈ tT by decide +kernel) gy_3 gz_3 dX6_cite_18 dX6_cite_21 dX6_cite_22 dX6_cite_24 dX6_cite_27 hl hF hW hN hS
  · cases h; exact v_thr X (j := 2) (ic := 104) rfl rfl (by decide) gx_2.1 gx_2.2 (show (102, "a sort and a label are 0 to 2") ∈ tT by decide +kernel) gy_2 gz_2 dX6_style_18 dX6_style_21 dX6_style_22 dX6_style_24 dX6_style_27 hl hF hW hN hS
  · cases h; exact v_thr X (j := 1) (ic := 85) rfl rfl (by decide) gx_1.1 gx_1.2 (show (162, "there is no such person") ∈ tT by decide +kernel) gy_1 gz_1 dX6_initials_31 dX6_initials_34 dX6_initials_35 dX6_initials_37 dX6_initials_40 hl hF hW hN hS
  · cases h; exact v_thr X (j := 1) (ic := 85) rfl rfl (by decide) gx_1.1 gx_1.2 (show (179, "nothing such is missing") ∈ tT by decide +kernel) gy_1 gz_1 dX6_missing_37 dX6_missing_40 dX6_missing_41 dX6_missing_43 dX6_missing_46 hl hF hW hN hS
  · cases h; exact v_thr X (j := 1) (ic := 85) rfl rfl (by decide) gx_1.1 gx_1.2 (show (197, "there are not so many entries twice") ∈ tT by decide +kernel) gy_1 gz_1 dX6_twice_60 dX6_twice_63 dX6_twice_64 dX6_twice_66 dX6_twice_69 hl hF hW hN hS
  · cases h; exact v_thrN X (ic := 203) rfl rfl gx_0.1 gx_0.2 (show (201, "there is no such entry") ∈ tT by decide +kernel) gy_0 gz_0 dX6_entryNumbered_15 dX6_entryNumbered_18 dX6_entryNumbered_19 dX6_entryNumbered_21 dX6_entryNumbered_24 hl hF hW hN hS
  · cases h; exact v_thr X (j := 1) (ic := 85) rfl rfl (by decide) gx_1.1 gx_1.2 (show (204, "there is no such row") ∈ tT by decide +kernel) gy_1 gz_1 dX6_rowAt_15 dX6_rowAt_18 dX6_rowAt_19 dX6_rowAt_21 dX6_rowAt_24 hl hF hW hN hS
  · cases h; exact v_thr X (j := 1) (ic := 85) rfl rfl (by decide) gx_1.1 gx_1.2 (show (218, "no run was") ∈ tT by decide +kernel) gy_1 gz_1 dX6_printHead_10 dX6_printHead_13 dX6_printHead_14 dX6_printHead_16 dX6_printHead_19 hl hF hW hN hS
  · cases h; exact v_thr X (j := 1) (ic := 85) rfl rfl (by decide) gx_1.1 gx_1.2 (show (231, "there is no such character") ∈ tT by decide +kernel) gy_1 gz_1 dX6_signOf_12 dX6_signOf_15 dX6_signOf_16 dX6_signOf_18 dX6_signOf_21 hl hF hW hN hS
  · cases h; exact v_thr X (j := 2) (ic := 104) rfl rfl (by decide) gx_2.1 gx_2.2 (show (245, "a byte is no character") ∈ tT by decide +kernel) gy_2 gz_2 dX6_addBytes_32 dX6_addBytes_35 dX6_addBytes_36 dX6_addBytes_38 dX6_addBytes_41 hl hF hW hN hS
  · cases h; exact v_thr X (j := 3) (ic := 58) rfl rfl (by decide) gx_3.1 gx_3.2 (show (247, "there is no place for so many characters") ∈ tT by decide +kernel) gy_3 gz_3 dX6_addBytes_61 dX6_addBytes_64 dX6_addBytes_65 dX6_addBytes_67 dX6_addBytes_70 hl hF hW hN hS
  · cases h
end Thr2
end
