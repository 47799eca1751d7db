-- ===== PART A: goes FIRST, ahead of the names: the tables' words, and 'selects' of the private methods out of them =====
/-- a private method of a class that the tables say can be made, by its rows of tables_1 -/
def lw_okq (q : MethodName × Nat) : Prop := (q.1.cls ≠ "java/lang/invoke/MethodHandle" ∧ q.1.cls ≠ "java/lang/invoke/VarHandle") ∧ Cond.instantiable q.1.cls q.2 ∈ tables_1 ∧ Cond.privateMethod q.1 ∈ tables_1 ∧ Cond.instanceMethod q.1 ∈ tables_1
theorem lw_p0 : lw_okq (⟨"LightSheets", "rowOf", "(I)LLightSheets$Row;"⟩, 7) := ⟨⟨by decide +kernel, by decide +kernel⟩, List.mem_of_getElem? (i := 17) (by decide +kernel), List.mem_of_getElem? (i := 198) (by decide +kernel), List.mem_of_getElem? (i := 199) (by decide +kernel)⟩
theorem lw_p1 : lw_okq (⟨"LightSheets", "found", "(I)I"⟩, 7) := ⟨⟨by decide +kernel, by decide +kernel⟩, List.mem_of_getElem? (i := 17) (by decide +kernel), List.mem_of_getElem? (i := 203) (by decide +kernel), List.mem_of_getElem? (i := 204) (by decide +kernel)⟩
theorem lw_p2 : lw_okq (⟨"LightSheets", "unfound", "(I)I"⟩, 7) := ⟨⟨by decide +kernel, by decide +kernel⟩, List.mem_of_getElem? (i := 17) (by decide +kernel), List.mem_of_getElem? (i := 212) (by decide +kernel), List.mem_of_getElem? (i := 213) (by decide +kernel)⟩
theorem lw_p3 : lw_okq (⟨"LightSheets$PageReader", "readsLaw", "()Z"⟩, 5) := ⟨⟨by decide +kernel, by decide +kernel⟩, List.mem_of_getElem? (i := 29) (by decide +kernel), List.mem_of_getElem? (i := 299) (by decide +kernel), List.mem_of_getElem? (i := 300) (by decide +kernel)⟩
theorem lw_p4 : lw_okq (⟨"LightSheets$PageReader", "takesWord", "(Ljava/lang/String;)Z"⟩, 5) := ⟨⟨by decide +kernel, by decide +kernel⟩, List.mem_of_getElem? (i := 29) (by decide +kernel), List.mem_of_getElem? (i := 304) (by decide +kernel), List.mem_of_getElem? (i := 305) (by decide +kernel)⟩
theorem lw_p5 : lw_okq (⟨"LightSheets$PageReader", "fails", "(I)Z"⟩, 5) := ⟨⟨by decide +kernel, by decide +kernel⟩, List.mem_of_getElem? (i := 29) (by decide +kernel), List.mem_of_getElem? (i := 360) (by decide +kernel), List.mem_of_getElem? (i := 361) (by decide +kernel)⟩
theorem lw_p6 : lw_okq (⟨"LightSheets$PageReader", "takesNumber", "(I)Z"⟩, 5) := ⟨⟨by decide +kernel, by decide +kernel⟩, List.mem_of_getElem? (i := 29) (by decide +kernel), List.mem_of_getElem? (i := 365) (by decide +kernel), List.mem_of_getElem? (i := 366) (by decide +kernel)⟩
theorem lw_p7 : lw_okq (⟨"LightSheets$PageReader", "takesSign", "(I)Z"⟩, 5) := ⟨⟨by decide +kernel, by decide +kernel⟩, List.mem_of_getElem? (i := 29) (by decide +kernel), List.mem_of_getElem? (i := 373) (by decide +kernel), List.mem_of_getElem? (i := 374) (by decide +kernel)⟩
theorem lw_p8 : lw_okq (⟨"LightSheets$PageReader", "readsLetters", "()Z"⟩, 5) := ⟨⟨by decide +kernel, by decide +kernel⟩, List.mem_of_getElem? (i := 29) (by decide +kernel), List.mem_of_getElem? (i := 377) (by decide +kernel), List.mem_of_getElem? (i := 378) (by decide +kernel)⟩
theorem lw_p9 : lw_okq (⟨"LightSheets$PageReader", "readsLetter", "()Z"⟩, 5) := ⟨⟨by decide +kernel, by decide +kernel⟩, List.mem_of_getElem? (i := 29) (by decide +kernel), List.mem_of_getElem? (i := 382) (by decide +kernel), List.mem_of_getElem? (i := 383) (by decide +kernel)⟩
theorem lw_p10 : lw_okq (⟨"LightSheets$PageReader", "sortTold", "()I"⟩, 5) := ⟨⟨by decide +kernel, by decide +kernel⟩, List.mem_of_getElem? (i := 29) (by decide +kernel), List.mem_of_getElem? (i := 386) (by decide +kernel), List.mem_of_getElem? (i := 387) (by decide +kernel)⟩
theorem lw_p11 : lw_okq (⟨"LightSheets$PageReader", "readsSheet", "()Z"⟩, 5) := ⟨⟨by decide +kernel, by decide +kernel⟩, List.mem_of_getElem? (i := 29) (by decide +kernel), List.mem_of_getElem? (i := 406) (by decide +kernel), List.mem_of_getElem? (i := 407) (by decide +kernel)⟩
theorem lw_p12 : lw_okq (⟨"LightSheets$PageReader", "readsFront", "()Z"⟩, 5) := ⟨⟨by decide +kernel, by decide +kernel⟩, List.mem_of_getElem? (i := 29) (by decide +kernel), List.mem_of_getElem? (i := 411) (by decide +kernel), List.mem_of_getElem? (i := 412) (by decide +kernel)⟩
theorem lw_p13 : lw_okq (⟨"LightSheets$PageReader", "readsBack", "()Z"⟩, 5) := ⟨⟨by decide +kernel, by decide +kernel⟩, List.mem_of_getElem? (i := 29) (by decide +kernel), List.mem_of_getElem? (i := 419) (by decide +kernel), List.mem_of_getElem? (i := 420) (by decide +kernel)⟩
theorem lw_p14 : lw_okq (⟨"LightSheets$PageReader", "readsEnd", "()Z"⟩, 5) := ⟨⟨by decide +kernel, by decide +kernel⟩, List.mem_of_getElem? (i := 29) (by decide +kernel), List.mem_of_getElem? (i := 427) (by decide +kernel), List.mem_of_getElem? (i := 428) (by decide +kernel)⟩
theorem lw_p15 : lw_okq (⟨"LightSheets$Page", "shownOf", "(II)I"⟩, 8) := ⟨⟨by decide +kernel, by decide +kernel⟩, List.mem_of_getElem? (i := 61) (by decide +kernel), List.mem_of_getElem? (i := 544) (by decide +kernel), List.mem_of_getElem? (i := 545) (by decide +kernel)⟩
def lw_privs_1 : List (MethodName × Nat) := [(⟨"LightSheets", "rowOf", "(I)LLightSheets$Row;"⟩, 7), (⟨"LightSheets", "found", "(I)I"⟩, 7), (⟨"LightSheets", "unfound", "(I)I"⟩, 7), (⟨"LightSheets$PageReader", "readsLaw", "()Z"⟩, 5), (⟨"LightSheets$PageReader", "takesWord", "(Ljava/lang/String;)Z"⟩, 5), (⟨"LightSheets$PageReader", "fails", "(I)Z"⟩, 5), (⟨"LightSheets$PageReader", "takesNumber", "(I)Z"⟩, 5), (⟨"LightSheets$PageReader", "takesSign", "(I)Z"⟩, 5), (⟨"LightSheets$PageReader", "readsLetters", "()Z"⟩, 5), (⟨"LightSheets$PageReader", "readsLetter", "()Z"⟩, 5), (⟨"LightSheets$PageReader", "sortTold", "()I"⟩, 5), (⟨"LightSheets$PageReader", "readsSheet", "()Z"⟩, 5), (⟨"LightSheets$PageReader", "readsFront", "()Z"⟩, 5), (⟨"LightSheets$PageReader", "readsBack", "()Z"⟩, 5), (⟨"LightSheets$PageReader", "readsEnd", "()Z"⟩, 5), (⟨"LightSheets$Page", "shownOf", "(II)I"⟩, 8)]
theorem lw_r1 : ∀ q ∈ lw_privs_1, lw_okq q := List.forall_mem_cons.mpr ⟨lw_p0, List.forall_mem_cons.mpr ⟨lw_p1, List.forall_mem_cons.mpr ⟨lw_p2, List.forall_mem_cons.mpr ⟨lw_p3, List.forall_mem_cons.mpr ⟨lw_p4, List.forall_mem_cons.mpr ⟨lw_p5, List.forall_mem_cons.mpr ⟨lw_p6, List.forall_mem_cons.mpr ⟨lw_p7, List.forall_mem_cons.mpr ⟨lw_p8, List.forall_mem_cons.mpr ⟨lw_p9, List.forall_mem_cons.mpr ⟨lw_p10, List.forall_mem_cons.mpr ⟨lw_p11, List.forall_mem_cons.mpr ⟨lw_p12, List.forall_mem_cons.mpr ⟨lw_p13, List.forall_mem_cons.mpr ⟨lw_p14, List.forall_mem_cons.mpr ⟨lw_p15, fun _ h => absurd h List.not_mem_nil⟩⟩⟩⟩⟩⟩⟩⟩⟩⟩⟩⟩⟩⟩⟩⟩
theorem lw_p16 : lw_okq (⟨"LightSheets", "answerOfReading", "(II)I"⟩, 7) := ⟨⟨by decide +kernel, by decide +kernel⟩, List.mem_of_getElem? (i := 17) (by decide +kernel), List.mem_of_getElem? (i := 548) (by decide +kernel), List.mem_of_getElem? (i := 549) (by decide +kernel)⟩
theorem lw_p17 : lw_okq (⟨"LightSheets$Page", "offOf", "(II)I"⟩, 8) := ⟨⟨by decide +kernel, by decide +kernel⟩, List.mem_of_getElem? (i := 61) (by decide +kernel), List.mem_of_getElem? (i := 556) (by decide +kernel), List.mem_of_getElem? (i := 557) (by decide +kernel)⟩
theorem lw_p18 : lw_okq (⟨"LightSheets", "cellsOrReading", "(II)I"⟩, 7) := ⟨⟨by decide +kernel, by decide +kernel⟩, List.mem_of_getElem? (i := 17) (by decide +kernel), List.mem_of_getElem? (i := 589) (by decide +kernel), List.mem_of_getElem? (i := 590) (by decide +kernel)⟩
theorem lw_p19 : lw_okq (⟨"LightSheets", "refusalOfLetters", "(LLightSheets$Row;)I"⟩, 7) := ⟨⟨by decide +kernel, by decide +kernel⟩, List.mem_of_getElem? (i := 17) (by decide +kernel), List.mem_of_getElem? (i := 604) (by decide +kernel), List.mem_of_getElem? (i := 605) (by decide +kernel)⟩
theorem lw_p20 : lw_okq (⟨"LightSheets$Page", "readOf", "(II)I"⟩, 8) := ⟨⟨by decide +kernel, by decide +kernel⟩, List.mem_of_getElem? (i := 61) (by decide +kernel), List.mem_of_getElem? (i := 623) (by decide +kernel), List.mem_of_getElem? (i := 624) (by decide +kernel)⟩
theorem lw_p21 : lw_okq (⟨"LightSheets", "imageOf", "(I)LLightSheets$Page;"⟩, 7) := ⟨⟨by decide +kernel, by decide +kernel⟩, List.mem_of_getElem? (i := 17) (by decide +kernel), List.mem_of_getElem? (i := 680) (by decide +kernel), List.mem_of_getElem? (i := 681) (by decide +kernel)⟩
theorem lw_p22 : lw_okq (⟨"LightSheets$Asks", "sizeOfMark", "(LLightSheets$Page;I)I"⟩, 2) := ⟨⟨by decide +kernel, by decide +kernel⟩, List.mem_of_getElem? (i := 141) (by decide +kernel), List.mem_of_getElem? (i := 710) (by decide +kernel), List.mem_of_getElem? (i := 711) (by decide +kernel)⟩
theorem lw_p23 : lw_okq (⟨"LightSheets$Asks", "begin", "(I)V"⟩, 2) := ⟨⟨by decide +kernel, by decide +kernel⟩, List.mem_of_getElem? (i := 141) (by decide +kernel), List.mem_of_getElem? (i := 714) (by decide +kernel), List.mem_of_getElem? (i := 715) (by decide +kernel)⟩
theorem lw_p24 : lw_okq (⟨"LightSheets$Asks", "sizeOfAny", "(LLightSheets$Page;I)I"⟩, 2) := ⟨⟨by decide +kernel, by decide +kernel⟩, List.mem_of_getElem? (i := 141) (by decide +kernel), List.mem_of_getElem? (i := 719) (by decide +kernel), List.mem_of_getElem? (i := 720) (by decide +kernel)⟩
theorem lw_p25 : lw_okq (⟨"LightSheets$Asks", "sizeOfPlain", "(LLightSheets$Page;I)I"⟩, 2) := ⟨⟨by decide +kernel, by decide +kernel⟩, List.mem_of_getElem? (i := 141) (by decide +kernel), List.mem_of_getElem? (i := 725) (by decide +kernel), List.mem_of_getElem? (i := 726) (by decide +kernel)⟩
theorem lw_p26 : lw_okq (⟨"LightSheets$Asks", "markOfPlain", "(LLightSheets$Page;I)I"⟩, 2) := ⟨⟨by decide +kernel, by decide +kernel⟩, List.mem_of_getElem? (i := 141) (by decide +kernel), List.mem_of_getElem? (i := 729) (by decide +kernel), List.mem_of_getElem? (i := 730) (by decide +kernel)⟩
theorem lw_p27 : lw_okq (⟨"LightSheets$Asks", "markOfAny", "(I)I"⟩, 2) := ⟨⟨by decide +kernel, by decide +kernel⟩, List.mem_of_getElem? (i := 141) (by decide +kernel), List.mem_of_getElem? (i := 733) (by decide +kernel), List.mem_of_getElem? (i := 734) (by decide +kernel)⟩
theorem lw_p28 : lw_okq (⟨"LightSheets$Asks", "markOfMark", "(LLightSheets$Page;I)I"⟩, 2) := ⟨⟨by decide +kernel, by decide +kernel⟩, List.mem_of_getElem? (i := 141) (by decide +kernel), List.mem_of_getElem? (i := 737) (by decide +kernel), List.mem_of_getElem? (i := 738) (by decide +kernel)⟩
theorem lw_p29 : lw_okq (⟨"LightSheets", "rowsThere", "()I"⟩, 7) := ⟨⟨by decide +kernel, by decide +kernel⟩, List.mem_of_getElem? (i := 17) (by decide +kernel), List.mem_of_getElem? (i := 755) (by decide +kernel), List.mem_of_getElem? (i := 756) (by decide +kernel)⟩
theorem lw_p30 : lw_okq (⟨"LightSheetsModel", "finding", "(I)I"⟩, 25) := ⟨⟨by decide +kernel, by decide +kernel⟩, List.mem_of_getElem? (i := 768) (by decide +kernel), List.mem_of_getElem? (i := 864) (by decide +kernel), List.mem_of_getElem? (i := 865) (by decide +kernel)⟩
theorem lw_p31 : lw_okq (⟨"LightSheetsModel", "begin", "()V"⟩, 25) := ⟨⟨by decide +kernel, by decide +kernel⟩, List.mem_of_getElem? (i := 768) (by decide +kernel), List.mem_of_getElem? (i := 892) (by decide +kernel), List.mem_of_getElem? (i := 893) (by decide +kernel)⟩
def lw_privs_2 : List (MethodName × Nat) := [(⟨"LightSheets", "answerOfReading", "(II)I"⟩, 7), (⟨"LightSheets$Page", "offOf", "(II)I"⟩, 8), (⟨"LightSheets", "cellsOrReading", "(II)I"⟩, 7), (⟨"LightSheets", "refusalOfLetters", "(LLightSheets$Row;)I"⟩, 7), (⟨"LightSheets$Page", "readOf", "(II)I"⟩, 8), (⟨"LightSheets", "imageOf", "(I)LLightSheets$Page;"⟩, 7), (⟨"LightSheets$Asks", "sizeOfMark", "(LLightSheets$Page;I)I"⟩, 2), (⟨"LightSheets$Asks", "begin", "(I)V"⟩, 2), (⟨"LightSheets$Asks", "sizeOfAny", "(LLightSheets$Page;I)I"⟩, 2), (⟨"LightSheets$Asks", "sizeOfPlain", "(LLightSheets$Page;I)I"⟩, 2), (⟨"LightSheets$Asks", "markOfPlain", "(LLightSheets$Page;I)I"⟩, 2), (⟨"LightSheets$Asks", "markOfAny", "(I)I"⟩, 2), (⟨"LightSheets$Asks", "markOfMark", "(LLightSheets$Page;I)I"⟩, 2), (⟨"LightSheets", "rowsThere", "()I"⟩, 7), (⟨"LightSheetsModel", "finding", "(I)I"⟩, 25), (⟨"LightSheetsModel", "begin", "()V"⟩, 25)]
theorem lw_r2 : ∀ q ∈ lw_privs_2, lw_okq q := List.forall_mem_cons.mpr ⟨lw_p16, List.forall_mem_cons.mpr ⟨lw_p17, List.forall_mem_cons.mpr ⟨lw_p18, List.forall_mem_cons.mpr ⟨lw_p19, List.forall_mem_cons.mpr ⟨lw_p20, List.forall_mem_cons.mpr ⟨lw_p21, List.forall_mem_cons.mpr ⟨lw_p22, List.forall_mem_cons.mpr ⟨lw_p23, List.forall_mem_cons.mpr ⟨lw_p24, List.forall_mem_cons.mpr ⟨lw_p25, List.forall_mem_cons.mpr ⟨lw_p26, List.forall_mem_cons.mpr ⟨lw_p27, List.forall_mem_cons.mpr ⟨lw_p28, List.forall_mem_cons.mpr ⟨lw_p29, List.forall_mem_cons.mpr ⟨lw_p30, List.forall_mem_cons.mpr ⟨lw_p31, fun _ h => absurd h List.not_mem_nil⟩⟩⟩⟩⟩⟩⟩⟩⟩⟩⟩⟩⟩⟩⟩⟩
theorem lw_p32 : lw_okq (⟨"LightSheetsModel", "next", "()V"⟩, 25) := ⟨⟨by decide +kernel, by decide +kernel⟩, List.mem_of_getElem? (i := 768) (by decide +kernel), List.mem_of_getElem? (i := 896) (by decide +kernel), List.mem_of_getElem? (i := 897) (by decide +kernel)⟩
theorem lw_p33 : lw_okq (⟨"LightSheetsModel", "byteAt", "(I)I"⟩, 25) := ⟨⟨by decide +kernel, by decide +kernel⟩, List.mem_of_getElem? (i := 768) (by decide +kernel), List.mem_of_getElem? (i := 900) (by decide +kernel), List.mem_of_getElem? (i := 901) (by decide +kernel)⟩
theorem lw_p34 : lw_okq (⟨"LightSheetsModel", "name", "()J"⟩, 25) := ⟨⟨by decide +kernel, by decide +kernel⟩, List.mem_of_getElem? (i := 768) (by decide +kernel), List.mem_of_getElem? (i := 911) (by decide +kernel), List.mem_of_getElem? (i := 912) (by decide +kernel)⟩
theorem lw_p35 : lw_okq (⟨"LightSheetsModel", "must", "(Z)V"⟩, 25) := ⟨⟨by decide +kernel, by decide +kernel⟩, List.mem_of_getElem? (i := 768) (by decide +kernel), List.mem_of_getElem? (i := 916) (by decide +kernel), List.mem_of_getElem? (i := 917) (by decide +kernel)⟩
theorem lw_p36 : lw_okq (⟨"LightSheetsModel", "bad", "(I)V"⟩, 25) := ⟨⟨by decide +kernel, by decide +kernel⟩, List.mem_of_getElem? (i := 768) (by decide +kernel), List.mem_of_getElem? (i := 920) (by decide +kernel), List.mem_of_getElem? (i := 921) (by decide +kernel)⟩
theorem lw_p37 : lw_okq (⟨"LightSheetsModel", "number", "(II)I"⟩, 25) := ⟨⟨by decide +kernel, by decide +kernel⟩, List.mem_of_getElem? (i := 768) (by decide +kernel), List.mem_of_getElem? (i := 924) (by decide +kernel), List.mem_of_getElem? (i := 925) (by decide +kernel)⟩
theorem lw_p38 : lw_okq (⟨"LightSheetsModel", "figures", "()I"⟩, 25) := ⟨⟨by decide +kernel, by decide +kernel⟩, List.mem_of_getElem? (i := 768) (by decide +kernel), List.mem_of_getElem? (i := 928) (by decide +kernel), List.mem_of_getElem? (i := 929) (by decide +kernel)⟩
theorem lw_p39 : lw_okq (⟨"LightSheetsModel", "mustEnd", "()V"⟩, 25) := ⟨⟨by decide +kernel, by decide +kernel⟩, List.mem_of_getElem? (i := 768) (by decide +kernel), List.mem_of_getElem? (i := 932) (by decide +kernel), List.mem_of_getElem? (i := 933) (by decide +kernel)⟩
theorem lw_p40 : lw_okq (⟨"LightSheetsModel", "readLetter", "()V"⟩, 25) := ⟨⟨by decide +kernel, by decide +kernel⟩, List.mem_of_getElem? (i := 768) (by decide +kernel), List.mem_of_getElem? (i := 937) (by decide +kernel), List.mem_of_getElem? (i := 938) (by decide +kernel)⟩
theorem lw_p41 : lw_okq (⟨"LightSheetsModel", "readSheet", "()V"⟩, 25) := ⟨⟨by decide +kernel, by decide +kernel⟩, List.mem_of_getElem? (i := 768) (by decide +kernel), List.mem_of_getElem? (i := 949) (by decide +kernel), List.mem_of_getElem? (i := 950) (by decide +kernel)⟩
theorem lw_p42 : lw_okq (⟨"LightSheetsModel", "readFront", "()V"⟩, 25) := ⟨⟨by decide +kernel, by decide +kernel⟩, List.mem_of_getElem? (i := 768) (by decide +kernel), List.mem_of_getElem? (i := 954) (by decide +kernel), List.mem_of_getElem? (i := 955) (by decide +kernel)⟩
theorem lw_p43 : lw_okq (⟨"LightSheetsModel", "isPlace", "(I)Z"⟩, 25) := ⟨⟨by decide +kernel, by decide +kernel⟩, List.mem_of_getElem? (i := 768) (by decide +kernel), List.mem_of_getElem? (i := 970) (by decide +kernel), List.mem_of_getElem? (i := 971) (by decide +kernel)⟩
theorem lw_p44 : lw_okq (⟨"LightSheetsModel", "isOne", "(I)Z"⟩, 25) := ⟨⟨by decide +kernel, by decide +kernel⟩, List.mem_of_getElem? (i := 768) (by decide +kernel), List.mem_of_getElem? (i := 974) (by decide +kernel), List.mem_of_getElem? (i := 975) (by decide +kernel)⟩
theorem lw_p45 : lw_okq (⟨"LightSheetsModel", "keep", "()V"⟩, 25) := ⟨⟨by decide +kernel, by decide +kernel⟩, List.mem_of_getElem? (i := 768) (by decide +kernel), List.mem_of_getElem? (i := 978) (by decide +kernel), List.mem_of_getElem? (i := 979) (by decide +kernel)⟩
theorem lw_p46 : lw_okq (⟨"LightSheetsModel", "on", "(II)I"⟩, 25) := ⟨⟨by decide +kernel, by decide +kernel⟩, List.mem_of_getElem? (i := 768) (by decide +kernel), List.mem_of_getElem? (i := 982) (by decide +kernel), List.mem_of_getElem? (i := 983) (by decide +kernel)⟩
theorem lw_p47 : lw_okq (⟨"LightSheetsModel", "isThere", "()Z"⟩, 25) := ⟨⟨by decide +kernel, by decide +kernel⟩, List.mem_of_getElem? (i := 768) (by decide +kernel), List.mem_of_getElem? (i := 990) (by decide +kernel), List.mem_of_getElem? (i := 991) (by decide +kernel)⟩
def lw_privs_3 : List (MethodName × Nat) := [(⟨"LightSheetsModel", "next", "()V"⟩, 25), (⟨"LightSheetsModel", "byteAt", "(I)I"⟩, 25), (⟨"LightSheetsModel", "name", "()J"⟩, 25), (⟨"LightSheetsModel", "must", "(Z)V"⟩, 25), (⟨"LightSheetsModel", "bad", "(I)V"⟩, 25), (⟨"LightSheetsModel", "number", "(II)I"⟩, 25), (⟨"LightSheetsModel", "figures", "()I"⟩, 25), (⟨"LightSheetsModel", "mustEnd", "()V"⟩, 25), (⟨"LightSheetsModel", "readLetter", "()V"⟩, 25), (⟨"LightSheetsModel", "readSheet", "()V"⟩, 25), (⟨"LightSheetsModel", "readFront", "()V"⟩, 25), (⟨"LightSheetsModel", "isPlace", "(I)Z"⟩, 25), (⟨"LightSheetsModel", "isOne", "(I)Z"⟩, 25), (⟨"LightSheetsModel", "keep", "()V"⟩, 25), (⟨"LightSheetsModel", "on", "(II)I"⟩, 25), (⟨"LightSheetsModel", "isThere", "()Z"⟩, 25)]
theorem lw_r3 : ∀ q ∈ lw_privs_3, lw_okq q := List.forall_mem_cons.mpr ⟨lw_p32, List.forall_mem_cons.mpr ⟨lw_p33, List.forall_mem_cons.mpr ⟨lw_p34, List.forall_mem_cons.mpr ⟨lw_p35, List.forall_mem_cons.mpr ⟨lw_p36, List.forall_mem_cons.mpr ⟨lw_p37, List.forall_mem_cons.mpr ⟨lw_p38, List.forall_mem_cons.mpr ⟨lw_p39, List.forall_mem_cons.mpr ⟨lw_p40, List.forall_mem_cons.mpr ⟨lw_p41, List.forall_mem_cons.mpr ⟨lw_p42, List.forall_mem_cons.mpr ⟨lw_p43, List.forall_mem_cons.mpr ⟨lw_p44, List.forall_mem_cons.mpr ⟨lw_p45, List.forall_mem_cons.mpr ⟨lw_p46, List.forall_mem_cons.mpr ⟨lw_p47, fun _ h => absurd h List.not_mem_nil⟩⟩⟩⟩⟩⟩⟩⟩⟩⟩⟩⟩⟩⟩⟩⟩
theorem lw_p48 : lw_okq (⟨"LightSheetsModel", "cellsOf", "(I)I"⟩, 25) := ⟨⟨by decide +kernel, by decide +kernel⟩, List.mem_of_getElem? (i := 768) (by decide +kernel), List.mem_of_getElem? (i := 1007) (by decide +kernel), List.mem_of_getElem? (i := 1008) (by decide +kernel)⟩
theorem lw_p49 : lw_okq (⟨"LightSheetsModel", "throughOf", "(I)I"⟩, 25) := ⟨⟨by decide +kernel, by decide +kernel⟩, List.mem_of_getElem? (i := 768) (by decide +kernel), List.mem_of_getElem? (i := 1014) (by decide +kernel), List.mem_of_getElem? (i := 1015) (by decide +kernel)⟩
theorem lw_p50 : lw_okq (⟨"LightSheetsModel", "kindOf", "(I)I"⟩, 25) := ⟨⟨by decide +kernel, by decide +kernel⟩, List.mem_of_getElem? (i := 768) (by decide +kernel), List.mem_of_getElem? (i := 1018) (by decide +kernel), List.mem_of_getElem? (i := 1019) (by decide +kernel)⟩
theorem lw_p51 : lw_okq (⟨"LightSheetsModel", "behindOf", "(II)I"⟩, 25) := ⟨⟨by decide +kernel, by decide +kernel⟩, List.mem_of_getElem? (i := 768) (by decide +kernel), List.mem_of_getElem? (i := 1027) (by decide +kernel), List.mem_of_getElem? (i := 1028) (by decide +kernel)⟩
theorem lw_p52 : lw_okq (⟨"LightSheetsModel", "readOf", "(I)I"⟩, 25) := ⟨⟨by decide +kernel, by decide +kernel⟩, List.mem_of_getElem? (i := 768) (by decide +kernel), List.mem_of_getElem? (i := 1031) (by decide +kernel), List.mem_of_getElem? (i := 1032) (by decide +kernel)⟩
theorem lw_p53 : lw_okq (⟨"LightSheetsModel", "barred", "(IZ)I"⟩, 25) := ⟨⟨by decide +kernel, by decide +kernel⟩, List.mem_of_getElem? (i := 768) (by decide +kernel), List.mem_of_getElem? (i := 1052) (by decide +kernel), List.mem_of_getElem? (i := 1053) (by decide +kernel)⟩
theorem lw_p54 : lw_okq (⟨"LightSheetsModel", "hasLetters", "(I)Z"⟩, 25) := ⟨⟨by decide +kernel, by decide +kernel⟩, List.mem_of_getElem? (i := 768) (by decide +kernel), List.mem_of_getElem? (i := 1056) (by decide +kernel), List.mem_of_getElem? (i := 1057) (by decide +kernel)⟩
theorem lw_p55 : lw_okq (⟨"LightSheetsModel", "behindBy", "(II)I"⟩, 25) := ⟨⟨by decide +kernel, by decide +kernel⟩, List.mem_of_getElem? (i := 768) (by decide +kernel), List.mem_of_getElem? (i := 1060) (by decide +kernel), List.mem_of_getElem? (i := 1061) (by decide +kernel)⟩
theorem lw_p56 : lw_okq (⟨"LightSheetsModel", "readBy", "(II)I"⟩, 25) := ⟨⟨by decide +kernel, by decide +kernel⟩, List.mem_of_getElem? (i := 768) (by decide +kernel), List.mem_of_getElem? (i := 1064) (by decide +kernel), List.mem_of_getElem? (i := 1065) (by decide +kernel)⟩
theorem lw_p57 : lw_okq (⟨"LightSheetsModel", "anewAt", "(II)I"⟩, 25) := ⟨⟨by decide +kernel, by decide +kernel⟩, List.mem_of_getElem? (i := 768) (by decide +kernel), List.mem_of_getElem? (i := 1076) (by decide +kernel), List.mem_of_getElem? (i := 1077) (by decide +kernel)⟩
theorem lw_p58 : lw_okq (⟨"LightSheetsModel", "harmOf", "(I)I"⟩, 25) := ⟨⟨by decide +kernel, by decide +kernel⟩, List.mem_of_getElem? (i := 768) (by decide +kernel), List.mem_of_getElem? (i := 1088) (by decide +kernel), List.mem_of_getElem? (i := 1089) (by decide +kernel)⟩
theorem lw_p59 : lw_okq (⟨"LightSheetsModel", "sizeOf", "(I)I"⟩, 25) := ⟨⟨by decide +kernel, by decide +kernel⟩, List.mem_of_getElem? (i := 768) (by decide +kernel), List.mem_of_getElem? (i := 1128) (by decide +kernel), List.mem_of_getElem? (i := 1129) (by decide +kernel)⟩
theorem lw_p60 : lw_okq (⟨"LightSheetsModel", "markSize", "(I)I"⟩, 25) := ⟨⟨by decide +kernel, by decide +kernel⟩, List.mem_of_getElem? (i := 768) (by decide +kernel), List.mem_of_getElem? (i := 1132) (by decide +kernel), List.mem_of_getElem? (i := 1133) (by decide +kernel)⟩
theorem lw_p61 : lw_okq (⟨"LightSheetsModel", "began", "(I)V"⟩, 25) := ⟨⟨by decide +kernel, by decide +kernel⟩, List.mem_of_getElem? (i := 768) (by decide +kernel), List.mem_of_getElem? (i := 1136) (by decide +kernel), List.mem_of_getElem? (i := 1137) (by decide +kernel)⟩
theorem lw_p62 : lw_okq (⟨"LightSheetsModel", "plainSize", "(I)I"⟩, 25) := ⟨⟨by decide +kernel, by decide +kernel⟩, List.mem_of_getElem? (i := 768) (by decide +kernel), List.mem_of_getElem? (i := 1140) (by decide +kernel), List.mem_of_getElem? (i := 1141) (by decide +kernel)⟩
theorem lw_p63 : lw_okq (⟨"LightSheetsModel", "markOf", "(I)I"⟩, 25) := ⟨⟨by decide +kernel, by decide +kernel⟩, List.mem_of_getElem? (i := 768) (by decide +kernel), List.mem_of_getElem? (i := 1144) (by decide +kernel), List.mem_of_getElem? (i := 1145) (by decide +kernel)⟩
def lw_privs_4 : List (MethodName × Nat) := [(⟨"LightSheetsModel", "cellsOf", "(I)I"⟩, 25), (⟨"LightSheetsModel", "throughOf", "(I)I"⟩, 25), (⟨"LightSheetsModel", "kindOf", "(I)I"⟩, 25), (⟨"LightSheetsModel", "behindOf", "(II)I"⟩, 25), (⟨"LightSheetsModel", "readOf", "(I)I"⟩, 25), (⟨"LightSheetsModel", "barred", "(IZ)I"⟩, 25), (⟨"LightSheetsModel", "hasLetters", "(I)Z"⟩, 25), (⟨"LightSheetsModel", "behindBy", "(II)I"⟩, 25), (⟨"LightSheetsModel", "readBy", "(II)I"⟩, 25), (⟨"LightSheetsModel", "anewAt", "(II)I"⟩, 25), (⟨"LightSheetsModel", "harmOf", "(I)I"⟩, 25), (⟨"LightSheetsModel", "sizeOf", "(I)I"⟩, 25), (⟨"LightSheetsModel", "markSize", "(I)I"⟩, 25), (⟨"LightSheetsModel", "began", "(I)V"⟩, 25), (⟨"LightSheetsModel", "plainSize", "(I)I"⟩, 25), (⟨"LightSheetsModel", "markOf", "(I)I"⟩, 25)]
theorem lw_r4 : ∀ q ∈ lw_privs_4, lw_okq q := List.forall_mem_cons.mpr ⟨lw_p48, List.forall_mem_cons.mpr ⟨lw_p49, List.forall_mem_cons.mpr ⟨lw_p50, List.forall_mem_cons.mpr ⟨lw_p51, List.forall_mem_cons.mpr ⟨lw_p52, List.forall_mem_cons.mpr ⟨lw_p53, List.forall_mem_cons.mpr ⟨lw_p54, List.forall_mem_cons.mpr ⟨lw_p55, List.forall_mem_cons.mpr ⟨lw_p56, List.forall_mem_cons.mpr ⟨lw_p57, List.forall_mem_cons.mpr ⟨lw_p58, List.forall_mem_cons.mpr ⟨lw_p59, List.forall_mem_cons.mpr ⟨lw_p60, List.forall_mem_cons.mpr ⟨lw_p61, List.forall_mem_cons.mpr ⟨lw_p62, List.forall_mem_cons.mpr ⟨lw_p63, fun _ h => absurd h List.not_mem_nil⟩⟩⟩⟩⟩⟩⟩⟩⟩⟩⟩⟩⟩⟩⟩⟩
def lw_privs : List (MethodName × Nat) := lw_privs_1 ++ (lw_privs_2 ++ (lw_privs_3 ++ (lw_privs_4)))
def lw_tbl : List Cond := k2_sels lw_privs ++ tables_1
theorem lw_privs_ok : ∀ q ∈ lw_privs, lw_okq q := by
  show ∀ q ∈ lw_privs_1 ++ (lw_privs_2 ++ (lw_privs_3 ++ (lw_privs_4))), lw_okq q
  exact List.forall_mem_append.mpr ⟨lw_r1, List.forall_mem_append.mpr ⟨lw_r2, List.forall_mem_append.mpr ⟨lw_r3, lw_r4⟩⟩⟩

def RX0 : String := "LightSheets$Acts"
def TX0 : u_T := fun k => match k with
  | 0 => ("LightSheets$Acts", "sides", "[I", true)
  | 1 => ("LightSheets$Acts", "places", "[I", true)
  | 2 => ("LightSheets$Acts", "letters", "[I", true)
  | 3 => ("LightSheets$Acts", "latest", "I", false)
  | _ => ("LightSheets$Acts", "kept", "I", false)
def tyX0 : Nat → FieldType := fun k => match k with
  | 0 => .array .int
  | 1 => .array .int
  | 2 => .array .int
  | 3 => .int
  | _ => .int
abbrev wsX00 : List Cond := u_ws RX0 TX0 5
theorem nmX0 : ∀ a, a < 5 → ∀ b, b < 5 → a ≠ b → (TX0 a).2.1 ≠ (TX0 b).2.1 := by decide +kernel
theorem tyX0_ok : ∀ k, k < 5 → parseFieldDescriptor (TX0 k).2.2.1 = some (tyX0 k) := by decide +kernel
abbrev cX0_init : ByteArray := prog_2_method_1_code
def yX0_init : MethodName := ⟨RX0, "<init>", "()V"⟩
abbrev cX0_keep : ByteArray := prog_2_method_2_code
def yX0_keep : MethodName := ⟨RX0, "keep", "(III)V"⟩
abbrev cX0_latestSide : ByteArray := prog_2_method_3_code
def yX0_latestSide : MethodName := ⟨RX0, "latestSide", "()I"⟩
abbrev cX0_latestPlace : ByteArray := prog_2_method_4_code
def yX0_latestPlace : MethodName := ⟨RX0, "latestPlace", "()I"⟩
abbrev cX0_latestLetter : ByteArray := prog_2_method_5_code
def yX0_latestLetter : MethodName := ⟨RX0, "latestLetter", "()I"⟩
abbrev cX0_forgetLatest : ByteArray := prog_2_method_6_code
def yX0_forgetLatest : MethodName := ⟨RX0, "forgetLatest", "()V"⟩
abbrev cX0_forgetAll : ByteArray := prog_2_method_7_code
def yX0_forgetAll : MethodName := ⟨RX0, "forgetAll", "()V"⟩
def RX1 : String := "LightSheets$Asks"
def TX1 : u_T := fun k => match k with
  | 0 => ("LightSheets$Asks", "begun", "[I", true)
  | _ => ("LightSheets$Asks", "length", "I", false)
def tyX1 : Nat → FieldType := fun k => match k with
  | 0 => .array .int
  | _ => .int
abbrev wsX10 : List Cond := u_ws RX1 TX1 2
theorem nmX1 : ∀ a, a < 2 → ∀ b, b < 2 → a ≠ b → (TX1 a).2.1 ≠ (TX1 b).2.1 := by decide +kernel
theorem tyX1_ok : ∀ k, k < 2 → parseFieldDescriptor (TX1 k).2.2.1 = some (tyX1 k) := by decide +kernel
abbrev cX1_init : ByteArray := prog_3_method_1_code
def yX1_init : MethodName := ⟨RX1, "<init>", "()V"⟩
abbrev cX1_answer : ByteArray := prog_3_method_2_code
def yX1_answer : MethodName := ⟨RX1, "answer", "(LLightSheets$Page;II)I"⟩
abbrev cX1_traced : ByteArray := prog_3_method_3_code
def yX1_traced : MethodName := ⟨RX1, "traced", "(I)I"⟩
abbrev cX1_sizeOfAny : ByteArray := prog_3_method_4_code
def yX1_sizeOfAny : MethodName := ⟨RX1, "sizeOfAny", "(LLightSheets$Page;I)I"⟩
abbrev cX1_sizeOfPlain : ByteArray := prog_3_method_5_code
def yX1_sizeOfPlain : MethodName := ⟨RX1, "sizeOfPlain", "(LLightSheets$Page;I)I"⟩
abbrev cX1_sizeOfMark : ByteArray := prog_3_method_6_code
def yX1_sizeOfMark : MethodName := ⟨RX1, "sizeOfMark", "(LLightSheets$Page;I)I"⟩
abbrev cX1_markOfAny : ByteArray := prog_3_method_7_code
def yX1_markOfAny : MethodName := ⟨RX1, "markOfAny", "(I)I"⟩
abbrev cX1_markOfPlain : ByteArray := prog_3_method_8_code
def yX1_markOfPlain : MethodName := ⟨RX1, "markOfPlain", "(LLightSheets$Page;I)I"⟩
abbrev cX1_markOfMark : ByteArray := prog_3_method_9_code
def yX1_markOfMark : MethodName := ⟨RX1, "markOfMark", "(LLightSheets$Page;I)I"⟩
abbrev cX1_begin : ByteArray := prog_3_method_10_code
def yX1_begin : MethodName := ⟨RX1, "begin", "(I)V"⟩
def RX2 : String := "LightSheets$Page"
def TX2 : u_T := fun k => match k with
  | 0 => ("LightSheets$Page", "damp", "I", false)
  | 1 => ("LightSheets$Page", "letters", "I", false)
  | 2 => ("LightSheets$Page", "places", "I", false)
  | 3 => ("LightSheets$Page", "cells", "[I", true)
  | 4 => ("LightSheets$Page", "kinds", "[I", true)
  | 5 => ("LightSheets$Page", "through", "[I", true)
  | 6 => ("LightSheets$Page", "front", "[I", true)
  | _ => ("LightSheets$Page", "back", "[I", true)
def tyX2 : Nat → FieldType := fun k => match k with
  | 0 => .int
  | 1 => .int
  | 2 => .int
  | 3 => .array .int
  | 4 => .array .int
  | 5 => .array .int
  | 6 => .array .int
  | _ => .array .int
abbrev wsX20 : List Cond := u_ws RX2 TX2 8
theorem nmX2 : ∀ a, a < 8 → ∀ b, b < 8 → a ≠ b → (TX2 a).2.1 ≠ (TX2 b).2.1 := by decide +kernel
theorem tyX2_ok : ∀ k, k < 8 → parseFieldDescriptor (TX2 k).2.2.1 = some (tyX2 k) := by decide +kernel
abbrev cX2_init : ByteArray := prog_4_method_1_code
def yX2_init : MethodName := ⟨RX2, "<init>", "()V"⟩
abbrev cX2_isThere : ByteArray := prog_4_method_2_code
def yX2_isThere : MethodName := ⟨RX2, "isThere", "()Z"⟩
abbrev cX2_hasLetter : ByteArray := prog_4_method_3_code
def yX2_hasLetter : MethodName := ⟨RX2, "hasLetter", "(I)Z"⟩
abbrev cX2_hasPlace : ByteArray := prog_4_method_4_code
def yX2_hasPlace : MethodName := ⟨RX2, "hasPlace", "(II)Z"⟩
abbrev cX2_makeEmpty : ByteArray := prog_4_method_5_code
def yX2_makeEmpty : MethodName := ⟨RX2, "makeEmpty", "()V"⟩
abbrev cX2_takeAll : ByteArray := prog_4_method_6_code
def yX2_takeAll : MethodName := ⟨RX2, "takeAll", "(LLightSheets$Page;)V"⟩
abbrev cX2_addLetter : ByteArray := prog_4_method_7_code
def yX2_addLetter : MethodName := ⟨RX2, "addLetter", "(II)V"⟩
abbrev cX2_addPlace : ByteArray := prog_4_method_8_code
def yX2_addPlace : MethodName := ⟨RX2, "addPlace", "(I)V"⟩
abbrev cX2_putLetter : ByteArray := prog_4_method_9_code
def yX2_putLetter : MethodName := ⟨RX2, "putLetter", "(III)V"⟩
abbrev cX2_turnOver : ByteArray := prog_4_method_10_code
def yX2_turnOver : MethodName := ⟨RX2, "turnOver", "()V"⟩
abbrev cX2_cellsOf : ByteArray := prog_4_method_11_code
def yX2_cellsOf : MethodName := ⟨RX2, "cellsOf", "(I)I"⟩
abbrev cX2_kindOf : ByteArray := prog_4_method_12_code
def yX2_kindOf : MethodName := ⟨RX2, "kindOf", "(I)I"⟩
abbrev cX2_throughOf : ByteArray := prog_4_method_13_code
def yX2_throughOf : MethodName := ⟨RX2, "throughOf", "(I)I"⟩
abbrev cX2_letterAt : ByteArray := prog_4_method_14_code
def yX2_letterAt : MethodName := ⟨RX2, "letterAt", "(II)I"⟩
abbrev cX2_letterBehind : ByteArray := prog_4_method_15_code
def yX2_letterBehind : MethodName := ⟨RX2, "letterBehind", "(II)I"⟩
abbrev cX2_shownByLight : ByteArray := prog_4_method_16_code
def yX2_shownByLight : MethodName := ⟨RX2, "shownByLight", "(II)I"⟩
abbrev cX2_shownByDamp : ByteArray := prog_4_method_17_code
def yX2_shownByDamp : MethodName := ⟨RX2, "shownByDamp", "(III)I"⟩
abbrev cX2_nearest : ByteArray := prog_4_method_18_code
def yX2_nearest : MethodName := ⟨RX2, "nearest", "(I)I"⟩
abbrev cX2_leastOff : ByteArray := prog_4_method_19_code
def yX2_leastOff : MethodName := ⟨RX2, "leastOff", "(I)I"⟩
abbrev cX2_isDoubt : ByteArray := prog_4_method_20_code
def yX2_isDoubt : MethodName := ⟨RX2, "isDoubt", "(I)Z"⟩
abbrev cX2_behindFor : ByteArray := prog_4_method_21_code
def yX2_behindFor : MethodName := ⟨RX2, "behindFor", "(II)I"⟩
abbrev cX2_behindToRead : ByteArray := prog_4_method_22_code
def yX2_behindToRead : MethodName := ⟨RX2, "behindToRead", "(II)I"⟩
abbrev cX2_fitting : ByteArray := prog_4_method_23_code
def yX2_fitting : MethodName := ⟨RX2, "fitting", "(II)I"⟩
abbrev cX2_fewestAnew : ByteArray := prog_4_method_24_code
def yX2_fewestAnew : MethodName := ⟨RX2, "fewestAnew", "(II)I"⟩
abbrev cX2_canBeABack : ByteArray := prog_4_method_25_code
def yX2_canBeABack : MethodName := ⟨RX2, "canBeABack", "(LLightSheets$Row;)Z"⟩
abbrev cX2_harmOf : ByteArray := prog_4_method_26_code
def yX2_harmOf : MethodName := ⟨RX2, "harmOf", "(LLightSheets$Row;)I"⟩
abbrev cX2_placesLeftAsTheyStand : ByteArray := prog_4_method_27_code
def yX2_placesLeftAsTheyStand : MethodName := ⟨RX2, "placesLeftAsTheyStand", "()I"⟩
abbrev cX2_readOf : ByteArray := prog_4_method_28_code
def yX2_readOf : MethodName := ⟨RX2, "readOf", "(II)I"⟩
abbrev cX2_shownOf : ByteArray := prog_4_method_29_code
def yX2_shownOf : MethodName := ⟨RX2, "shownOf", "(II)I"⟩
abbrev cX2_offOf : ByteArray := prog_4_method_30_code
def yX2_offOf : MethodName := ⟨RX2, "offOf", "(II)I"⟩
abbrev cX2_throughFor : ByteArray := prog_4_method_31_code
def yX2_throughFor : MethodName := ⟨RX2, "throughFor", "(II)I"⟩
def RX3 : String := "LightSheets$PageReader"
def TX3 : u_T := fun k => match k with
  | 0 => ("LightSheets$PageReader", "tape", "LLightSheets$Tape;", true)
  | 1 => ("LightSheets$PageReader", "draft", "LLightSheets$Page;", true)
  | 2 => ("LightSheets$PageReader", "faultNumber", "I", false)
  | 3 => ("LightSheets$PageReader", "faultPlace", "I", false)
  | _ => ("LightSheets$PageReader", "taken", "I", false)
def tyX3 : Nat → FieldType := fun k => match k with
  | 0 => .object "LightSheets$Tape"
  | 1 => .object "LightSheets$Page"
  | 2 => .int
  | 3 => .int
  | _ => .int
abbrev wsX30 : List Cond := u_ws RX3 TX3 5
theorem nmX3 : ∀ a, a < 5 → ∀ b, b < 5 → a ≠ b → (TX3 a).2.1 ≠ (TX3 b).2.1 := by decide +kernel
theorem tyX3_ok : ∀ k, k < 5 → parseFieldDescriptor (TX3 k).2.2.1 = some (tyX3 k) := by decide +kernel
abbrev cX3_init : ByteArray := prog_5_method_1_code
def yX3_init : MethodName := ⟨RX3, "<init>", "()V"⟩
abbrev cX3_readsPage : ByteArray := prog_5_method_2_code
def yX3_readsPage : MethodName := ⟨RX3, "readsPage", "()Z"⟩
abbrev cX3_readsLaw : ByteArray := prog_5_method_3_code
def yX3_readsLaw : MethodName := ⟨RX3, "readsLaw", "()Z"⟩
abbrev cX3_readsLetters : ByteArray := prog_5_method_4_code
def yX3_readsLetters : MethodName := ⟨RX3, "readsLetters", "()Z"⟩
abbrev cX3_readsLetter : ByteArray := prog_5_method_5_code
def yX3_readsLetter : MethodName := ⟨RX3, "readsLetter", "()Z"⟩
abbrev cX3_sortTold : ByteArray := prog_5_method_6_code
def yX3_sortTold : MethodName := ⟨RX3, "sortTold", "()I"⟩
abbrev cX3_readsSheet : ByteArray := prog_5_method_7_code
def yX3_readsSheet : MethodName := ⟨RX3, "readsSheet", "()Z"⟩
abbrev cX3_readsFront : ByteArray := prog_5_method_8_code
def yX3_readsFront : MethodName := ⟨RX3, "readsFront", "()Z"⟩
abbrev cX3_readsBack : ByteArray := prog_5_method_9_code
def yX3_readsBack : MethodName := ⟨RX3, "readsBack", "()Z"⟩
abbrev cX3_readsEnd : ByteArray := prog_5_method_10_code
def yX3_readsEnd : MethodName := ⟨RX3, "readsEnd", "()Z"⟩
abbrev cX3_takesWord : ByteArray := prog_5_method_11_code
def yX3_takesWord : MethodName := ⟨RX3, "takesWord", "(Ljava/lang/String;)Z"⟩
abbrev cX3_takesSign : ByteArray := prog_5_method_12_code
def yX3_takesSign : MethodName := ⟨RX3, "takesSign", "(I)Z"⟩
abbrev cX3_takesNumber : ByteArray := prog_5_method_13_code
def yX3_takesNumber : MethodName := ⟨RX3, "takesNumber", "(I)Z"⟩
abbrev cX3_fails : ByteArray := prog_5_method_14_code
def yX3_fails : MethodName := ⟨RX3, "fails", "(I)Z"⟩
def RX4 : String := "LightSheets$Row"
def TX4 : u_T := fun k => match k with
  | 0 => ("LightSheets$Row", "items", "[I", true)
  | 1 => ("LightSheets$Row", "lane", "I", false)
  | _ => ("LightSheets$Row", "length", "I", false)
def tyX4 : Nat → FieldType := fun k => match k with
  | 0 => .array .int
  | 1 => .int
  | _ => .int
abbrev wsX40 : List Cond := u_ws RX4 TX4 3
theorem nmX4 : ∀ a, a < 3 → ∀ b, b < 3 → a ≠ b → (TX4 a).2.1 ≠ (TX4 b).2.1 := by decide +kernel
theorem tyX4_ok : ∀ k, k < 3 → parseFieldDescriptor (TX4 k).2.2.1 = some (tyX4 k) := by decide +kernel
abbrev cX4_init : ByteArray := prog_6_method_1_code
def yX4_init : MethodName := ⟨RX4, "<init>", "()V"⟩
abbrev cX4_isMissing : ByteArray := prog_6_method_2_code
def yX4_isMissing : MethodName := ⟨RX4, "isMissing", "()Z"⟩
abbrev cX4_make : ByteArray := prog_6_method_3_code
def yX4_make : MethodName := ⟨RX4, "make", "(II)V"⟩
abbrev cX4_makeMissing : ByteArray := prog_6_method_4_code
def yX4_makeMissing : MethodName := ⟨RX4, "makeMissing", "()V"⟩
abbrev cX4_holds : ByteArray := prog_6_method_5_code
def yX4_holds : MethodName := ⟨RX4, "holds", "(II)Z"⟩
abbrev cX4_itemAt : ByteArray := prog_6_method_6_code
def yX4_itemAt : MethodName := ⟨RX4, "itemAt", "(I)I"⟩
abbrev cX4_store : ByteArray := prog_6_method_7_code
def yX4_store : MethodName := ⟨RX4, "store", "(II)V"⟩
abbrev cX4_takeItems : ByteArray := prog_6_method_8_code
def yX4_takeItems : MethodName := ⟨RX4, "takeItems", "(LLightSheets$Row;III)V"⟩
def RX5 : String := "LightSheets$Tape"
def TX5 : u_T := fun k => match k with
  | 0 => ("LightSheets$Tape", "bytes", "[I", true)
  | 1 => ("LightSheets$Tape", "length", "I", false)
  | 2 => ("LightSheets$Tape", "token", "I", false)
  | 3 => ("LightSheets$Tape", "start", "I", false)
  | _ => ("LightSheets$Tape", "next", "I", false)
def tyX5 : Nat → FieldType := fun k => match k with
  | 0 => .array .int
  | 1 => .int
  | 2 => .int
  | 3 => .int
  | _ => .int
abbrev wsX50 : List Cond := u_ws RX5 TX5 5
theorem nmX5 : ∀ a, a < 5 → ∀ b, b < 5 → a ≠ b → (TX5 a).2.1 ≠ (TX5 b).2.1 := by decide +kernel
theorem tyX5_ok : ∀ k, k < 5 → parseFieldDescriptor (TX5 k).2.2.1 = some (tyX5 k) := by decide +kernel
abbrev cX5_init : ByteArray := prog_7_method_1_code
def yX5_init : MethodName := ⟨RX5, "<init>", "()V"⟩
abbrev cX5_append : ByteArray := prog_7_method_2_code
def yX5_append : MethodName := ⟨RX5, "append", "(JI)Z"⟩
abbrev cX5_makeEmpty : ByteArray := prog_7_method_3_code
def yX5_makeEmpty : MethodName := ⟨RX5, "makeEmpty", "()V"⟩
abbrev cX5_rewind : ByteArray := prog_7_method_4_code
def yX5_rewind : MethodName := ⟨RX5, "rewind", "()V"⟩
abbrev cX5_advance : ByteArray := prog_7_method_5_code
def yX5_advance : MethodName := ⟨RX5, "advance", "()V"⟩
abbrev cX5_isWord : ByteArray := prog_7_method_6_code
def yX5_isWord : MethodName := ⟨RX5, "isWord", "(Ljava/lang/String;)Z"⟩
abbrev cX5_numberTold : ByteArray := prog_7_method_7_code
def yX5_numberTold : MethodName := ⟨RX5, "numberTold", "()I"⟩
abbrev cX5_sortOf : ByteArray := prog_7_method_8_code
def yX5_sortOf : MethodName := ⟨RX5, "sortOf", "(I)I"⟩
def RX6 : String := "LightSheets"
def TX6 : u_T := fun k => match k with
  | 0 => ("LightSheets", "rows", "[LLightSheets$Row;", true)
  | 1 => ("LightSheets", "images", "[LLightSheets$Page;", true)
  | 2 => ("LightSheets", "reader", "LLightSheets$PageReader;", true)
  | 3 => ("LightSheets", "page", "LLightSheets$Page;", true)
  | 4 => ("LightSheets", "acts", "LLightSheets$Acts;", true)
  | 5 => ("LightSheets", "asks", "LLightSheets$Asks;", true)
  | _ => ("LightSheets", "finding", "I", false)
def tyX6 : Nat → FieldType := fun k => match k with
  | 0 => .array (.object "LightSheets$Row")
  | 1 => .array (.object "LightSheets$Page")
  | 2 => .object "LightSheets$PageReader"
  | 3 => .object "LightSheets$Page"
  | 4 => .object "LightSheets$Acts"
  | 5 => .object "LightSheets$Asks"
  | _ => .int
abbrev wsX60 : List Cond := u_ws RX6 TX6 7
theorem nmX6 : ∀ a, a < 7 → ∀ b, b < 7 → a ≠ b → (TX6 a).2.1 ≠ (TX6 b).2.1 := by decide +kernel
theorem tyX6_ok : ∀ k, k < 7 → parseFieldDescriptor (TX6 k).2.2.1 = some (tyX6 k) := by decide +kernel
abbrev cX6_init : ByteArray := prog_1_method_1_code
def yX6_init : MethodName := ⟨RX6, "<init>", "()V"⟩
abbrev cX6_row : ByteArray := prog_1_method_2_code
def yX6_row : MethodName := ⟨RX6, "row", "(III)I"⟩
abbrev cX6_set : ByteArray := prog_1_method_3_code
def yX6_set : MethodName := ⟨RX6, "set", "(III)I"⟩
abbrev cX6_copy : ByteArray := prog_1_method_4_code
def yX6_copy : MethodName := ⟨RX6, "copy", "(IIIII)I"⟩
abbrev cX6_drop : ByteArray := prog_1_method_5_code
def yX6_drop : MethodName := ⟨RX6, "drop", "(I)I"⟩
abbrev cX6_feed : ByteArray := prog_1_method_6_code
def yX6_feed : MethodName := ⟨RX6, "feed", "(JI)I"⟩
abbrev cX6_page : ByteArray := prog_1_method_7_code
def yX6_page : MethodName := ⟨RX6, "page", "()I"⟩
abbrev cX6_fault : ByteArray := prog_1_method_8_code
def yX6_fault : MethodName := ⟨RX6, "fault", "()I"⟩
abbrev cX6_write : ByteArray := prog_1_method_9_code
def yX6_write : MethodName := ⟨RX6, "write", "(III)I"⟩
abbrev cX6_turn : ByteArray := prog_1_method_10_code
def yX6_turn : MethodName := ⟨RX6, "turn", "()I"⟩
abbrev cX6_undo : ByteArray := prog_1_method_11_code
def yX6_undo : MethodName := ⟨RX6, "undo", "()I"⟩
abbrev cX6_at : ByteArray := prog_1_method_12_code
def yX6_at : MethodName := ⟨RX6, "at", "(II)I"⟩
abbrev cX6_letter : ByteArray := prog_1_method_13_code
def yX6_letter : MethodName := ⟨RX6, "letter", "(II)I"⟩
abbrev cX6_light : ByteArray := prog_1_method_14_code
def yX6_light : MethodName := ⟨RX6, "light", "(III)I"⟩
abbrev cX6_damp : ByteArray := prog_1_method_15_code
def yX6_damp : MethodName := ⟨RX6, "damp", "(IIII)I"⟩
abbrev cX6_read : ByteArray := prog_1_method_16_code
def yX6_read : MethodName := ⟨RX6, "read", "(II)I"⟩
abbrev cX6_behind : ByteArray := prog_1_method_17_code
def yX6_behind : MethodName := ⟨RX6, "behind", "(II)I"⟩
abbrev cX6_ways : ByteArray := prog_1_method_18_code
def yX6_ways : MethodName := ⟨RX6, "ways", "(I)I"⟩
abbrev cX6_anew : ByteArray := prog_1_method_19_code
def yX6_anew : MethodName := ⟨RX6, "anew", "(I)I"⟩
abbrev cX6_fits : ByteArray := prog_1_method_20_code
def yX6_fits : MethodName := ⟨RX6, "fits", "(II)I"⟩
abbrev cX6_harm : ByteArray := prog_1_method_21_code
def yX6_harm : MethodName := ⟨RX6, "harm", "(I)I"⟩
abbrev cX6_leastHarm : ByteArray := prog_1_method_22_code
def yX6_leastHarm : MethodName := ⟨RX6, "leastHarm", "(I)I"⟩
abbrev cX6_safe : ByteArray := prog_1_method_23_code
def yX6_safe : MethodName := ⟨RX6, "safe", "(I)I"⟩
abbrev cX6_over : ByteArray := prog_1_method_24_code
def yX6_over : MethodName := ⟨RX6, "over", "(III)I"⟩
abbrev cX6_image : ByteArray := prog_1_method_25_code
def yX6_image : MethodName := ⟨RX6, "image", "(I)I"⟩
abbrev cX6_restore : ByteArray := prog_1_method_26_code
def yX6_restore : MethodName := ⟨RX6, "restore", "(I)I"⟩
abbrev cX6_kind : ByteArray := prog_1_method_27_code
def yX6_kind : MethodName := ⟨RX6, "kind", "(I)I"⟩
abbrev cX6_as : ByteArray := prog_1_method_28_code
def yX6_as : MethodName := ⟨RX6, "as", "(II)I"⟩
abbrev cX6_ask : ByteArray := prog_1_method_29_code
def yX6_ask : MethodName := ⟨RX6, "ask", "(II)I"⟩
abbrev cX6_trace : ByteArray := prog_1_method_30_code
def yX6_trace : MethodName := ⟨RX6, "trace", "(I)I"⟩
abbrev cX6_count : ByteArray := prog_1_method_31_code
def yX6_count : MethodName := ⟨RX6, "count", "(I)I"⟩
abbrev cX6_status : ByteArray := prog_1_method_32_code
def yX6_status : MethodName := ⟨RX6, "status", "()I"⟩
abbrev cX6_rowOf : ByteArray := prog_1_method_33_code
def yX6_rowOf : MethodName := ⟨RX6, "rowOf", "(I)LLightSheets$Row;"⟩
abbrev cX6_imageOf : ByteArray := prog_1_method_34_code
def yX6_imageOf : MethodName := ⟨RX6, "imageOf", "(I)LLightSheets$Page;"⟩
abbrev cX6_rowsThere : ByteArray := prog_1_method_35_code
def yX6_rowsThere : MethodName := ⟨RX6, "rowsThere", "()I"⟩
abbrev cX6_found : ByteArray := prog_1_method_36_code
def yX6_found : MethodName := ⟨RX6, "found", "(I)I"⟩
abbrev cX6_unfound : ByteArray := prog_1_method_37_code
def yX6_unfound : MethodName := ⟨RX6, "unfound", "(I)I"⟩
abbrev cX6_refusalOfLetters : ByteArray := prog_1_method_38_code
def yX6_refusalOfLetters : MethodName := ⟨RX6, "refusalOfLetters", "(LLightSheets$Row;)I"⟩
abbrev cX6_cellsOrReading : ByteArray := prog_1_method_39_code
def yX6_cellsOrReading : MethodName := ⟨RX6, "cellsOrReading", "(II)I"⟩
abbrev cX6_answerOfReading : ByteArray := prog_1_method_40_code
def yX6_answerOfReading : MethodName := ⟨RX6, "answerOfReading", "(II)I"⟩
abbrev cX6_areCells : ByteArray := prog_1_method_41_code
def yX6_areCells : MethodName := ⟨RX6, "areCells", "(I)Z"⟩
abbrev cX6_hasBit : ByteArray := prog_1_method_42_code
def yX6_hasBit : MethodName := ⟨RX6, "hasBit", "(II)Z"⟩
abbrev cX6_turned : ByteArray := prog_1_method_43_code
def yX6_turned : MethodName := ⟨RX6, "turned", "(I)I"⟩
abbrev cX6_isOfKind : ByteArray := prog_1_method_44_code
def yX6_isOfKind : MethodName := ⟨RX6, "isOfKind", "(II)Z"⟩
abbrev cX6_itemOf : ByteArray := prog_1_method_45_code
def yX6_itemOf : MethodName := ⟨RX6, "itemOf", "([II)I"⟩
abbrev cX6_putItem : ByteArray := prog_1_method_46_code
def yX6_putItem : MethodName := ⟨RX6, "putItem", "([III)V"⟩
abbrev cX6_copyItems : ByteArray := prog_1_method_47_code
def yX6_copyItems : MethodName := ⟨RX6, "copyItems", "([II[III)V"⟩
def RX7 : String := "LightSheetsModel"
def TX7 : u_T := fun k => match k with
  | 0 => ("LightSheetsModel", "thrown", "I", false)
  | 1 => ("LightSheetsModel", "status", "I", false)
  | 2 => ("LightSheetsModel", "lane", "[I", true)
  | 3 => ("LightSheetsModel", "many", "[I", true)
  | 4 => ("LightSheetsModel", "item", "[I", true)
  | 5 => ("LightSheetsModel", "page", "[I", true)
  | 6 => ("LightSheetsModel", "fresh", "[I", true)
  | 7 => ("LightSheetsModel", "was", "[I", true)
  | 8 => ("LightSheetsModel", "acts", "I", false)
  | 9 => ("LightSheetsModel", "tape", "[I", true)
  | 10 => ("LightSheetsModel", "taped", "I", false)
  | 11 => ("LightSheetsModel", "latest", "I", false)
  | 12 => ("LightSheetsModel", "length", "I", false)
  | 13 => ("LightSheetsModel", "cursor", "I", false)
  | 14 => ("LightSheetsModel", "token", "I", false)
  | 15 => ("LightSheetsModel", "start", "I", false)
  | 16 => ("LightSheetsModel", "till", "I", false)
  | 17 => ("LightSheetsModel", "fault", "I", false)
  | 18 => ("LightSheetsModel", "faultAt", "I", false)
  | 19 => ("LightSheetsModel", "off", "I", false)
  | 20 => ("LightSheetsModel", "asNear", "I", false)
  | 21 => ("LightSheetsModel", "isKept", "[Z", true)
  | 22 => ("LightSheetsModel", "kept", "[I", true)
  | 23 => ("LightSheetsModel", "trace", "[I", true)
  | _ => ("LightSheetsModel", "traced", "I", false)
def tyX7 : Nat → FieldType := fun k => match k with
  | 0 => .int
  | 1 => .int
  | 2 => .array .int
  | 3 => .array .int
  | 4 => .array .int
  | 5 => .array .int
  | 6 => .array .int
  | 7 => .array .int
  | 8 => .int
  | 9 => .array .int
  | 10 => .int
  | 11 => .int
  | 12 => .int
  | 13 => .int
  | 14 => .int
  | 15 => .int
  | 16 => .int
  | 17 => .int
  | 18 => .int
  | 19 => .int
  | 20 => .int
  | 21 => .array .boolean
  | 22 => .array .int
  | 23 => .array .int
  | _ => .int
abbrev wsX70 : List Cond := u_ws RX7 TX7 25
theorem nmX7 : ∀ a, a < 25 → ∀ b, b < 25 → a ≠ b → (TX7 a).2.1 ≠ (TX7 b).2.1 := by decide +kernel
theorem tyX7_ok : ∀ k, k < 25 → parseFieldDescriptor (TX7 k).2.2.1 = some (tyX7 k) := by decide +kernel
abbrev cX7_init : ByteArray := prog_9_method_1_code
def yX7_init : MethodName := ⟨RX7, "<init>", "()V"⟩
abbrev cX7_in : ByteArray := prog_9_method_3_code
def yX7_in : MethodName := ⟨RX7, "in", "(JJJ)Z"⟩
abbrev cX7_finding : ByteArray := prog_9_method_4_code
def yX7_finding : MethodName := ⟨RX7, "finding", "(I)I"⟩
abbrev cX7_isRow : ByteArray := prog_9_method_5_code
def yX7_isRow : MethodName := ⟨RX7, "isRow", "(I)Z"⟩
abbrev cX7_row : ByteArray := prog_9_method_6_code
def yX7_row : MethodName := ⟨RX7, "row", "(III)I"⟩
abbrev cX7_set : ByteArray := prog_9_method_7_code
def yX7_set : MethodName := ⟨RX7, "set", "(III)I"⟩
abbrev cX7_copy : ByteArray := prog_9_method_8_code
def yX7_copy : MethodName := ⟨RX7, "copy", "(IIIII)I"⟩
abbrev cX7_drop : ByteArray := prog_9_method_9_code
def yX7_drop : MethodName := ⟨RX7, "drop", "(I)I"⟩
abbrev cX7_feed : ByteArray := prog_9_method_10_code
def yX7_feed : MethodName := ⟨RX7, "feed", "(JI)I"⟩
abbrev cX7_byteAt : ByteArray := prog_9_method_11_code
def yX7_byteAt : MethodName := ⟨RX7, "byteAt", "(I)I"⟩
abbrev cX7_isLetter : ByteArray := prog_9_method_12_code
def yX7_isLetter : MethodName := ⟨RX7, "isLetter", "(I)Z"⟩
abbrev cX7_isFigure : ByteArray := prog_9_method_13_code
def yX7_isFigure : MethodName := ⟨RX7, "isFigure", "(I)Z"⟩
abbrev cX7_next : ByteArray := prog_9_method_14_code
def yX7_next : MethodName := ⟨RX7, "next", "()V"⟩
abbrev cX7_begin : ByteArray := prog_9_method_15_code
def yX7_begin : MethodName := ⟨RX7, "begin", "()V"⟩
abbrev cX7_bad : ByteArray := prog_9_method_16_code
def yX7_bad : MethodName := ⟨RX7, "bad", "(I)V"⟩
abbrev cX7_must : ByteArray := prog_9_method_17_code
def yX7_must : MethodName := ⟨RX7, "must", "(Z)V"⟩
abbrev cX7_name : ByteArray := prog_9_method_18_code
def yX7_name : MethodName := ⟨RX7, "name", "()J"⟩
abbrev cX7_figures : ByteArray := prog_9_method_19_code
def yX7_figures : MethodName := ⟨RX7, "figures", "()I"⟩
abbrev cX7_number : ByteArray := prog_9_method_20_code
def yX7_number : MethodName := ⟨RX7, "number", "(II)I"⟩
abbrev cX7_kindBy : ByteArray := prog_9_method_21_code
def yX7_kindBy : MethodName := ⟨RX7, "kindBy", "(J)I"⟩
abbrev cX7_mustEnd : ByteArray := prog_9_method_22_code
def yX7_mustEnd : MethodName := ⟨RX7, "mustEnd", "()V"⟩
abbrev cX7_readLetter : ByteArray := prog_9_method_23_code
def yX7_readLetter : MethodName := ⟨RX7, "readLetter", "()V"⟩
abbrev cX7_readFront : ByteArray := prog_9_method_24_code
def yX7_readFront : MethodName := ⟨RX7, "readFront", "()V"⟩
abbrev cX7_readSheet : ByteArray := prog_9_method_25_code
def yX7_readSheet : MethodName := ⟨RX7, "readSheet", "()V"⟩
abbrev cX7_page : ByteArray := prog_9_method_26_code
def yX7_page : MethodName := ⟨RX7, "page", "()I"⟩
abbrev cX7_fault : ByteArray := prog_9_method_27_code
def yX7_fault : MethodName := ⟨RX7, "fault", "()I"⟩
abbrev cX7_isThere : ByteArray := prog_9_method_28_code
def yX7_isThere : MethodName := ⟨RX7, "isThere", "()Z"⟩
abbrev cX7_isOne : ByteArray := prog_9_method_29_code
def yX7_isOne : MethodName := ⟨RX7, "isOne", "(I)Z"⟩
abbrev cX7_isPlace : ByteArray := prog_9_method_30_code
def yX7_isPlace : MethodName := ⟨RX7, "isPlace", "(I)Z"⟩
abbrev cX7_isSide : ByteArray := prog_9_method_31_code
def yX7_isSide : MethodName := ⟨RX7, "isSide", "(I)Z"⟩
abbrev cX7_kindOf : ByteArray := prog_9_method_32_code
def yX7_kindOf : MethodName := ⟨RX7, "kindOf", "(I)I"⟩
abbrev cX7_cellsOf : ByteArray := prog_9_method_33_code
def yX7_cellsOf : MethodName := ⟨RX7, "cellsOf", "(I)I"⟩
abbrev cX7_on : ByteArray := prog_9_method_34_code
def yX7_on : MethodName := ⟨RX7, "on", "(II)I"⟩
abbrev cX7_behindOf : ByteArray := prog_9_method_35_code
def yX7_behindOf : MethodName := ⟨RX7, "behindOf", "(II)I"⟩
abbrev cX7_bits : ByteArray := prog_9_method_36_code
def yX7_bits : MethodName := ⟨RX7, "bits", "(I)I"⟩
abbrev cX7_turned : ByteArray := prog_9_method_37_code
def yX7_turned : MethodName := ⟨RX7, "turned", "(I)I"⟩
abbrev cX7_throughOf : ByteArray := prog_9_method_38_code
def yX7_throughOf : MethodName := ⟨RX7, "throughOf", "(I)I"⟩
abbrev cX7_readOf : ByteArray := prog_9_method_39_code
def yX7_readOf : MethodName := ⟨RX7, "readOf", "(I)I"⟩
abbrev cX7_readBy : ByteArray := prog_9_method_40_code
def yX7_readBy : MethodName := ⟨RX7, "readBy", "(II)I"⟩
abbrev cX7_keep : ByteArray := prog_9_method_41_code
def yX7_keep : MethodName := ⟨RX7, "keep", "()V"⟩
abbrev cX7_write : ByteArray := prog_9_method_42_code
def yX7_write : MethodName := ⟨RX7, "write", "(III)I"⟩
abbrev cX7_turn : ByteArray := prog_9_method_43_code
def yX7_turn : MethodName := ⟨RX7, "turn", "()I"⟩
abbrev cX7_undo : ByteArray := prog_9_method_44_code
def yX7_undo : MethodName := ⟨RX7, "undo", "()I"⟩
abbrev cX7_at : ByteArray := prog_9_method_45_code
def yX7_at : MethodName := ⟨RX7, "at", "(II)I"⟩
abbrev cX7_letter : ByteArray := prog_9_method_46_code
def yX7_letter : MethodName := ⟨RX7, "letter", "(II)I"⟩
abbrev cX7_light : ByteArray := prog_9_method_47_code
def yX7_light : MethodName := ⟨RX7, "light", "(III)I"⟩
abbrev cX7_damp : ByteArray := prog_9_method_48_code
def yX7_damp : MethodName := ⟨RX7, "damp", "(IIII)I"⟩
abbrev cX7_read : ByteArray := prog_9_method_49_code
def yX7_read : MethodName := ⟨RX7, "read", "(II)I"⟩
abbrev cX7_hasLetters : ByteArray := prog_9_method_50_code
def yX7_hasLetters : MethodName := ⟨RX7, "hasLetters", "(I)Z"⟩
abbrev cX7_barred : ByteArray := prog_9_method_51_code
def yX7_barred : MethodName := ⟨RX7, "barred", "(IZ)I"⟩
abbrev cX7_behindBy : ByteArray := prog_9_method_52_code
def yX7_behindBy : MethodName := ⟨RX7, "behindBy", "(II)I"⟩
abbrev cX7_behind : ByteArray := prog_9_method_53_code
def yX7_behind : MethodName := ⟨RX7, "behind", "(II)I"⟩
abbrev cX7_ways : ByteArray := prog_9_method_54_code
def yX7_ways : MethodName := ⟨RX7, "ways", "(I)I"⟩
abbrev cX7_anewAt : ByteArray := prog_9_method_55_code
def yX7_anewAt : MethodName := ⟨RX7, "anewAt", "(II)I"⟩
abbrev cX7_anew : ByteArray := prog_9_method_56_code
def yX7_anew : MethodName := ⟨RX7, "anew", "(I)I"⟩
abbrev cX7_fits : ByteArray := prog_9_method_57_code
def yX7_fits : MethodName := ⟨RX7, "fits", "(II)I"⟩
abbrev cX7_harmOf : ByteArray := prog_9_method_58_code
def yX7_harmOf : MethodName := ⟨RX7, "harmOf", "(I)I"⟩
abbrev cX7_harm : ByteArray := prog_9_method_59_code
def yX7_harm : MethodName := ⟨RX7, "harm", "(I)I"⟩
abbrev cX7_leastHarm : ByteArray := prog_9_method_60_code
def yX7_leastHarm : MethodName := ⟨RX7, "leastHarm", "(I)I"⟩
abbrev cX7_safe : ByteArray := prog_9_method_61_code
def yX7_safe : MethodName := ⟨RX7, "safe", "(I)I"⟩
abbrev cX7_over : ByteArray := prog_9_method_62_code
def yX7_over : MethodName := ⟨RX7, "over", "(III)I"⟩
abbrev cX7_image : ByteArray := prog_9_method_63_code
def yX7_image : MethodName := ⟨RX7, "image", "(I)I"⟩
abbrev cX7_restore : ByteArray := prog_9_method_64_code
def yX7_restore : MethodName := ⟨RX7, "restore", "(I)I"⟩
abbrev cX7_isOf : ByteArray := prog_9_method_65_code
def yX7_isOf : MethodName := ⟨RX7, "isOf", "(II)Z"⟩
abbrev cX7_kind : ByteArray := prog_9_method_66_code
def yX7_kind : MethodName := ⟨RX7, "kind", "(I)I"⟩
abbrev cX7_as : ByteArray := prog_9_method_67_code
def yX7_as : MethodName := ⟨RX7, "as", "(II)I"⟩
abbrev cX7_began : ByteArray := prog_9_method_68_code
def yX7_began : MethodName := ⟨RX7, "began", "(I)V"⟩
abbrev cX7_plainSize : ByteArray := prog_9_method_69_code
def yX7_plainSize : MethodName := ⟨RX7, "plainSize", "(I)I"⟩
abbrev cX7_markSize : ByteArray := prog_9_method_70_code
def yX7_markSize : MethodName := ⟨RX7, "markSize", "(I)I"⟩
abbrev cX7_markOf : ByteArray := prog_9_method_71_code
def yX7_markOf : MethodName := ⟨RX7, "markOf", "(I)I"⟩
abbrev cX7_sizeOf : ByteArray := prog_9_method_72_code
def yX7_sizeOf : MethodName := ⟨RX7, "sizeOf", "(I)I"⟩
abbrev cX7_ask : ByteArray := prog_9_method_73_code
def yX7_ask : MethodName := ⟨RX7, "ask", "(II)I"⟩
abbrev cX7_trace : ByteArray := prog_9_method_74_code
def yX7_trace : MethodName := ⟨RX7, "trace", "(I)I"⟩
abbrev cX7_count : ByteArray := prog_9_method_75_code
def yX7_count : MethodName := ⟨RX7, "count", "(I)I"⟩
abbrev cX7_status : ByteArray := prog_9_method_76_code
def yX7_status : MethodName := ⟨RX7, "status", "()I"⟩
def RJ6 : String := "java/lang/Integer"
abbrev cJ6_bitCount_0f7a4 : ByteArray := prog_10_method_49_code
def yJ6_bitCount_0f7a4 : MethodName := ⟨RJ6, "bitCount", "(I)I"⟩
def RJ9 : String := "java/lang/Math"
abbrev cJ9_max_7cf53 : ByteArray := prog_11_method_65_code
def yJ9_max_7cf53 : MethodName := ⟨RJ9, "max", "(II)I"⟩
abbrev cJ9_min_7cf53 : ByteArray := prog_11_method_69_code
def yJ9_min_7cf53 : MethodName := ⟨RJ9, "min", "(II)I"⟩
def RJ0 : String := "java/lang/String"
abbrev cJ0_length_8abf5 : ByteArray := prog_12_method_54_code
def yJ0_length_8abf5 : MethodName := ⟨RJ0, "length", "()I"⟩
abbrev cJ0_charAt_5068e : ByteArray := prog_12_method_56_code
def yJ0_charAt_5068e : MethodName := ⟨RJ0, "charAt", "(I)C"⟩
abbrev cJ0_coder_7d493 : ByteArray := prog_12_method_152_code
def yJ0_coder_7d493 : MethodName := ⟨RJ0, "coder", "()B"⟩
abbrev cJ0_isLatin1_aae02 : ByteArray := prog_12_method_154_code
def yJ0_isLatin1_aae02 : MethodName := ⟨RJ0, "isLatin1", "()Z"⟩
abbrev cJ0_checkIndex_df160 : ByteArray := prog_12_method_155_code
def yJ0_checkIndex_df160 : MethodName := ⟨RJ0, "checkIndex", "(II)V"⟩
def RJ1 : String := "java/lang/StringLatin1"
abbrev cJ1_charAt_3b067 : ByteArray := prog_13_method_2_code
def yJ1_charAt_3b067 : MethodName := ⟨RJ1, "charAt", "([BI)C"⟩
def RJ2 : String := "java/lang/StringUTF16"
abbrev cJ2_getChar_3b067 : ByteArray := prog_14_method_5_code
def yJ2_getChar_3b067 : MethodName := ⟨RJ2, "getChar", "([BI)C"⟩
abbrev cJ2_length_9d52b : ByteArray := prog_14_method_6_code
def yJ2_length_9d52b : MethodName := ⟨RJ2, "length", "([B)I"⟩
abbrev cJ2_charAt_3b067 : ByteArray := prog_14_method_83_code
def yJ2_charAt_3b067 : MethodName := ⟨RJ2, "charAt", "([BI)C"⟩
abbrev cJ2_checkIndex_2214a : ByteArray := prog_14_method_91_code
def yJ2_checkIndex_2214a : MethodName := ⟨RJ2, "checkIndex", "(I[B)V"⟩
def RJ10 : String := "java/lang/System"
def RJ3 : String := "jdk/internal/util/Preconditions"
abbrev cJ3_checkIndex_8e157 : ByteArray := prog_16_method_11_code
def yJ3_checkIndex_8e157 : MethodName := ⟨RJ3, "checkIndex", "(IILjava/util/function/BiFunction;)I"⟩
def RL : String := "LightSheetsLaw"
abbrev cL_law : ByteArray := code
def yL_law : MethodName := ⟨RL, "law", "([I)Z"⟩
abbrev vwCl : List vw_C := [(RX0, TX0, 5), (RX1, TX1, 2), (RX2, TX2, 8), (RX3, TX3, 5), (RX4, TX4, 3), (RX5, TX5, 5), (RX6, TX6, 7), (RX7, TX7, 25)]
