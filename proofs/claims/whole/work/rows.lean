section
-- ===== PART A: goes FIRST, ahead of the names: the tables' words, and 'selects' of the private methods out of them =====
/-- a private method of a class that the tables say can be made, by its rows of tables_1 -/
def lw_okq (q : MethodName × Nat) : Prop := (q.1.cls ≠ "java/lang/invoke/MethodHandle" ∧ q.1.cls ≠ "java/lang/invoke/VarHandle") ∧ Cond.instantiable q.1.cls q.2 ∈ tables_1 ∧ Cond.privateMethod q.1 ∈ tables_1 ∧ Cond.instanceMethod q.1 ∈ tables_1
theorem lw_p0 : lw_okq (⟨"LightSheets", "rowOf", "(I)LLightSheets$Row;"⟩, 7) := ⟨⟨by decide +kernel, by decide +kernel⟩, List.mem_of_getElem? (i := 17) (by decide +kernel), List.mem_of_getElem? (i := 198) (by decide +kernel), List.mem_of_getElem? (i := 199) (by decide +kernel)⟩
theorem lw_p1 : lw_okq (⟨"LightSheets", "found", "(I)I"⟩, 7) := ⟨⟨by decide +kernel, by decide +kernel⟩, List.mem_of_getElem? (i := 17) (by decide +kernel), List.mem_of_getElem? (i := 203) (by decide +kernel), List.mem_of_getElem? (i := 204) (by decide +kernel)⟩
theorem lw_p2 : lw_okq (⟨"LightSheets", "unfound", "(I)I"⟩, 7) := ⟨⟨by decide +kernel, by decide +kernel⟩, List.mem_of_getElem? (i := 17) (by decide +kernel), List.mem_of_getElem? (i := 212) (by decide +kernel), List.mem_of_getElem? (i := 213) (by decide +kernel)⟩
theorem lw_p3 : lw_okq (⟨"LightSheets$PageReader", "readsLaw", "()Z"⟩, 5) := ⟨⟨by decide +kernel, by decide +kernel⟩, List.mem_of_getElem? (i := 29) (by decide +kernel), List.mem_of_getElem? (i := 299) (by decide +kernel), List.mem_of_getElem? (i := 300) (by decide +kernel)⟩
theorem lw_p4 : lw_okq (⟨"LightSheets$PageReader", "takesWord", "(Ljava/lang/String;)Z"⟩, 5) := ⟨⟨by decide +kernel, by decide +kernel⟩, List.mem_of_getElem? (i := 29) (by decide +kernel), List.mem_of_getElem? (i := 304) (by decide +kernel), List.mem_of_getElem? (i := 305) (by decide +kernel)⟩
theorem lw_p5 : lw_okq (⟨"LightSheets$PageReader", "fails", "(I)Z"⟩, 5) := ⟨⟨by decide +kernel, by decide +kernel⟩, List.mem_of_getElem? (i := 29) (by decide +kernel), List.mem_of_getElem? (i := 360) (by decide +kernel), List.mem_of_getElem? (i := 361) (by decide +kernel)⟩
theorem lw_p6 : lw_okq (⟨"LightSheets$PageReader", "takesNumber", "(I)Z"⟩, 5) := ⟨⟨by decide +kernel, by decide +kernel⟩, List.mem_of_getElem? (i := 29) (by decide +kernel), List.mem_of_getElem? (i := 365) (by decide +kernel), List.mem_of_getElem? (i := 366) (by decide +kernel)⟩
theorem lw_p7 : lw_okq (⟨"LightSheets$PageReader", "takesSign", "(I)Z"⟩, 5) := ⟨⟨by decide +kernel, by decide +kernel⟩, List.mem_of_getElem? (i := 29) (by decide +kernel), List.mem_of_getElem? (i := 373) (by decide +kernel), List.mem_of_getElem? (i := 374) (by decide +kernel)⟩
theorem lw_p8 : lw_okq (⟨"LightSheets$PageReader", "readsLetters", "()Z"⟩, 5) := ⟨⟨by decide +kernel, by decide +kernel⟩, List.mem_of_getElem? (i := 29) (by decide +kernel), List.mem_of_getElem? (i := 377) (by decide +kernel), List.mem_of_getElem? (i := 378) (by decide +kernel)⟩
theorem lw_p9 : lw_okq (⟨"LightSheets$PageReader", "readsLetter", "()Z"⟩, 5) := ⟨⟨by decide +kernel, by decide +kernel⟩, List.mem_of_getElem? (i := 29) (by decide +kernel), List.mem_of_getElem? (i := 382) (by decide +kernel), List.mem_of_getElem? (i := 383) (by decide +kernel)⟩
theorem lw_p10 : lw_okq (⟨"LightSheets$PageReader", "sortTold", "()I"⟩, 5) := ⟨⟨by decide +kernel, by decide +kernel⟩, List.mem_of_getElem? (i := 29) (by decide +kernel), List.mem_of_getElem? (i := 386) (by decide +kernel), List.mem_of_getElem? (i := 387) (by decide +kernel)⟩
theorem lw_p11 : lw_okq (⟨"LightSheets$PageReader", "readsSheet", "()Z"⟩, 5) := ⟨⟨by decide +kernel, by decide +kernel⟩, List.mem_of_getElem? (i := 29) (by decide +kernel), List.mem_of_getElem? (i := 406) (by decide +kernel), List.mem_of_getElem? (i := 407) (by decide +kernel)⟩
theorem lw_p12 : lw_okq (⟨"LightSheets$PageReader", "readsFront", "()Z"⟩, 5) := ⟨⟨by decide +kernel, by decide +kernel⟩, List.mem_of_getElem? (i := 29) (by decide +kernel), List.mem_of_getElem? (i := 411) (by decide +kernel), List.mem_of_getElem? (i := 412) (by decide +kernel)⟩
theorem lw_p13 : lw_okq (⟨"LightSheets$PageReader", "readsBack", "()Z"⟩, 5) := ⟨⟨by decide +kernel, by decide +kernel⟩, List.mem_of_getElem? (i := 29) (by decide +kernel), List.mem_of_getElem? (i := 419) (by decide +kernel), List.mem_of_getElem? (i := 420) (by decide +kernel)⟩
theorem lw_p14 : lw_okq (⟨"LightSheets$PageReader", "readsEnd", "()Z"⟩, 5) := ⟨⟨by decide +kernel, by decide +kernel⟩, List.mem_of_getElem? (i := 29) (by decide +kernel), List.mem_of_getElem? (i := 427) (by decide +kernel), List.mem_of_getElem? (i := 428) (by decide +kernel)⟩
theorem lw_p15 : lw_okq (⟨"LightSheets$Page", "shownOf", "(II)I"⟩, 8) := ⟨⟨by decide +kernel, by decide +kernel⟩, List.mem_of_getElem? (i := 61) (by decide +kernel), List.mem_of_getElem? (i := 544) (by decide +kernel), List.mem_of_getElem? (i := 545) (by decide +kernel)⟩
def lw_privs_1 : List (MethodName × Nat) := [(⟨"LightSheets", "rowOf", "(I)LLightSheets$Row;"⟩, 7), (⟨"LightSheets", "found", "(I)I"⟩, 7), (⟨"LightSheets", "unfound", "(I)I"⟩, 7), (⟨"LightSheets$PageReader", "readsLaw", "()Z"⟩, 5), (⟨"LightSheets$PageReader", "takesWord", "(Ljava/lang/String;)Z"⟩, 5), (⟨"LightSheets$PageReader", "fails", "(I)Z"⟩, 5), (⟨"LightSheets$PageReader", "takesNumber", "(I)Z"⟩, 5), (⟨"LightSheets$PageReader", "takesSign", "(I)Z"⟩, 5), (⟨"LightSheets$PageReader", "readsLetters", "()Z"⟩, 5), (⟨"LightSheets$PageReader", "readsLetter", "()Z"⟩, 5), (⟨"LightSheets$PageReader", "sortTold", "()I"⟩, 5), (⟨"LightSheets$PageReader", "readsSheet", "()Z"⟩, 5), (⟨"LightSheets$PageReader", "readsFront", "()Z"⟩, 5), (⟨"LightSheets$PageReader", "readsBack", "()Z"⟩, 5), (⟨"LightSheets$PageReader", "readsEnd", "()Z"⟩, 5), (⟨"LightSheets$Page", "shownOf", "(II)I"⟩, 8)]
theorem lw_r1 : ∀ q ∈ lw_privs_1, lw_okq q := List.forall_mem_cons.mpr ⟨lw_p0, List.forall_mem_cons.mpr ⟨lw_p1, List.forall_mem_cons.mpr ⟨lw_p2, List.forall_mem_cons.mpr ⟨lw_p3, List.forall_mem_cons.mpr ⟨lw_p4, List.forall_mem_cons.mpr ⟨lw_p5, List.forall_mem_cons.mpr ⟨lw_p6, List.forall_mem_cons.mpr ⟨lw_p7, List.forall_mem_cons.mpr ⟨lw_p8, List.forall_mem_cons.mpr ⟨lw_p9, List.forall_mem_cons.mpr ⟨lw_p10, List.forall_mem_cons.mpr ⟨lw_p11, List.forall_mem_cons.mpr ⟨lw_p12, List.forall_mem_cons.mpr ⟨lw_p13, List.forall_mem_cons.mpr ⟨lw_p14, List.forall_mem_cons.mpr ⟨lw_p15, fun _ h => absurd h List.not_mem_nil⟩⟩⟩⟩⟩⟩⟩⟩⟩⟩⟩⟩⟩⟩⟩⟩
theorem lw_p16 : lw_okq (⟨"LightSheets", "answerOfReading", "(II)I"⟩, 7) := ⟨⟨by decide +kernel, by decide +kernel⟩, List.mem_of_getElem? (i := 17) (by decide +kernel), List.mem_of_getElem? (i := 548) (by decide +kernel), List.mem_of_getElem? (i := 549) (by decide +kernel)⟩
theorem lw_p17 : lw_okq (⟨"LightSheets$Page", "offOf", "(II)I"⟩, 8) := ⟨⟨by decide +kernel, by decide +kernel⟩, List.mem_of_getElem? (i := 61) (by decide +kernel), List.mem_of_getElem? (i := 556) (by decide +kernel), List.mem_of_getElem? (i := 557) (by decide +kernel)⟩
theorem lw_p18 : lw_okq (⟨"LightSheets", "cellsOrReading", "(II)I"⟩, 7) := ⟨⟨by decide +kernel, by decide +kernel⟩, List.mem_of_getElem? (i := 17) (by decide +kernel), List.mem_of_getElem? (i := 589) (by decide +kernel), List.mem_of_getElem? (i := 590) (by decide +kernel)⟩
theorem lw_p19 : lw_okq (⟨"LightSheets", "refusalOfLetters", "(LLightSheets$Row;)I"⟩, 7) := ⟨⟨by decide +kernel, by decide +kernel⟩, List.mem_of_getElem? (i := 17) (by decide +kernel), List.mem_of_getElem? (i := 604) (by decide +kernel), List.mem_of_getElem? (i := 605) (by decide +kernel)⟩
theorem lw_p20 : lw_okq (⟨"LightSheets$Page", "readOf", "(II)I"⟩, 8) := ⟨⟨by decide +kernel, by decide +kernel⟩, List.mem_of_getElem? (i := 61) (by decide +kernel), List.mem_of_getElem? (i := 623) (by decide +kernel), List.mem_of_getElem? (i := 624) (by decide +kernel)⟩
theorem lw_p21 : lw_okq (⟨"LightSheets", "imageOf", "(I)LLightSheets$Page;"⟩, 7) := ⟨⟨by decide +kernel, by decide +kernel⟩, List.mem_of_getElem? (i := 17) (by decide +kernel), List.mem_of_getElem? (i := 680) (by decide +kernel), List.mem_of_getElem? (i := 681) (by decide +kernel)⟩
theorem lw_p22 : lw_okq (⟨"LightSheets$Asks", "sizeOfMark", "(LLightSheets$Page;I)I"⟩, 2) := ⟨⟨by decide +kernel, by decide +kernel⟩, List.mem_of_getElem? (i := 141) (by decide +kernel), List.mem_of_getElem? (i := 710) (by decide +kernel), List.mem_of_getElem? (i := 711) (by decide +kernel)⟩
theorem lw_p23 : lw_okq (⟨"LightSheets$Asks", "begin", "(I)V"⟩, 2) := ⟨⟨by decide +kernel, by decide +kernel⟩, List.mem_of_getElem? (i := 141) (by decide +kernel), List.mem_of_getElem? (i := 714) (by decide +kernel), List.mem_of_getElem? (i := 715) (by decide +kernel)⟩
theorem lw_p24 : lw_okq (⟨"LightSheets$Asks", "sizeOfAny", "(LLightSheets$Page;I)I"⟩, 2) := ⟨⟨by decide +kernel, by decide +kernel⟩, List.mem_of_getElem? (i := 141) (by decide +kernel), List.mem_of_getElem? (i := 719) (by decide +kernel), List.mem_of_getElem? (i := 720) (by decide +kernel)⟩
theorem lw_p25 : lw_okq (⟨"LightSheets$Asks", "sizeOfPlain", "(LLightSheets$Page;I)I"⟩, 2) := ⟨⟨by decide +kernel, by decide +kernel⟩, List.mem_of_getElem? (i := 141) (by decide +kernel), List.mem_of_getElem? (i := 725) (by decide +kernel), List.mem_of_getElem? (i := 726) (by decide +kernel)⟩
theorem lw_p26 : lw_okq (⟨"LightSheets$Asks", "markOfPlain", "(LLightSheets$Page;I)I"⟩, 2) := ⟨⟨by decide +kernel, by decide +kernel⟩, List.mem_of_getElem? (i := 141) (by decide +kernel), List.mem_of_getElem? (i := 729) (by decide +kernel), List.mem_of_getElem? (i := 730) (by decide +kernel)⟩
theorem lw_p27 : lw_okq (⟨"LightSheets$Asks", "markOfAny", "(I)I"⟩, 2) := ⟨⟨by decide +kernel, by decide +kernel⟩, List.mem_of_getElem? (i := 141) (by decide +kernel), List.mem_of_getElem? (i := 733) (by decide +kernel), List.mem_of_getElem? (i := 734) (by decide +kernel)⟩
theorem lw_p28 : lw_okq (⟨"LightSheets$Asks", "markOfMark", "(LLightSheets$Page;I)I"⟩, 2) := ⟨⟨by decide +kernel, by decide +kernel⟩, List.mem_of_getElem? (i := 141) (by decide +kernel), List.mem_of_getElem? (i := 737) (by decide +kernel), List.mem_of_getElem? (i := 738) (by decide +kernel)⟩
theorem lw_p29 : lw_okq (⟨"LightSheets", "rowsThere", "()I"⟩, 7) := ⟨⟨by decide +kernel, by decide +kernel⟩, List.mem_of_getElem? (i := 17) (by decide +kernel), List.mem_of_getElem? (i := 755) (by decide +kernel), List.mem_of_getElem? (i := 756) (by decide +kernel)⟩
theorem lw_p30 : lw_okq (⟨"LightSheetsModel", "finding", "(I)I"⟩, 25) := ⟨⟨by decide +kernel, by decide +kernel⟩, List.mem_of_getElem? (i := 768) (by decide +kernel), List.mem_of_getElem? (i := 864) (by decide +kernel), List.mem_of_getElem? (i := 865) (by decide +kernel)⟩
theorem lw_p31 : lw_okq (⟨"LightSheetsModel", "begin", "()V"⟩, 25) := ⟨⟨by decide +kernel, by decide +kernel⟩, List.mem_of_getElem? (i := 768) (by decide +kernel), List.mem_of_getElem? (i := 892) (by decide +kernel), List.mem_of_getElem? (i := 893) (by decide +kernel)⟩
def lw_privs_2 : List (MethodName × Nat) := [(⟨"LightSheets", "answerOfReading", "(II)I"⟩, 7), (⟨"LightSheets$Page", "offOf", "(II)I"⟩, 8), (⟨"LightSheets", "cellsOrReading", "(II)I"⟩, 7), (⟨"LightSheets", "refusalOfLetters", "(LLightSheets$Row;)I"⟩, 7), (⟨"LightSheets$Page", "readOf", "(II)I"⟩, 8), (⟨"LightSheets", "imageOf", "(I)LLightSheets$Page;"⟩, 7), (⟨"LightSheets$Asks", "sizeOfMark", "(LLightSheets$Page;I)I"⟩, 2), (⟨"LightSheets$Asks", "begin", "(I)V"⟩, 2), (⟨"LightSheets$Asks", "sizeOfAny", "(LLightSheets$Page;I)I"⟩, 2), (⟨"LightSheets$Asks", "sizeOfPlain", "(LLightSheets$Page;I)I"⟩, 2), (⟨"LightSheets$Asks", "markOfPlain", "(LLightSheets$Page;I)I"⟩, 2), (⟨"LightSheets$Asks", "markOfAny", "(I)I"⟩, 2), (⟨"LightSheets$Asks", "markOfMark", "(LLightSheets$Page;I)I"⟩, 2), (⟨"LightSheets", "rowsThere", "()I"⟩, 7), (⟨"LightSheetsModel", "finding", "(I)I"⟩, 25), (⟨"LightSheetsModel", "begin", "()V"⟩, 25)]
theorem lw_r2 : ∀ q ∈ lw_privs_2, lw_okq q := List.forall_mem_cons.mpr ⟨lw_p16, List.forall_mem_cons.mpr ⟨lw_p17, List.forall_mem_cons.mpr ⟨lw_p18, List.forall_mem_cons.mpr ⟨lw_p19, List.forall_mem_cons.mpr ⟨lw_p20, List.forall_mem_cons.mpr ⟨lw_p21, List.forall_mem_cons.mpr ⟨lw_p22, List.forall_mem_cons.mpr ⟨lw_p23, List.forall_mem_cons.mpr ⟨lw_p24, List.forall_mem_cons.mpr ⟨lw_p25, List.forall_mem_cons.mpr ⟨lw_p26, List.forall_mem_cons.mpr ⟨lw_p27, List.forall_mem_cons.mpr ⟨lw_p28, List.forall_mem_cons.mpr ⟨lw_p29, List.forall_mem_cons.mpr ⟨lw_p30, List.forall_mem_cons.mpr ⟨lw_p31, fun _ h => absurd h List.not_mem_nil⟩⟩⟩⟩⟩⟩⟩⟩⟩⟩⟩⟩⟩⟩⟩⟩
theorem lw_p32 : lw_okq (⟨"LightSheetsModel", "next", "()V"⟩, 25) := ⟨⟨by decide +kernel, by decide +kernel⟩, List.mem_of_getElem? (i := 768) (by decide +kernel), List.mem_of_getElem? (i := 896) (by decide +kernel), List.mem_of_getElem? (i := 897) (by decide +kernel)⟩
theorem lw_p33 : lw_okq (⟨"LightSheetsModel", "byteAt", "(I)I"⟩, 25) := ⟨⟨by decide +kernel, by decide +kernel⟩, List.mem_of_getElem? (i := 768) (by decide +kernel), List.mem_of_getElem? (i := 900) (by decide +kernel), List.mem_of_getElem? (i := 901) (by decide +kernel)⟩
theorem lw_p34 : lw_okq (⟨"LightSheetsModel", "name", "()J"⟩, 25) := ⟨⟨by decide +kernel, by decide +kernel⟩, List.mem_of_getElem? (i := 768) (by decide +kernel), List.mem_of_getElem? (i := 911) (by decide +kernel), List.mem_of_getElem? (i := 912) (by decide +kernel)⟩
theorem lw_p35 : lw_okq (⟨"LightSheetsModel", "must", "(Z)V"⟩, 25) := ⟨⟨by decide +kernel, by decide +kernel⟩, List.mem_of_getElem? (i := 768) (by decide +kernel), List.mem_of_getElem? (i := 916) (by decide +kernel), List.mem_of_getElem? (i := 917) (by decide +kernel)⟩
theorem lw_p36 : lw_okq (⟨"LightSheetsModel", "bad", "(I)V"⟩, 25) := ⟨⟨by decide +kernel, by decide +kernel⟩, List.mem_of_getElem? (i := 768) (by decide +kernel), List.mem_of_getElem? (i := 920) (by decide +kernel), List.mem_of_getElem? (i := 921) (by decide +kernel)⟩
theorem lw_p37 : lw_okq (⟨"LightSheetsModel", "number", "(II)I"⟩, 25) := ⟨⟨by decide +kernel, by decide +kernel⟩, List.mem_of_getElem? (i := 768) (by decide +kernel), List.mem_of_getElem? (i := 924) (by decide +kernel), List.mem_of_getElem? (i := 925) (by decide +kernel)⟩
theorem lw_p38 : lw_okq (⟨"LightSheetsModel", "figures", "()I"⟩, 25) := ⟨⟨by decide +kernel, by decide +kernel⟩, List.mem_of_getElem? (i := 768) (by decide +kernel), List.mem_of_getElem? (i := 928) (by decide +kernel), List.mem_of_getElem? (i := 929) (by decide +kernel)⟩
theorem lw_p39 : lw_okq (⟨"LightSheetsModel", "mustEnd", "()V"⟩, 25) := ⟨⟨by decide +kernel, by decide +kernel⟩, List.mem_of_getElem? (i := 768) (by decide +kernel), List.mem_of_getElem? (i := 932) (by decide +kernel), List.mem_of_getElem? (i := 933) (by decide +kernel)⟩
theorem lw_p40 : lw_okq (⟨"LightSheetsModel", "readLetter", "()V"⟩, 25) := ⟨⟨by decide +kernel, by decide +kernel⟩, List.mem_of_getElem? (i := 768) (by decide +kernel), List.mem_of_getElem? (i := 937) (by decide +kernel), List.mem_of_getElem? (i := 938) (by decide +kernel)⟩
theorem lw_p41 : lw_okq (⟨"LightSheetsModel", "readSheet", "()V"⟩, 25) := ⟨⟨by decide +kernel, by decide +kernel⟩, List.mem_of_getElem? (i := 768) (by decide +kernel), List.mem_of_getElem? (i := 949) (by decide +kernel), List.mem_of_getElem? (i := 950) (by decide +kernel)⟩
theorem lw_p42 : lw_okq (⟨"LightSheetsModel", "readFront", "()V"⟩, 25) := ⟨⟨by decide +kernel, by decide +kernel⟩, List.mem_of_getElem? (i := 768) (by decide +kernel), List.mem_of_getElem? (i := 954) (by decide +kernel), List.mem_of_getElem? (i := 955) (by decide +kernel)⟩
theorem lw_p43 : lw_okq (⟨"LightSheetsModel", "isPlace", "(I)Z"⟩, 25) := ⟨⟨by decide +kernel, by decide +kernel⟩, List.mem_of_getElem? (i := 768) (by decide +kernel), List.mem_of_getElem? (i := 970) (by decide +kernel), List.mem_of_getElem? (i := 971) (by decide +kernel)⟩
theorem lw_p44 : lw_okq (⟨"LightSheetsModel", "isOne", "(I)Z"⟩, 25) := ⟨⟨by decide +kernel, by decide +kernel⟩, List.mem_of_getElem? (i := 768) (by decide +kernel), List.mem_of_getElem? (i := 974) (by decide +kernel), List.mem_of_getElem? (i := 975) (by decide +kernel)⟩
theorem lw_p45 : lw_okq (⟨"LightSheetsModel", "keep", "()V"⟩, 25) := ⟨⟨by decide +kernel, by decide +kernel⟩, List.mem_of_getElem? (i := 768) (by decide +kernel), List.mem_of_getElem? (i := 978) (by decide +kernel), List.mem_of_getElem? (i := 979) (by decide +kernel)⟩
theorem lw_p46 : lw_okq (⟨"LightSheetsModel", "on", "(II)I"⟩, 25) := ⟨⟨by decide +kernel, by decide +kernel⟩, List.mem_of_getElem? (i := 768) (by decide +kernel), List.mem_of_getElem? (i := 982) (by decide +kernel), List.mem_of_getElem? (i := 983) (by decide +kernel)⟩
theorem lw_p47 : lw_okq (⟨"LightSheetsModel", "isThere", "()Z"⟩, 25) := ⟨⟨by decide +kernel, by decide +kernel⟩, List.mem_of_getElem? (i := 768) (by decide +kernel), List.mem_of_getElem? (i := 990) (by decide +kernel), List.mem_of_getElem? (i := 991) (by decide +kernel)⟩
def lw_privs_3 : List (MethodName × Nat) := [(⟨"LightSheetsModel", "next", "()V"⟩, 25), (⟨"LightSheetsModel", "byteAt", "(I)I"⟩, 25), (⟨"LightSheetsModel", "name", "()J"⟩, 25), (⟨"LightSheetsModel", "must", "(Z)V"⟩, 25), (⟨"LightSheetsModel", "bad", "(I)V"⟩, 25), (⟨"LightSheetsModel", "number", "(II)I"⟩, 25), (⟨"LightSheetsModel", "figures", "()I"⟩, 25), (⟨"LightSheetsModel", "mustEnd", "()V"⟩, 25), (⟨"LightSheetsModel", "readLetter", "()V"⟩, 25), (⟨"LightSheetsModel", "readSheet", "()V"⟩, 25), (⟨"LightSheetsModel", "readFront", "()V"⟩, 25), (⟨"LightSheetsModel", "isPlace", "(I)Z"⟩, 25), (⟨"LightSheetsModel", "isOne", "(I)Z"⟩, 25), (⟨"LightSheetsModel", "keep", "()V"⟩, 25), (⟨"LightSheetsModel", "on", "(II)I"⟩, 25), (⟨"LightSheetsModel", "isThere", "()Z"⟩, 25)]
theorem lw_r3 : ∀ q ∈ lw_privs_3, lw_okq q := List.forall_mem_cons.mpr ⟨lw_p32, List.forall_mem_cons.mpr ⟨lw_p33, List.forall_mem_cons.mpr ⟨lw_p34, List.forall_mem_cons.mpr ⟨lw_p35, List.forall_mem_cons.mpr ⟨lw_p36, List.forall_mem_cons.mpr ⟨lw_p37, List.forall_mem_cons.mpr ⟨lw_p38, List.forall_mem_cons.mpr ⟨lw_p39, List.forall_mem_cons.mpr ⟨lw_p40, List.forall_mem_cons.mpr ⟨lw_p41, List.forall_mem_cons.mpr ⟨lw_p42, List.forall_mem_cons.mpr ⟨lw_p43, List.forall_mem_cons.mpr ⟨lw_p44, List.forall_mem_cons.mpr ⟨lw_p45, List.forall_mem_cons.mpr ⟨lw_p46, List.forall_mem_cons.mpr ⟨lw_p47, fun _ h => absurd h List.not_mem_nil⟩⟩⟩⟩⟩⟩⟩⟩⟩⟩⟩⟩⟩⟩⟩⟩
theorem lw_p48 : lw_okq (⟨"LightSheetsModel", "cellsOf", "(I)I"⟩, 25) := ⟨⟨by decide +kernel, by decide +kernel⟩, List.mem_of_getElem? (i := 768) (by decide +kernel), List.mem_of_getElem? (i := 1007) (by decide +kernel), List.mem_of_getElem? (i := 1008) (by decide +kernel)⟩
theorem lw_p49 : lw_okq (⟨"LightSheetsModel", "throughOf", "(I)I"⟩, 25) := ⟨⟨by decide +kernel, by decide +kernel⟩, List.mem_of_getElem? (i := 768) (by decide +kernel), List.mem_of_getElem? (i := 1014) (by decide +kernel), List.mem_of_getElem? (i := 1015) (by decide +kernel)⟩
theorem lw_p50 : lw_okq (⟨"LightSheetsModel", "kindOf", "(I)I"⟩, 25) := ⟨⟨by decide +kernel, by decide +kernel⟩, List.mem_of_getElem? (i := 768) (by decide +kernel), List.mem_of_getElem? (i := 1018) (by decide +kernel), List.mem_of_getElem? (i := 1019) (by decide +kernel)⟩
theorem lw_p51 : lw_okq (⟨"LightSheetsModel", "behindOf", "(II)I"⟩, 25) := ⟨⟨by decide +kernel, by decide +kernel⟩, List.mem_of_getElem? (i := 768) (by decide +kernel), List.mem_of_getElem? (i := 1027) (by decide +kernel), List.mem_of_getElem? (i := 1028) (by decide +kernel)⟩
theorem lw_p52 : lw_okq (⟨"LightSheetsModel", "readOf", "(I)I"⟩, 25) := ⟨⟨by decide +kernel, by decide +kernel⟩, List.mem_of_getElem? (i := 768) (by decide +kernel), List.mem_of_getElem? (i := 1031) (by decide +kernel), List.mem_of_getElem? (i := 1032) (by decide +kernel)⟩
theorem lw_p53 : lw_okq (⟨"LightSheetsModel", "barred", "(IZ)I"⟩, 25) := ⟨⟨by decide +kernel, by decide +kernel⟩, List.mem_of_getElem? (i := 768) (by decide +kernel), List.mem_of_getElem? (i := 1052) (by decide +kernel), List.mem_of_getElem? (i := 1053) (by decide +kernel)⟩
theorem lw_p54 : lw_okq (⟨"LightSheetsModel", "hasLetters", "(I)Z"⟩, 25) := ⟨⟨by decide +kernel, by decide +kernel⟩, List.mem_of_getElem? (i := 768) (by decide +kernel), List.mem_of_getElem? (i := 1056) (by decide +kernel), List.mem_of_getElem? (i := 1057) (by decide +kernel)⟩
theorem lw_p55 : lw_okq (⟨"LightSheetsModel", "behindBy", "(II)I"⟩, 25) := ⟨⟨by decide +kernel, by decide +kernel⟩, List.mem_of_getElem? (i := 768) (by decide +kernel), List.mem_of_getElem? (i := 1060) (by decide +kernel), List.mem_of_getElem? (i := 1061) (by decide +kernel)⟩
theorem lw_p56 : lw_okq (⟨"LightSheetsModel", "readBy", "(II)I"⟩, 25) := ⟨⟨by decide +kernel, by decide +kernel⟩, List.mem_of_getElem? (i := 768) (by decide +kernel), List.mem_of_getElem? (i := 1064) (by decide +kernel), List.mem_of_getElem? (i := 1065) (by decide +kernel)⟩
theorem lw_p57 : lw_okq (⟨"LightSheetsModel", "anewAt", "(II)I"⟩, 25) := ⟨⟨by decide +kernel, by decide +kernel⟩, List.mem_of_getElem? (i := 768) (by decide +kernel), List.mem_of_getElem? (i := 1076) (by decide +kernel), List.mem_of_getElem? (i := 1077) (by decide +kernel)⟩
theorem lw_p58 : lw_okq (⟨"LightSheetsModel", "harmOf", "(I)I"⟩, 25) := ⟨⟨by decide +kernel, by decide +kernel⟩, List.mem_of_getElem? (i := 768) (by decide +kernel), List.mem_of_getElem? (i := 1088) (by decide +kernel), List.mem_of_getElem? (i := 1089) (by decide +kernel)⟩
theorem lw_p59 : lw_okq (⟨"LightSheetsModel", "sizeOf", "(I)I"⟩, 25) := ⟨⟨by decide +kernel, by decide +kernel⟩, List.mem_of_getElem? (i := 768) (by decide +kernel), List.mem_of_getElem? (i := 1128) (by decide +kernel), List.mem_of_getElem? (i := 1129) (by decide +kernel)⟩
theorem lw_p60 : lw_okq (⟨"LightSheetsModel", "markSize", "(I)I"⟩, 25) := ⟨⟨by decide +kernel, by decide +kernel⟩, List.mem_of_getElem? (i := 768) (by decide +kernel), List.mem_of_getElem? (i := 1132) (by decide +kernel), List.mem_of_getElem? (i := 1133) (by decide +kernel)⟩
theorem lw_p61 : lw_okq (⟨"LightSheetsModel", "began", "(I)V"⟩, 25) := ⟨⟨by decide +kernel, by decide +kernel⟩, List.mem_of_getElem? (i := 768) (by decide +kernel), List.mem_of_getElem? (i := 1136) (by decide +kernel), List.mem_of_getElem? (i := 1137) (by decide +kernel)⟩
theorem lw_p62 : lw_okq (⟨"LightSheetsModel", "plainSize", "(I)I"⟩, 25) := ⟨⟨by decide +kernel, by decide +kernel⟩, List.mem_of_getElem? (i := 768) (by decide +kernel), List.mem_of_getElem? (i := 1140) (by decide +kernel), List.mem_of_getElem? (i := 1141) (by decide +kernel)⟩
theorem lw_p63 : lw_okq (⟨"LightSheetsModel", "markOf", "(I)I"⟩, 25) := ⟨⟨by decide +kernel, by decide +kernel⟩, List.mem_of_getElem? (i := 768) (by decide +kernel), List.mem_of_getElem? (i := 1144) (by decide +kernel), List.mem_of_getElem? (i := 1145) (by decide +kernel)⟩
def lw_privs_4 : List (MethodName × Nat) := [(⟨"LightSheetsModel", "cellsOf", "(I)I"⟩, 25), (⟨"LightSheetsModel", "throughOf", "(I)I"⟩, 25), (⟨"LightSheetsModel", "kindOf", "(I)I"⟩, 25), (⟨"LightSheetsModel", "behindOf", "(II)I"⟩, 25), (⟨"LightSheetsModel", "readOf", "(I)I"⟩, 25), (⟨"LightSheetsModel", "barred", "(IZ)I"⟩, 25), (⟨"LightSheetsModel", "hasLetters", "(I)Z"⟩, 25), (⟨"LightSheetsModel", "behindBy", "(II)I"⟩, 25), (⟨"LightSheetsModel", "readBy", "(II)I"⟩, 25), (⟨"LightSheetsModel", "anewAt", "(II)I"⟩, 25), (⟨"LightSheetsModel", "harmOf", "(I)I"⟩, 25), (⟨"LightSheetsModel", "sizeOf", "(I)I"⟩, 25), (⟨"LightSheetsModel", "markSize", "(I)I"⟩, 25), (⟨"LightSheetsModel", "began", "(I)V"⟩, 25), (⟨"LightSheetsModel", "plainSize", "(I)I"⟩, 25), (⟨"LightSheetsModel", "markOf", "(I)I"⟩, 25)]
theorem lw_r4 : ∀ q ∈ lw_privs_4, lw_okq q := List.forall_mem_cons.mpr ⟨lw_p48, List.forall_mem_cons.mpr ⟨lw_p49, List.forall_mem_cons.mpr ⟨lw_p50, List.forall_mem_cons.mpr ⟨lw_p51, List.forall_mem_cons.mpr ⟨lw_p52, List.forall_mem_cons.mpr ⟨lw_p53, List.forall_mem_cons.mpr ⟨lw_p54, List.forall_mem_cons.mpr ⟨lw_p55, List.forall_mem_cons.mpr ⟨lw_p56, List.forall_mem_cons.mpr ⟨lw_p57, List.forall_mem_cons.mpr ⟨lw_p58, List.forall_mem_cons.mpr ⟨lw_p59, List.forall_mem_cons.mpr ⟨lw_p60, List.forall_mem_cons.mpr ⟨lw_p61, List.forall_mem_cons.mpr ⟨lw_p62, List.forall_mem_cons.mpr ⟨lw_p63, fun _ h => absurd h List.not_mem_nil⟩⟩⟩⟩⟩⟩⟩⟩⟩⟩⟩⟩⟩⟩⟩⟩
def lw_privs : List (MethodName × Nat) := lw_privs_1 ++ (lw_privs_2 ++ (lw_privs_3 ++ (lw_privs_4)))
def lw_tbl : List Cond := k2_sels lw_privs ++ tables_1
theorem lw_privs_ok : ∀ q ∈ lw_privs, lw_okq q := by
  show ∀ q ∈ lw_privs_1 ++ (lw_privs_2 ++ (lw_privs_3 ++ (lw_privs_4))), lw_okq q
  exact List.forall_mem_append.mpr ⟨lw_r1, List.forall_mem_append.mpr ⟨lw_r2, List.forall_mem_append.mpr ⟨lw_r3, lw_r4⟩⟩⟩

def RX0 : String := "LightSheets$Acts"
def TX0 : u_T := fun k => match k with
  | 0 => ("LightSheets$Acts", "sides", "[I", true)
  | 1 => ("LightSheets$Acts", "places", "[I", true)
  | 2 => ("LightSheets$Acts", "letters", "[I", true)
  | 3 => ("LightSheets$Acts", "latest", "I", false)
  | _ => ("LightSheets$Acts", "kept", "I", false)
def tyX0 : Nat → FieldType := fun k => match k with
  | 0 => .array .int
  | 1 => .array .int
  | 2 => .array .int
  | 3 => .int
  | _ => .int
abbrev wsX00 : List Cond := u_ws RX0 TX0 5
theorem nmX0 : ∀ a, a < 5 → ∀ b, b < 5 → a ≠ b → (TX0 a).2.1 ≠ (TX0 b).2.1 := by decide +kernel
theorem tyX0_ok : ∀ k, k < 5 → parseFieldDescriptor (TX0 k).2.2.1 = some (tyX0 k) := by decide +kernel
abbrev cX0_init : ByteArray := prog_2_method_1_code
def yX0_init : MethodName := ⟨RX0, "<init>", "()V"⟩
abbrev cX0_keep : ByteArray := prog_2_method_2_code
def yX0_keep : MethodName := ⟨RX0, "keep", "(III)V"⟩
abbrev cX0_latestSide : ByteArray := prog_2_method_3_code
def yX0_latestSide : MethodName := ⟨RX0, "latestSide", "()I"⟩
abbrev cX0_latestPlace : ByteArray := prog_2_method_4_code
def yX0_latestPlace : MethodName := ⟨RX0, "latestPlace", "()I"⟩
abbrev cX0_latestLetter : ByteArray := prog_2_method_5_code
def yX0_latestLetter : MethodName := ⟨RX0, "latestLetter", "()I"⟩
abbrev cX0_forgetLatest : ByteArray := prog_2_method_6_code
def yX0_forgetLatest : MethodName := ⟨RX0, "forgetLatest", "()V"⟩
abbrev cX0_forgetAll : ByteArray := prog_2_method_7_code
def yX0_forgetAll : MethodName := ⟨RX0, "forgetAll", "()V"⟩
def RX1 : String := "LightSheets$Asks"
def TX1 : u_T := fun k => match k with
  | 0 => ("LightSheets$Asks", "begun", "[I", true)
  | _ => ("LightSheets$Asks", "length", "I", false)
def tyX1 : Nat → FieldType := fun k => match k with
  | 0 => .array .int
  | _ => .int
abbrev wsX10 : List Cond := u_ws RX1 TX1 2
theorem nmX1 : ∀ a, a < 2 → ∀ b, b < 2 → a ≠ b → (TX1 a).2.1 ≠ (TX1 b).2.1 := by decide +kernel
theorem tyX1_ok : ∀ k, k < 2 → parseFieldDescriptor (TX1 k).2.2.1 = some (tyX1 k) := by decide +kernel
abbrev cX1_init : ByteArray := prog_3_method_1_code
def yX1_init : MethodName := ⟨RX1, "<init>", "()V"⟩
abbrev cX1_answer : ByteArray := prog_3_method_2_code
def yX1_answer : MethodName := ⟨RX1, "answer", "(LLightSheets$Page;II)I"⟩
abbrev cX1_traced : ByteArray := prog_3_method_3_code
def yX1_traced : MethodName := ⟨RX1, "traced", "(I)I"⟩
abbrev cX1_sizeOfAny : ByteArray := prog_3_method_4_code
def yX1_sizeOfAny : MethodName := ⟨RX1, "sizeOfAny", "(LLightSheets$Page;I)I"⟩
abbrev cX1_sizeOfPlain : ByteArray := prog_3_method_5_code
def yX1_sizeOfPlain : MethodName := ⟨RX1, "sizeOfPlain", "(LLightSheets$Page;I)I"⟩
abbrev cX1_sizeOfMark : ByteArray := prog_3_method_6_code
def yX1_sizeOfMark : MethodName := ⟨RX1, "sizeOfMark", "(LLightSheets$Page;I)I"⟩
abbrev cX1_markOfAny : ByteArray := prog_3_method_7_code
def yX1_markOfAny : MethodName := ⟨RX1, "markOfAny", "(I)I"⟩
abbrev cX1_markOfPlain : ByteArray := prog_3_method_8_code
def yX1_markOfPlain : MethodName := ⟨RX1, "markOfPlain", "(LLightSheets$Page;I)I"⟩
abbrev cX1_markOfMark : ByteArray := prog_3_method_9_code
def yX1_markOfMark : MethodName := ⟨RX1, "markOfMark", "(LLightSheets$Page;I)I"⟩
abbrev cX1_begin : ByteArray := prog_3_method_10_code
def yX1_begin : MethodName := ⟨RX1, "begin", "(I)V"⟩
def RX2 : String := "LightSheets$Page"
def TX2 : u_T := fun k => match k with
  | 0 => ("LightSheets$Page", "damp", "I", false)
  | 1 => ("LightSheets$Page", "letters", "I", false)
  | 2 => ("LightSheets$Page", "places", "I", false)
  | 3 => ("LightSheets$Page", "cells", "[I", true)
  | 4 => ("LightSheets$Page", "kinds", "[I", true)
  | 5 => ("LightSheets$Page", "through", "[I", true)
  | 6 => ("LightSheets$Page", "front", "[I", true)
  | _ => ("LightSheets$Page", "back", "[I", true)
def tyX2 : Nat → FieldType := fun k => match k with
  | 0 => .int
  | 1 => .int
  | 2 => .int
  | 3 => .array .int
  | 4 => .array .int
  | 5 => .array .int
  | 6 => .array .int
  | _ => .array .int
abbrev wsX20 : List Cond := u_ws RX2 TX2 8
theorem nmX2 : ∀ a, a < 8 → ∀ b, b < 8 → a ≠ b → (TX2 a).2.1 ≠ (TX2 b).2.1 := by decide +kernel
theorem tyX2_ok : ∀ k, k < 8 → parseFieldDescriptor (TX2 k).2.2.1 = some (tyX2 k) := by decide +kernel
abbrev cX2_init : ByteArray := prog_4_method_1_code
def yX2_init : MethodName := ⟨RX2, "<init>", "()V"⟩
abbrev cX2_isThere : ByteArray := prog_4_method_2_code
def yX2_isThere : MethodName := ⟨RX2, "isThere", "()Z"⟩
abbrev cX2_hasLetter : ByteArray := prog_4_method_3_code
def yX2_hasLetter : MethodName := ⟨RX2, "hasLetter", "(I)Z"⟩
abbrev cX2_hasPlace : ByteArray := prog_4_method_4_code
def yX2_hasPlace : MethodName := ⟨RX2, "hasPlace", "(II)Z"⟩
abbrev cX2_makeEmpty : ByteArray := prog_4_method_5_code
def yX2_makeEmpty : MethodName := ⟨RX2, "makeEmpty", "()V"⟩
abbrev cX2_takeAll : ByteArray := prog_4_method_6_code
def yX2_takeAll : MethodName := ⟨RX2, "takeAll", "(LLightSheets$Page;)V"⟩
abbrev cX2_addLetter : ByteArray := prog_4_method_7_code
def yX2_addLetter : MethodName := ⟨RX2, "addLetter", "(II)V"⟩
abbrev cX2_addPlace : ByteArray := prog_4_method_8_code
def yX2_addPlace : MethodName := ⟨RX2, "addPlace", "(I)V"⟩
abbrev cX2_putLetter : ByteArray := prog_4_method_9_code
def yX2_putLetter : MethodName := ⟨RX2, "putLetter", "(III)V"⟩
abbrev cX2_turnOver : ByteArray := prog_4_method_10_code
def yX2_turnOver : MethodName := ⟨RX2, "turnOver", "()V"⟩
abbrev cX2_cellsOf : ByteArray := prog_4_method_11_code
def yX2_cellsOf : MethodName := ⟨RX2, "cellsOf", "(I)I"⟩
abbrev cX2_kindOf : ByteArray := prog_4_method_12_code
def yX2_kindOf : MethodName := ⟨RX2, "kindOf", "(I)I"⟩
abbrev cX2_throughOf : ByteArray := prog_4_method_13_code
def yX2_throughOf : MethodName := ⟨RX2, "throughOf", "(I)I"⟩
abbrev cX2_letterAt : ByteArray := prog_4_method_14_code
def yX2_letterAt : MethodName := ⟨RX2, "letterAt", "(II)I"⟩
abbrev cX2_letterBehind : ByteArray := prog_4_method_15_code
def yX2_letterBehind : MethodName := ⟨RX2, "letterBehind", "(II)I"⟩
abbrev cX2_shownByLight : ByteArray := prog_4_method_16_code
def yX2_shownByLight : MethodName := ⟨RX2, "shownByLight", "(II)I"⟩
abbrev cX2_shownByDamp : ByteArray := prog_4_method_17_code
def yX2_shownByDamp : MethodName := ⟨RX2, "shownByDamp", "(III)I"⟩
abbrev cX2_nearest : ByteArray := prog_4_method_18_code
def yX2_nearest : MethodName := ⟨RX2, "nearest", "(I)I"⟩
abbrev cX2_leastOff : ByteArray := prog_4_method_19_code
def yX2_leastOff : MethodName := ⟨RX2, "leastOff", "(I)I"⟩
abbrev cX2_isDoubt : ByteArray := prog_4_method_20_code
def yX2_isDoubt : MethodName := ⟨RX2, "isDoubt", "(I)Z"⟩
abbrev cX2_behindFor : ByteArray := prog_4_method_21_code
def yX2_behindFor : MethodName := ⟨RX2, "behindFor", "(II)I"⟩
abbrev cX2_behindToRead : ByteArray := prog_4_method_22_code
def yX2_behindToRead : MethodName := ⟨RX2, "behindToRead", "(II)I"⟩
abbrev cX2_fitting : ByteArray := prog_4_method_23_code
def yX2_fitting : MethodName := ⟨RX2, "fitting", "(II)I"⟩
abbrev cX2_fewestAnew : ByteArray := prog_4_method_24_code
def yX2_fewestAnew : MethodName := ⟨RX2, "fewestAnew", "(II)I"⟩
abbrev cX2_canBeABack : ByteArray := prog_4_method_25_code
def yX2_canBeABack : MethodName := ⟨RX2, "canBeABack", "(LLightSheets$Row;)Z"⟩
abbrev cX2_harmOf : ByteArray := prog_4_method_26_code
def yX2_harmOf : MethodName := ⟨RX2, "harmOf", "(LLightSheets$Row;)I"⟩
abbrev cX2_placesLeftAsTheyStand : ByteArray := prog_4_method_27_code
def yX2_placesLeftAsTheyStand : MethodName := ⟨RX2, "placesLeftAsTheyStand", "()I"⟩
abbrev cX2_readOf : ByteArray := prog_4_method_28_code
def yX2_readOf : MethodName := ⟨RX2, "readOf", "(II)I"⟩
abbrev cX2_shownOf : ByteArray := prog_4_method_29_code
def yX2_shownOf : MethodName := ⟨RX2, "shownOf", "(II)I"⟩
abbrev cX2_offOf : ByteArray := prog_4_method_30_code
def yX2_offOf : MethodName := ⟨RX2, "offOf", "(II)I"⟩
abbrev cX2_throughFor : ByteArray := prog_4_method_31_code
def yX2_throughFor : MethodName := ⟨RX2, "throughFor", "(II)I"⟩
def RX3 : String := "LightSheets$PageReader"
def TX3 : u_T := fun k => match k with
  | 0 => ("LightSheets$PageReader", "tape", "LLightSheets$Tape;", true)
  | 1 => ("LightSheets$PageReader", "draft", "LLightSheets$Page;", true)
  | 2 => ("LightSheets$PageReader", "faultNumber", "I", false)
  | 3 => ("LightSheets$PageReader", "faultPlace", "I", false)
  | _ => ("LightSheets$PageReader", "taken", "I", false)
def tyX3 : Nat → FieldType := fun k => match k with
  | 0 => .object "LightSheets$Tape"
  | 1 => .object "LightSheets$Page"
  | 2 => .int
  | 3 => .int
  | _ => .int
abbrev wsX30 : List Cond := u_ws RX3 TX3 5
theorem nmX3 : ∀ a, a < 5 → ∀ b, b < 5 → a ≠ b → (TX3 a).2.1 ≠ (TX3 b).2.1 := by decide +kernel
theorem tyX3_ok : ∀ k, k < 5 → parseFieldDescriptor (TX3 k).2.2.1 = some (tyX3 k) := by decide +kernel
abbrev cX3_init : ByteArray := prog_5_method_1_code
def yX3_init : MethodName := ⟨RX3, "<init>", "()V"⟩
abbrev cX3_readsPage : ByteArray := prog_5_method_2_code
def yX3_readsPage : MethodName := ⟨RX3, "readsPage", "()Z"⟩
abbrev cX3_readsLaw : ByteArray := prog_5_method_3_code
def yX3_readsLaw : MethodName := ⟨RX3, "readsLaw", "()Z"⟩
abbrev cX3_readsLetters : ByteArray := prog_5_method_4_code
def yX3_readsLetters : MethodName := ⟨RX3, "readsLetters", "()Z"⟩
abbrev cX3_readsLetter : ByteArray := prog_5_method_5_code
def yX3_readsLetter : MethodName := ⟨RX3, "readsLetter", "()Z"⟩
abbrev cX3_sortTold : ByteArray := prog_5_method_6_code
def yX3_sortTold : MethodName := ⟨RX3, "sortTold", "()I"⟩
abbrev cX3_readsSheet : ByteArray := prog_5_method_7_code
def yX3_readsSheet : MethodName := ⟨RX3, "readsSheet", "()Z"⟩
abbrev cX3_readsFront : ByteArray := prog_5_method_8_code
def yX3_readsFront : MethodName := ⟨RX3, "readsFront", "()Z"⟩
abbrev cX3_readsBack : ByteArray := prog_5_method_9_code
def yX3_readsBack : MethodName := ⟨RX3, "readsBack", "()Z"⟩
abbrev cX3_readsEnd : ByteArray := prog_5_method_10_code
def yX3_readsEnd : MethodName := ⟨RX3, "readsEnd", "()Z"⟩
abbrev cX3_takesWord : ByteArray := prog_5_method_11_code
def yX3_takesWord : MethodName := ⟨RX3, "takesWord", "(Ljava/lang/String;)Z"⟩
abbrev cX3_takesSign : ByteArray := prog_5_method_12_code
def yX3_takesSign : MethodName := ⟨RX3, "takesSign", "(I)Z"⟩
abbrev cX3_takesNumber : ByteArray := prog_5_method_13_code
def yX3_takesNumber : MethodName := ⟨RX3, "takesNumber", "(I)Z"⟩
abbrev cX3_fails : ByteArray := prog_5_method_14_code
def yX3_fails : MethodName := ⟨RX3, "fails", "(I)Z"⟩
def RX4 : String := "LightSheets$Row"
def TX4 : u_T := fun k => match k with
  | 0 => ("LightSheets$Row", "items", "[I", true)
  | 1 => ("LightSheets$Row", "lane", "I", false)
  | _ => ("LightSheets$Row", "length", "I", false)
def tyX4 : Nat → FieldType := fun k => match k with
  | 0 => .array .int
  | 1 => .int
  | _ => .int
abbrev wsX40 : List Cond := u_ws RX4 TX4 3
theorem nmX4 : ∀ a, a < 3 → ∀ b, b < 3 → a ≠ b → (TX4 a).2.1 ≠ (TX4 b).2.1 := by decide +kernel
theorem tyX4_ok : ∀ k, k < 3 → parseFieldDescriptor (TX4 k).2.2.1 = some (tyX4 k) := by decide +kernel
abbrev cX4_init : ByteArray := prog_6_method_1_code
def yX4_init : MethodName := ⟨RX4, "<init>", "()V"⟩
abbrev cX4_isMissing : ByteArray := prog_6_method_2_code
def yX4_isMissing : MethodName := ⟨RX4, "isMissing", "()Z"⟩
abbrev cX4_make : ByteArray := prog_6_method_3_code
def yX4_make : MethodName := ⟨RX4, "make", "(II)V"⟩
abbrev cX4_makeMissing : ByteArray := prog_6_method_4_code
def yX4_makeMissing : MethodName := ⟨RX4, "makeMissing", "()V"⟩
abbrev cX4_holds : ByteArray := prog_6_method_5_code
def yX4_holds : MethodName := ⟨RX4, "holds", "(II)Z"⟩
abbrev cX4_itemAt : ByteArray := prog_6_method_6_code
def yX4_itemAt : MethodName := ⟨RX4, "itemAt", "(I)I"⟩
abbrev cX4_store : ByteArray := prog_6_method_7_code
def yX4_store : MethodName := ⟨RX4, "store", "(II)V"⟩
abbrev cX4_takeItems : ByteArray := prog_6_method_8_code
def yX4_takeItems : MethodName := ⟨RX4, "takeItems", "(LLightSheets$Row;III)V"⟩
def RX5 : String := "LightSheets$Tape"
def TX5 : u_T := fun k => match k with
  | 0 => ("LightSheets$Tape", "bytes", "[I", true)
  | 1 => ("LightSheets$Tape", "length", "I", false)
  | 2 => ("LightSheets$Tape", "token", "I", false)
  | 3 => ("LightSheets$Tape", "start", "I", false)
  | _ => ("LightSheets$Tape", "next", "I", false)
def tyX5 : Nat → FieldType := fun k => match k with
  | 0 => .array .int
  | 1 => .int
  | 2 => .int
  | 3 => .int
  | _ => .int
abbrev wsX50 : List Cond := u_ws RX5 TX5 5
theorem nmX5 : ∀ a, a < 5 → ∀ b, b < 5 → a ≠ b → (TX5 a).2.1 ≠ (TX5 b).2.1 := by decide +kernel
theorem tyX5_ok : ∀ k, k < 5 → parseFieldDescriptor (TX5 k).2.2.1 = some (tyX5 k) := by decide +kernel
abbrev cX5_init : ByteArray := prog_7_method_1_code
def yX5_init : MethodName := ⟨RX5, "<init>", "()V"⟩
abbrev cX5_append : ByteArray := prog_7_method_2_code
def yX5_append : MethodName := ⟨RX5, "append", "(JI)Z"⟩
abbrev cX5_makeEmpty : ByteArray := prog_7_method_3_code
def yX5_makeEmpty : MethodName := ⟨RX5, "makeEmpty", "()V"⟩
abbrev cX5_rewind : ByteArray := prog_7_method_4_code
def yX5_rewind : MethodName := ⟨RX5, "rewind", "()V"⟩
abbrev cX5_advance : ByteArray := prog_7_method_5_code
def yX5_advance : MethodName := ⟨RX5, "advance", "()V"⟩
abbrev cX5_isWord : ByteArray := prog_7_method_6_code
def yX5_isWord : MethodName := ⟨RX5, "isWord", "(Ljava/lang/String;)Z"⟩
abbrev cX5_numberTold : ByteArray := prog_7_method_7_code
def yX5_numberTold : MethodName := ⟨RX5, "numberTold", "()I"⟩
abbrev cX5_sortOf : ByteArray := prog_7_method_8_code
def yX5_sortOf : MethodName := ⟨RX5, "sortOf", "(I)I"⟩
def RX6 : String := "LightSheets"
def TX6 : u_T := fun k => match k with
  | 0 => ("LightSheets", "rows", "[LLightSheets$Row;", true)
  | 1 => ("LightSheets", "images", "[LLightSheets$Page;", true)
  | 2 => ("LightSheets", "reader", "LLightSheets$PageReader;", true)
  | 3 => ("LightSheets", "page", "LLightSheets$Page;", true)
  | 4 => ("LightSheets", "acts", "LLightSheets$Acts;", true)
  | 5 => ("LightSheets", "asks", "LLightSheets$Asks;", true)
  | _ => ("LightSheets", "finding", "I", false)
def tyX6 : Nat → FieldType := fun k => match k with
  | 0 => .array (.object "LightSheets$Row")
  | 1 => .array (.object "LightSheets$Page")
  | 2 => .object "LightSheets$PageReader"
  | 3 => .object "LightSheets$Page"
  | 4 => .object "LightSheets$Acts"
  | 5 => .object "LightSheets$Asks"
  | _ => .int
abbrev wsX60 : List Cond := u_ws RX6 TX6 7
theorem nmX6 : ∀ a, a < 7 → ∀ b, b < 7 → a ≠ b → (TX6 a).2.1 ≠ (TX6 b).2.1 := by decide +kernel
theorem tyX6_ok : ∀ k, k < 7 → parseFieldDescriptor (TX6 k).2.2.1 = some (tyX6 k) := by decide +kernel
abbrev cX6_init : ByteArray := prog_1_method_1_code
def yX6_init : MethodName := ⟨RX6, "<init>", "()V"⟩
abbrev cX6_row : ByteArray := prog_1_method_2_code
def yX6_row : MethodName := ⟨RX6, "row", "(III)I"⟩
abbrev cX6_set : ByteArray := prog_1_method_3_code
def yX6_set : MethodName := ⟨RX6, "set", "(III)I"⟩
abbrev cX6_copy : ByteArray := prog_1_method_4_code
def yX6_copy : MethodName := ⟨RX6, "copy", "(IIIII)I"⟩
abbrev cX6_drop : ByteArray := prog_1_method_5_code
def yX6_drop : MethodName := ⟨RX6, "drop", "(I)I"⟩
abbrev cX6_feed : ByteArray := prog_1_method_6_code
def yX6_feed : MethodName := ⟨RX6, "feed", "(JI)I"⟩
abbrev cX6_page : ByteArray := prog_1_method_7_code
def yX6_page : MethodName := ⟨RX6, "page", "()I"⟩
abbrev cX6_fault : ByteArray := prog_1_method_8_code
def yX6_fault : MethodName := ⟨RX6, "fault", "()I"⟩
abbrev cX6_write : ByteArray := prog_1_method_9_code
def yX6_write : MethodName := ⟨RX6, "write", "(III)I"⟩
abbrev cX6_turn : ByteArray := prog_1_method_10_code
def yX6_turn : MethodName := ⟨RX6, "turn", "()I"⟩
abbrev cX6_undo : ByteArray := prog_1_method_11_code
def yX6_undo : MethodName := ⟨RX6, "undo", "()I"⟩
abbrev cX6_at : ByteArray := prog_1_method_12_code
def yX6_at : MethodName := ⟨RX6, "at", "(II)I"⟩
abbrev cX6_letter : ByteArray := prog_1_method_13_code
def yX6_letter : MethodName := ⟨RX6, "letter", "(II)I"⟩
abbrev cX6_light : ByteArray := prog_1_method_14_code
def yX6_light : MethodName := ⟨RX6, "light", "(III)I"⟩
abbrev cX6_damp : ByteArray := prog_1_method_15_code
def yX6_damp : MethodName := ⟨RX6, "damp", "(IIII)I"⟩
abbrev cX6_read : ByteArray := prog_1_method_16_code
def yX6_read : MethodName := ⟨RX6, "read", "(II)I"⟩
abbrev cX6_behind : ByteArray := prog_1_method_17_code
def yX6_behind : MethodName := ⟨RX6, "behind", "(II)I"⟩
abbrev cX6_ways : ByteArray := prog_1_method_18_code
def yX6_ways : MethodName := ⟨RX6, "ways", "(I)I"⟩
abbrev cX6_anew : ByteArray := prog_1_method_19_code
def yX6_anew : MethodName := ⟨RX6, "anew", "(I)I"⟩
abbrev cX6_fits : ByteArray := prog_1_method_20_code
def yX6_fits : MethodName := ⟨RX6, "fits", "(II)I"⟩
abbrev cX6_harm : ByteArray := prog_1_method_21_code
def yX6_harm : MethodName := ⟨RX6, "harm", "(I)I"⟩
abbrev cX6_leastHarm : ByteArray := prog_1_method_22_code
def yX6_leastHarm : MethodName := ⟨RX6, "leastHarm", "(I)I"⟩
abbrev cX6_safe : ByteArray := prog_1_method_23_code
def yX6_safe : MethodName := ⟨RX6, "safe", "(I)I"⟩
abbrev cX6_over : ByteArray := prog_1_method_24_code
def yX6_over : MethodName := ⟨RX6, "over", "(III)I"⟩
abbrev cX6_image : ByteArray := prog_1_method_25_code
def yX6_image : MethodName := ⟨RX6, "image", "(I)I"⟩
abbrev cX6_restore : ByteArray := prog_1_method_26_code
def yX6_restore : MethodName := ⟨RX6, "restore", "(I)I"⟩
abbrev cX6_kind : ByteArray := prog_1_method_27_code
def yX6_kind : MethodName := ⟨RX6, "kind", "(I)I"⟩
abbrev cX6_as : ByteArray := prog_1_method_28_code
def yX6_as : MethodName := ⟨RX6, "as", "(II)I"⟩
abbrev cX6_ask : ByteArray := prog_1_method_29_code
def yX6_ask : MethodName := ⟨RX6, "ask", "(II)I"⟩
abbrev cX6_trace : ByteArray := prog_1_method_30_code
def yX6_trace : MethodName := ⟨RX6, "trace", "(I)I"⟩
abbrev cX6_count : ByteArray := prog_1_method_31_code
def yX6_count : MethodName := ⟨RX6, "count", "(I)I"⟩
abbrev cX6_status : ByteArray := prog_1_method_32_code
def yX6_status : MethodName := ⟨RX6, "status", "()I"⟩
abbrev cX6_rowOf : ByteArray := prog_1_method_33_code
def yX6_rowOf : MethodName := ⟨RX6, "rowOf", "(I)LLightSheets$Row;"⟩
abbrev cX6_imageOf : ByteArray := prog_1_method_34_code
def yX6_imageOf : MethodName := ⟨RX6, "imageOf", "(I)LLightSheets$Page;"⟩
abbrev cX6_rowsThere : ByteArray := prog_1_method_35_code
def yX6_rowsThere : MethodName := ⟨RX6, "rowsThere", "()I"⟩
abbrev cX6_found : ByteArray := prog_1_method_36_code
def yX6_found : MethodName := ⟨RX6, "found", "(I)I"⟩
abbrev cX6_unfound : ByteArray := prog_1_method_37_code
def yX6_unfound : MethodName := ⟨RX6, "unfound", "(I)I"⟩
abbrev cX6_refusalOfLetters : ByteArray := prog_1_method_38_code
def yX6_refusalOfLetters : MethodName := ⟨RX6, "refusalOfLetters", "(LLightSheets$Row;)I"⟩
abbrev cX6_cellsOrReading : ByteArray := prog_1_method_39_code
def yX6_cellsOrReading : MethodName := ⟨RX6, "cellsOrReading", "(II)I"⟩
abbrev cX6_answerOfReading : ByteArray := prog_1_method_40_code
def yX6_answerOfReading : MethodName := ⟨RX6, "answerOfReading", "(II)I"⟩
abbrev cX6_areCells : ByteArray := prog_1_method_41_code
def yX6_areCells : MethodName := ⟨RX6, "areCells", "(I)Z"⟩
abbrev cX6_hasBit : ByteArray := prog_1_method_42_code
def yX6_hasBit : MethodName := ⟨RX6, "hasBit", "(II)Z"⟩
abbrev cX6_turned : ByteArray := prog_1_method_43_code
def yX6_turned : MethodName := ⟨RX6, "turned", "(I)I"⟩
abbrev cX6_isOfKind : ByteArray := prog_1_method_44_code
def yX6_isOfKind : MethodName := ⟨RX6, "isOfKind", "(II)Z"⟩
abbrev cX6_itemOf : ByteArray := prog_1_method_45_code
def yX6_itemOf : MethodName := ⟨RX6, "itemOf", "([II)I"⟩
abbrev cX6_putItem : ByteArray := prog_1_method_46_code
def yX6_putItem : MethodName := ⟨RX6, "putItem", "([III)V"⟩
abbrev cX6_copyItems : ByteArray := prog_1_method_47_code
def yX6_copyItems : MethodName := ⟨RX6, "copyItems", "([II[III)V"⟩
def RX7 : String := "LightSheetsModel"
def TX7 : u_T := fun k => match k with
  | 0 => ("LightSheetsModel", "thrown", "I", false)
  | 1 => ("LightSheetsModel", "status", "I", false)
  | 2 => ("LightSheetsModel", "lane", "[I", true)
  | 3 => ("LightSheetsModel", "many", "[I", true)
  | 4 => ("LightSheetsModel", "item", "[I", true)
  | 5 => ("LightSheetsModel", "page", "[I", true)
  | 6 => ("LightSheetsModel", "fresh", "[I", true)
  | 7 => ("LightSheetsModel", "was", "[I", true)
  | 8 => ("LightSheetsModel", "acts", "I", false)
  | 9 => ("LightSheetsModel", "tape", "[I", true)
  | 10 => ("LightSheetsModel", "taped", "I", false)
  | 11 => ("LightSheetsModel", "latest", "I", false)
  | 12 => ("LightSheetsModel", "length", "I", false)
  | 13 => ("LightSheetsModel", "cursor", "I", false)
  | 14 => ("LightSheetsModel", "token", "I", false)
  | 15 => ("LightSheetsModel", "start", "I", false)
  | 16 => ("LightSheetsModel", "till", "I", false)
  | 17 => ("LightSheetsModel", "fault", "I", false)
  | 18 => ("LightSheetsModel", "faultAt", "I", false)
  | 19 => ("LightSheetsModel", "off", "I", false)
  | 20 => ("LightSheetsModel", "asNear", "I", false)
  | 21 => ("LightSheetsModel", "isKept", "[Z", true)
  | 22 => ("LightSheetsModel", "kept", "[I", true)
  | 23 => ("LightSheetsModel", "trace", "[I", true)
  | _ => ("LightSheetsModel", "traced", "I", false)
def tyX7 : Nat → FieldType := fun k => match k with
  | 0 => .int
  | 1 => .int
  | 2 => .array .int
  | 3 => .array .int
  | 4 => .array .int
  | 5 => .array .int
  | 6 => .array .int
  | 7 => .array .int
  | 8 => .int
  | 9 => .array .int
  | 10 => .int
  | 11 => .int
  | 12 => .int
  | 13 => .int
  | 14 => .int
  | 15 => .int
  | 16 => .int
  | 17 => .int
  | 18 => .int
  | 19 => .int
  | 20 => .int
  | 21 => .array .boolean
  | 22 => .array .int
  | 23 => .array .int
  | _ => .int
abbrev wsX70 : List Cond := u_ws RX7 TX7 25
theorem nmX7 : ∀ a, a < 25 → ∀ b, b < 25 → a ≠ b → (TX7 a).2.1 ≠ (TX7 b).2.1 := by decide +kernel
theorem tyX7_ok : ∀ k, k < 25 → parseFieldDescriptor (TX7 k).2.2.1 = some (tyX7 k) := by decide +kernel
abbrev cX7_init : ByteArray := prog_9_method_1_code
def yX7_init : MethodName := ⟨RX7, "<init>", "()V"⟩
abbrev cX7_in : ByteArray := prog_9_method_3_code
def yX7_in : MethodName := ⟨RX7, "in", "(JJJ)Z"⟩
abbrev cX7_finding : ByteArray := prog_9_method_4_code
def yX7_finding : MethodName := ⟨RX7, "finding", "(I)I"⟩
abbrev cX7_isRow : ByteArray := prog_9_method_5_code
def yX7_isRow : MethodName := ⟨RX7, "isRow", "(I)Z"⟩
abbrev cX7_row : ByteArray := prog_9_method_6_code
def yX7_row : MethodName := ⟨RX7, "row", "(III)I"⟩
abbrev cX7_set : ByteArray := prog_9_method_7_code
def yX7_set : MethodName := ⟨RX7, "set", "(III)I"⟩
abbrev cX7_copy : ByteArray := prog_9_method_8_code
def yX7_copy : MethodName := ⟨RX7, "copy", "(IIIII)I"⟩
abbrev cX7_drop : ByteArray := prog_9_method_9_code
def yX7_drop : MethodName := ⟨RX7, "drop", "(I)I"⟩
abbrev cX7_feed : ByteArray := prog_9_method_10_code
def yX7_feed : MethodName := ⟨RX7, "feed", "(JI)I"⟩
abbrev cX7_byteAt : ByteArray := prog_9_method_11_code
def yX7_byteAt : MethodName := ⟨RX7, "byteAt", "(I)I"⟩
abbrev cX7_isLetter : ByteArray := prog_9_method_12_code
def yX7_isLetter : MethodName := ⟨RX7, "isLetter", "(I)Z"⟩
abbrev cX7_isFigure : ByteArray := prog_9_method_13_code
def yX7_isFigure : MethodName := ⟨RX7, "isFigure", "(I)Z"⟩
abbrev cX7_next : ByteArray := prog_9_method_14_code
def yX7_next : MethodName := ⟨RX7, "next", "()V"⟩
abbrev cX7_begin : ByteArray := prog_9_method_15_code
def yX7_begin : MethodName := ⟨RX7, "begin", "()V"⟩
abbrev cX7_bad : ByteArray := prog_9_method_16_code
def yX7_bad : MethodName := ⟨RX7, "bad", "(I)V"⟩
abbrev cX7_must : ByteArray := prog_9_method_17_code
def yX7_must : MethodName := ⟨RX7, "must", "(Z)V"⟩
abbrev cX7_name : ByteArray := prog_9_method_18_code
def yX7_name : MethodName := ⟨RX7, "name", "()J"⟩
abbrev cX7_figures : ByteArray := prog_9_method_19_code
def yX7_figures : MethodName := ⟨RX7, "figures", "()I"⟩
abbrev cX7_number : ByteArray := prog_9_method_20_code
def yX7_number : MethodName := ⟨RX7, "number", "(II)I"⟩
abbrev cX7_kindBy : ByteArray := prog_9_method_21_code
def yX7_kindBy : MethodName := ⟨RX7, "kindBy", "(J)I"⟩
abbrev cX7_mustEnd : ByteArray := prog_9_method_22_code
def yX7_mustEnd : MethodName := ⟨RX7, "mustEnd", "()V"⟩
abbrev cX7_readLetter : ByteArray := prog_9_method_23_code
def yX7_readLetter : MethodName := ⟨RX7, "readLetter", "()V"⟩
abbrev cX7_readFront : ByteArray := prog_9_method_24_code
def yX7_readFront : MethodName := ⟨RX7, "readFront", "()V"⟩
abbrev cX7_readSheet : ByteArray := prog_9_method_25_code
def yX7_readSheet : MethodName := ⟨RX7, "readSheet", "()V"⟩
abbrev cX7_page : ByteArray := prog_9_method_26_code
def yX7_page : MethodName := ⟨RX7, "page", "()I"⟩
abbrev cX7_fault : ByteArray := prog_9_method_27_code
def yX7_fault : MethodName := ⟨RX7, "fault", "()I"⟩
abbrev cX7_isThere : ByteArray := prog_9_method_28_code
def yX7_isThere : MethodName := ⟨RX7, "isThere", "()Z"⟩
abbrev cX7_isOne : ByteArray := prog_9_method_29_code
def yX7_isOne : MethodName := ⟨RX7, "isOne", "(I)Z"⟩
abbrev cX7_isPlace : ByteArray := prog_9_method_30_code
def yX7_isPlace : MethodName := ⟨RX7, "isPlace", "(I)Z"⟩
abbrev cX7_isSide : ByteArray := prog_9_method_31_code
def yX7_isSide : MethodName := ⟨RX7, "isSide", "(I)Z"⟩
abbrev cX7_kindOf : ByteArray := prog_9_method_32_code
def yX7_kindOf : MethodName := ⟨RX7, "kindOf", "(I)I"⟩
abbrev cX7_cellsOf : ByteArray := prog_9_method_33_code
def yX7_cellsOf : MethodName := ⟨RX7, "cellsOf", "(I)I"⟩
abbrev cX7_on : ByteArray := prog_9_method_34_code
def yX7_on : MethodName := ⟨RX7, "on", "(II)I"⟩
abbrev cX7_behindOf : ByteArray := prog_9_method_35_code
def yX7_behindOf : MethodName := ⟨RX7, "behindOf", "(II)I"⟩
abbrev cX7_bits : ByteArray := prog_9_method_36_code
def yX7_bits : MethodName := ⟨RX7, "bits", "(I)I"⟩
abbrev cX7_turned : ByteArray := prog_9_method_37_code
def yX7_turned : MethodName := ⟨RX7, "turned", "(I)I"⟩
abbrev cX7_throughOf : ByteArray := prog_9_method_38_code
def yX7_throughOf : MethodName := ⟨RX7, "throughOf", "(I)I"⟩
abbrev cX7_readOf : ByteArray := prog_9_method_39_code
def yX7_readOf : MethodName := ⟨RX7, "readOf", "(I)I"⟩
abbrev cX7_readBy : ByteArray := prog_9_method_40_code
def yX7_readBy : MethodName := ⟨RX7, "readBy", "(II)I"⟩
abbrev cX7_keep : ByteArray := prog_9_method_41_code
def yX7_keep : MethodName := ⟨RX7, "keep", "()V"⟩
abbrev cX7_write : ByteArray := prog_9_method_42_code
def yX7_write : MethodName := ⟨RX7, "write", "(III)I"⟩
abbrev cX7_turn : ByteArray := prog_9_method_43_code
def yX7_turn : MethodName := ⟨RX7, "turn", "()I"⟩
abbrev cX7_undo : ByteArray := prog_9_method_44_code
def yX7_undo : MethodName := ⟨RX7, "undo", "()I"⟩
abbrev cX7_at : ByteArray := prog_9_method_45_code
def yX7_at : MethodName := ⟨RX7, "at", "(II)I"⟩
abbrev cX7_letter : ByteArray := prog_9_method_46_code
def yX7_letter : MethodName := ⟨RX7, "letter", "(II)I"⟩
abbrev cX7_light : ByteArray := prog_9_method_47_code
def yX7_light : MethodName := ⟨RX7, "light", "(III)I"⟩
abbrev cX7_damp : ByteArray := prog_9_method_48_code
def yX7_damp : MethodName := ⟨RX7, "damp", "(IIII)I"⟩
abbrev cX7_read : ByteArray := prog_9_method_49_code
def yX7_read : MethodName := ⟨RX7, "read", "(II)I"⟩
abbrev cX7_hasLetters : ByteArray := prog_9_method_50_code
def yX7_hasLetters : MethodName := ⟨RX7, "hasLetters", "(I)Z"⟩
abbrev cX7_barred : ByteArray := prog_9_method_51_code
def yX7_barred : MethodName := ⟨RX7, "barred", "(IZ)I"⟩
abbrev cX7_behindBy : ByteArray := prog_9_method_52_code
def yX7_behindBy : MethodName := ⟨RX7, "behindBy", "(II)I"⟩
abbrev cX7_behind : ByteArray := prog_9_method_53_code
def yX7_behind : MethodName := ⟨RX7, "behind", "(II)I"⟩
abbrev cX7_ways : ByteArray := prog_9_method_54_code
def yX7_ways : MethodName := ⟨RX7, "ways", "(I)I"⟩
abbrev cX7_anewAt : ByteArray := prog_9_method_55_code
def yX7_anewAt : MethodName := ⟨RX7, "anewAt", "(II)I"⟩
abbrev cX7_anew : ByteArray := prog_9_method_56_code
def yX7_anew : MethodName := ⟨RX7, "anew", "(I)I"⟩
abbrev cX7_fits : ByteArray := prog_9_method_57_code
def yX7_fits : MethodName := ⟨RX7, "fits", "(II)I"⟩
abbrev cX7_harmOf : ByteArray := prog_9_method_58_code
def yX7_harmOf : MethodName := ⟨RX7, "harmOf", "(I)I"⟩
abbrev cX7_harm : ByteArray := prog_9_method_59_code
def yX7_harm : MethodName := ⟨RX7, "harm", "(I)I"⟩
abbrev cX7_leastHarm : ByteArray := prog_9_method_60_code
def yX7_leastHarm : MethodName := ⟨RX7, "leastHarm", "(I)I"⟩
abbrev cX7_safe : ByteArray := prog_9_method_61_code
def yX7_safe : MethodName := ⟨RX7, "safe", "(I)I"⟩
abbrev cX7_over : ByteArray := prog_9_method_62_code
def yX7_over : MethodName := ⟨RX7, "over", "(III)I"⟩
abbrev cX7_image : ByteArray := prog_9_method_63_code
def yX7_image : MethodName := ⟨RX7, "image", "(I)I"⟩
abbrev cX7_restore : ByteArray := prog_9_method_64_code
def yX7_restore : MethodName := ⟨RX7, "restore", "(I)I"⟩
abbrev cX7_isOf : ByteArray := prog_9_method_65_code
def yX7_isOf : MethodName := ⟨RX7, "isOf", "(II)Z"⟩
abbrev cX7_kind : ByteArray := prog_9_method_66_code
def yX7_kind : MethodName := ⟨RX7, "kind", "(I)I"⟩
abbrev cX7_as : ByteArray := prog_9_method_67_code
def yX7_as : MethodName := ⟨RX7, "as", "(II)I"⟩
abbrev cX7_began : ByteArray := prog_9_method_68_code
def yX7_began : MethodName := ⟨RX7, "began", "(I)V"⟩
abbrev cX7_plainSize : ByteArray := prog_9_method_69_code
def yX7_plainSize : MethodName := ⟨RX7, "plainSize", "(I)I"⟩
abbrev cX7_markSize : ByteArray := prog_9_method_70_code
def yX7_markSize : MethodName := ⟨RX7, "markSize", "(I)I"⟩
abbrev cX7_markOf : ByteArray := prog_9_method_71_code
def yX7_markOf : MethodName := ⟨RX7, "markOf", "(I)I"⟩
abbrev cX7_sizeOf : ByteArray := prog_9_method_72_code
def yX7_sizeOf : MethodName := ⟨RX7, "sizeOf", "(I)I"⟩
abbrev cX7_ask : ByteArray := prog_9_method_73_code
def yX7_ask : MethodName := ⟨RX7, "ask", "(II)I"⟩
abbrev cX7_trace : ByteArray := prog_9_method_74_code
def yX7_trace : MethodName := ⟨RX7, "trace", "(I)I"⟩
abbrev cX7_count : ByteArray := prog_9_method_75_code
def yX7_count : MethodName := ⟨RX7, "count", "(I)I"⟩
abbrev cX7_status : ByteArray := prog_9_method_76_code
def yX7_status : MethodName := ⟨RX7, "status", "()I"⟩
def RJ6 : String := "java/lang/Integer"
abbrev cJ6_bitCount_0f7a4 : ByteArray := prog_10_method_49_code
def yJ6_bitCount_0f7a4 : MethodName := ⟨RJ6, "bitCount", "(I)I"⟩
def RJ9 : String := "java/lang/Math"
abbrev cJ9_max_7cf53 : ByteArray := prog_11_method_65_code
def yJ9_max_7cf53 : MethodName := ⟨RJ9, "max", "(II)I"⟩
abbrev cJ9_min_7cf53 : ByteArray := prog_11_method_69_code
def yJ9_min_7cf53 : MethodName := ⟨RJ9, "min", "(II)I"⟩
def RJ0 : String := "java/lang/String"
abbrev cJ0_length_8abf5 : ByteArray := prog_12_method_54_code
def yJ0_length_8abf5 : MethodName := ⟨RJ0, "length", "()I"⟩
abbrev cJ0_charAt_5068e : ByteArray := prog_12_method_56_code
def yJ0_charAt_5068e : MethodName := ⟨RJ0, "charAt", "(I)C"⟩
abbrev cJ0_coder_7d493 : ByteArray := prog_12_method_152_code
def yJ0_coder_7d493 : MethodName := ⟨RJ0, "coder", "()B"⟩
abbrev cJ0_isLatin1_aae02 : ByteArray := prog_12_method_154_code
def yJ0_isLatin1_aae02 : MethodName := ⟨RJ0, "isLatin1", "()Z"⟩
abbrev cJ0_checkIndex_df160 : ByteArray := prog_12_method_155_code
def yJ0_checkIndex_df160 : MethodName := ⟨RJ0, "checkIndex", "(II)V"⟩
def RJ1 : String := "java/lang/StringLatin1"
abbrev cJ1_charAt_3b067 : ByteArray := prog_13_method_2_code
def yJ1_charAt_3b067 : MethodName := ⟨RJ1, "charAt", "([BI)C"⟩
def RJ2 : String := "java/lang/StringUTF16"
abbrev cJ2_getChar_3b067 : ByteArray := prog_14_method_5_code
def yJ2_getChar_3b067 : MethodName := ⟨RJ2, "getChar", "([BI)C"⟩
abbrev cJ2_length_9d52b : ByteArray := prog_14_method_6_code
def yJ2_length_9d52b : MethodName := ⟨RJ2, "length", "([B)I"⟩
abbrev cJ2_charAt_3b067 : ByteArray := prog_14_method_83_code
def yJ2_charAt_3b067 : MethodName := ⟨RJ2, "charAt", "([BI)C"⟩
abbrev cJ2_checkIndex_2214a : ByteArray := prog_14_method_91_code
def yJ2_checkIndex_2214a : MethodName := ⟨RJ2, "checkIndex", "(I[B)V"⟩
def RJ10 : String := "java/lang/System"
def RJ3 : String := "jdk/internal/util/Preconditions"
abbrev cJ3_checkIndex_8e157 : ByteArray := prog_16_method_11_code
def yJ3_checkIndex_8e157 : MethodName := ⟨RJ3, "checkIndex", "(IILjava/util/function/BiFunction;)I"⟩
def RL : String := "LightSheetsLaw"
abbrev cL_law : ByteArray := code
def yL_law : MethodName := ⟨RL, "law", "([I)Z"⟩
abbrev vwCl : List vw_C := [(RX0, TX0, 5), (RX1, TX1, 2), (RX2, TX2, 8), (RX3, TX3, 5), (RX4, TX4, 3), (RX5, TX5, 5), (RX6, TX6, 7), (RX7, TX7, 25)]
end
section
theorem dX0_init_0 : decode cX0_init 0 = .ok (.aload_n 0, 1) := by decide +kernel
theorem dX0_init_1 : decode cX0_init 1 = .ok (.invokespecial 3, 3) := by decide +kernel
theorem dX0_init_4 : decode cX0_init 4 = .ok (.aload_n 0, 1) := by decide +kernel
theorem dX0_init_5 : decode cX0_init 5 = .ok (.bipush 24, 2) := by decide +kernel
theorem dX0_init_7 : decode cX0_init 7 = .ok (.newarray .int, 2) := by decide +kernel
theorem dX0_init_9 : decode cX0_init 9 = .ok (.putfield 9, 3) := by decide +kernel
theorem dX0_init_12 : decode cX0_init 12 = .ok (.aload_n 0, 1) := by decide +kernel
theorem dX0_init_13 : decode cX0_init 13 = .ok (.bipush 24, 2) := by decide +kernel
theorem dX0_init_15 : decode cX0_init 15 = .ok (.newarray .int, 2) := by decide +kernel
theorem dX0_init_17 : decode cX0_init 17 = .ok (.putfield 15, 3) := by decide +kernel
theorem dX0_init_20 : decode cX0_init 20 = .ok (.aload_n 0, 1) := by decide +kernel
theorem dX0_init_21 : decode cX0_init 21 = .ok (.bipush 24, 2) := by decide +kernel
theorem dX0_init_23 : decode cX0_init 23 = .ok (.newarray .int, 2) := by decide +kernel
theorem dX0_init_25 : decode cX0_init 25 = .ok (.putfield 18, 3) := by decide +kernel
theorem dX0_init_28 : decode cX0_init 28 = .ok (.return_, 1) := by decide +kernel
theorem dX0_keep_0 : decode cX0_keep 0 = .ok (.aload_n 0, 1) := by decide +kernel
theorem dX0_keep_1 : decode cX0_keep 1 = .ok (.aload_n 0, 1) := by decide +kernel
theorem dX0_keep_2 : decode cX0_keep 2 = .ok (.getfield 21, 3) := by decide +kernel
theorem dX0_keep_5 : decode cX0_keep 5 = .ok (.iconst 1, 1) := by decide +kernel
theorem dX0_keep_6 : decode cX0_keep 6 = .ok (.iadd, 1) := by decide +kernel
theorem dX0_keep_7 : decode cX0_keep 7 = .ok (.bipush 24, 2) := by decide +kernel
theorem dX0_keep_9 : decode cX0_keep 9 = .ok (.if_icmp .ge 12, 3) := by decide +kernel
theorem dX0_keep_12 : decode cX0_keep 12 = .ok (.aload_n 0, 1) := by decide +kernel
theorem dX0_keep_13 : decode cX0_keep 13 = .ok (.getfield 21, 3) := by decide +kernel
theorem dX0_keep_16 : decode cX0_keep 16 = .ok (.iconst 1, 1) := by decide +kernel
theorem dX0_keep_17 : decode cX0_keep 17 = .ok (.iadd, 1) := by decide +kernel
theorem dX0_keep_18 : decode cX0_keep 18 = .ok (.goto 4, 3) := by decide +kernel
theorem dX0_keep_21 : decode cX0_keep 21 = .ok (.iconst 0, 1) := by decide +kernel
theorem dX0_keep_22 : decode cX0_keep 22 = .ok (.putfield 21, 3) := by decide +kernel
theorem dX0_keep_25 : decode cX0_keep 25 = .ok (.aload_n 0, 1) := by decide +kernel
theorem dX0_keep_26 : decode cX0_keep 26 = .ok (.aload_n 0, 1) := by decide +kernel
theorem dX0_keep_27 : decode cX0_keep 27 = .ok (.getfield 25, 3) := by decide +kernel
theorem dX0_keep_30 : decode cX0_keep 30 = .ok (.iconst 1, 1) := by decide +kernel
theorem dX0_keep_31 : decode cX0_keep 31 = .ok (.iadd, 1) := by decide +kernel
theorem dX0_keep_32 : decode cX0_keep 32 = .ok (.bipush 24, 2) := by decide +kernel
theorem dX0_keep_34 : decode cX0_keep 34 = .ok (.invokestatic 28, 3) := by decide +kernel
theorem dX0_keep_37 : decode cX0_keep 37 = .ok (.putfield 25, 3) := by decide +kernel
theorem dX0_keep_40 : decode cX0_keep 40 = .ok (.aload_n 0, 1) := by decide +kernel
theorem dX0_keep_41 : decode cX0_keep 41 = .ok (.getfield 9, 3) := by decide +kernel
theorem dX0_keep_44 : decode cX0_keep 44 = .ok (.aload_n 0, 1) := by decide +kernel
theorem dX0_keep_45 : decode cX0_keep 45 = .ok (.getfield 21, 3) := by decide +kernel
theorem dX0_keep_48 : decode cX0_keep 48 = .ok (.iload_n 1, 1) := by decide +kernel
theorem dX0_keep_49 : decode cX0_keep 49 = .ok (.invokestatic 34, 3) := by decide +kernel
theorem dX0_keep_52 : decode cX0_keep 52 = .ok (.aload_n 0, 1) := by decide +kernel
theorem dX0_keep_53 : decode cX0_keep 53 = .ok (.getfield 15, 3) := by decide +kernel
theorem dX0_keep_56 : decode cX0_keep 56 = .ok (.aload_n 0, 1) := by decide +kernel
theorem dX0_keep_57 : decode cX0_keep 57 = .ok (.getfield 21, 3) := by decide +kernel
theorem dX0_keep_60 : decode cX0_keep 60 = .ok (.iload_n 2, 1) := by decide +kernel
theorem dX0_keep_61 : decode cX0_keep 61 = .ok (.invokestatic 34, 3) := by decide +kernel
theorem dX0_keep_64 : decode cX0_keep 64 = .ok (.aload_n 0, 1) := by decide +kernel
theorem dX0_keep_65 : decode cX0_keep 65 = .ok (.getfield 18, 3) := by decide +kernel
theorem dX0_keep_68 : decode cX0_keep 68 = .ok (.aload_n 0, 1) := by decide +kernel
theorem dX0_keep_69 : decode cX0_keep 69 = .ok (.getfield 21, 3) := by decide +kernel
theorem dX0_keep_72 : decode cX0_keep 72 = .ok (.iload_n 3, 1) := by decide +kernel
theorem dX0_keep_73 : decode cX0_keep 73 = .ok (.invokestatic 34, 3) := by decide +kernel
theorem dX0_keep_76 : decode cX0_keep 76 = .ok (.return_, 1) := by decide +kernel
theorem dX0_latestSide_0 : decode cX0_latestSide 0 = .ok (.aload_n 0, 1) := by decide +kernel
theorem dX0_latestSide_1 : decode cX0_latestSide 1 = .ok (.getfield 9, 3) := by decide +kernel
theorem dX0_latestSide_4 : decode cX0_latestSide 4 = .ok (.aload_n 0, 1) := by decide +kernel
theorem dX0_latestSide_5 : decode cX0_latestSide 5 = .ok (.getfield 21, 3) := by decide +kernel
theorem dX0_latestSide_8 : decode cX0_latestSide 8 = .ok (.invokestatic 38, 3) := by decide +kernel
theorem dX0_latestSide_11 : decode cX0_latestSide 11 = .ok (.ireturn, 1) := by decide +kernel
theorem dX0_latestPlace_0 : decode cX0_latestPlace 0 = .ok (.aload_n 0, 1) := by decide +kernel
theorem dX0_latestPlace_1 : decode cX0_latestPlace 1 = .ok (.getfield 15, 3) := by decide +kernel
theorem dX0_latestPlace_4 : decode cX0_latestPlace 4 = .ok (.aload_n 0, 1) := by decide +kernel
theorem dX0_latestPlace_5 : decode cX0_latestPlace 5 = .ok (.getfield 21, 3) := by decide +kernel
theorem dX0_latestPlace_8 : decode cX0_latestPlace 8 = .ok (.invokestatic 38, 3) := by decide +kernel
theorem dX0_latestPlace_11 : decode cX0_latestPlace 11 = .ok (.ireturn, 1) := by decide +kernel
theorem dX0_latestLetter_0 : decode cX0_latestLetter 0 = .ok (.aload_n 0, 1) := by decide +kernel
theorem dX0_latestLetter_1 : decode cX0_latestLetter 1 = .ok (.getfield 18, 3) := by decide +kernel
theorem dX0_latestLetter_4 : decode cX0_latestLetter 4 = .ok (.aload_n 0, 1) := by decide +kernel
theorem dX0_latestLetter_5 : decode cX0_latestLetter 5 = .ok (.getfield 21, 3) := by decide +kernel
theorem dX0_latestLetter_8 : decode cX0_latestLetter 8 = .ok (.invokestatic 38, 3) := by decide +kernel
theorem dX0_latestLetter_11 : decode cX0_latestLetter 11 = .ok (.ireturn, 1) := by decide +kernel
theorem dX0_forgetLatest_0 : decode cX0_forgetLatest 0 = .ok (.aload_n 0, 1) := by decide +kernel
theorem dX0_forgetLatest_1 : decode cX0_forgetLatest 1 = .ok (.aload_n 0, 1) := by decide +kernel
theorem dX0_forgetLatest_2 : decode cX0_forgetLatest 2 = .ok (.getfield 21, 3) := by decide +kernel
theorem dX0_forgetLatest_5 : decode cX0_forgetLatest 5 = .ok (.ifCond .le 12, 3) := by decide +kernel
theorem dX0_forgetLatest_8 : decode cX0_forgetLatest 8 = .ok (.aload_n 0, 1) := by decide +kernel
theorem dX0_forgetLatest_9 : decode cX0_forgetLatest 9 = .ok (.getfield 21, 3) := by decide +kernel
theorem dX0_forgetLatest_12 : decode cX0_forgetLatest 12 = .ok (.iconst 1, 1) := by decide +kernel
theorem dX0_forgetLatest_13 : decode cX0_forgetLatest 13 = .ok (.isub, 1) := by decide +kernel
theorem dX0_forgetLatest_14 : decode cX0_forgetLatest 14 = .ok (.goto 5, 3) := by decide +kernel
theorem dX0_forgetLatest_17 : decode cX0_forgetLatest 17 = .ok (.bipush 23, 2) := by decide +kernel
theorem dX0_forgetLatest_19 : decode cX0_forgetLatest 19 = .ok (.putfield 21, 3) := by decide +kernel
theorem dX0_forgetLatest_22 : decode cX0_forgetLatest 22 = .ok (.aload_n 0, 1) := by decide +kernel
theorem dX0_forgetLatest_23 : decode cX0_forgetLatest 23 = .ok (.aload_n 0, 1) := by decide +kernel
theorem dX0_forgetLatest_24 : decode cX0_forgetLatest 24 = .ok (.getfield 25, 3) := by decide +kernel
theorem dX0_forgetLatest_27 : decode cX0_forgetLatest 27 = .ok (.iconst 1, 1) := by decide +kernel
theorem dX0_forgetLatest_28 : decode cX0_forgetLatest 28 = .ok (.isub, 1) := by decide +kernel
theorem dX0_forgetLatest_29 : decode cX0_forgetLatest 29 = .ok (.iconst 0, 1) := by decide +kernel
theorem dX0_forgetLatest_30 : decode cX0_forgetLatest 30 = .ok (.invokestatic 42, 3) := by decide +kernel
theorem dX0_forgetLatest_33 : decode cX0_forgetLatest 33 = .ok (.putfield 25, 3) := by decide +kernel
theorem dX0_forgetLatest_36 : decode cX0_forgetLatest 36 = .ok (.return_, 1) := by decide +kernel
theorem dX0_forgetAll_0 : decode cX0_forgetAll 0 = .ok (.aload_n 0, 1) := by decide +kernel
theorem dX0_forgetAll_1 : decode cX0_forgetAll 1 = .ok (.iconst 0, 1) := by decide +kernel
theorem dX0_forgetAll_2 : decode cX0_forgetAll 2 = .ok (.putfield 25, 3) := by decide +kernel
theorem dX0_forgetAll_5 : decode cX0_forgetAll 5 = .ok (.return_, 1) := by decide +kernel
theorem dX1_init_0 : decode cX1_init 0 = .ok (.aload_n 0, 1) := by decide +kernel
theorem dX1_init_1 : decode cX1_init 1 = .ok (.invokespecial 3, 3) := by decide +kernel
theorem dX1_init_4 : decode cX1_init 4 = .ok (.aload_n 0, 1) := by decide +kernel
theorem dX1_init_5 : decode cX1_init 5 = .ok (.bipush 16, 2) := by decide +kernel
theorem dX1_init_7 : decode cX1_init 7 = .ok (.newarray .int, 2) := by decide +kernel
theorem dX1_init_9 : decode cX1_init 9 = .ok (.putfield 9, 3) := by decide +kernel
theorem dX1_init_12 : decode cX1_init 12 = .ok (.return_, 1) := by decide +kernel
theorem dX1_answer_0 : decode cX1_answer 0 = .ok (.aload_n 0, 1) := by decide +kernel
theorem dX1_answer_1 : decode cX1_answer 1 = .ok (.iconst 0, 1) := by decide +kernel
theorem dX1_answer_2 : decode cX1_answer 2 = .ok (.putfield 15, 3) := by decide +kernel
theorem dX1_answer_5 : decode cX1_answer 5 = .ok (.aload_n 1, 1) := by decide +kernel
theorem dX1_answer_6 : decode cX1_answer 6 = .ok (.iload_n 2, 1) := by decide +kernel
theorem dX1_answer_7 : decode cX1_answer 7 = .ok (.invokevirtual 19, 3) := by decide +kernel
theorem dX1_answer_10 : decode cX1_answer 10 = .ok (.iconst 4, 1) := by decide +kernel
theorem dX1_answer_11 : decode cX1_answer 11 = .ok (.invokestatic 25, 3) := by decide +kernel
theorem dX1_answer_14 : decode cX1_answer 14 = .ok (.istore 4, 2) := by decide +kernel
theorem dX1_answer_16 : decode cX1_answer 16 = .ok (.iload_n 3, 1) := by decide +kernel
theorem dX1_answer_17 : decode cX1_answer 17 = .ok (.ifCond .ne 24, 3) := by decide +kernel
theorem dX1_answer_20 : decode cX1_answer 20 = .ok (.iload 4, 2) := by decide +kernel
theorem dX1_answer_22 : decode cX1_answer 22 = .ok (.ifCond .eq 12, 3) := by decide +kernel
theorem dX1_answer_25 : decode cX1_answer 25 = .ok (.aload_n 0, 1) := by decide +kernel
theorem dX1_answer_26 : decode cX1_answer 26 = .ok (.aload_n 1, 1) := by decide +kernel
theorem dX1_answer_27 : decode cX1_answer 27 = .ok (.iload_n 2, 1) := by decide +kernel
theorem dX1_answer_28 : decode cX1_answer 28 = .ok (.invokevirtual 29, 3) := by decide +kernel
theorem dX1_answer_31 : decode cX1_answer 31 = .ok (.goto 9, 3) := by decide +kernel
theorem dX1_answer_34 : decode cX1_answer 34 = .ok (.aload_n 0, 1) := by decide +kernel
theorem dX1_answer_35 : decode cX1_answer 35 = .ok (.aload_n 1, 1) := by decide +kernel
theorem dX1_answer_36 : decode cX1_answer 36 = .ok (.iload_n 2, 1) := by decide +kernel
theorem dX1_answer_37 : decode cX1_answer 37 = .ok (.invokevirtual 33, 3) := by decide +kernel
theorem dX1_answer_40 : decode cX1_answer 40 = .ok (.ireturn, 1) := by decide +kernel
theorem dX1_answer_41 : decode cX1_answer 41 = .ok (.iload 4, 2) := by decide +kernel
theorem dX1_answer_43 : decode cX1_answer 43 = .ok (.ifCond .eq 12, 3) := by decide +kernel
theorem dX1_answer_46 : decode cX1_answer 46 = .ok (.aload_n 0, 1) := by decide +kernel
theorem dX1_answer_47 : decode cX1_answer 47 = .ok (.aload_n 1, 1) := by decide +kernel
theorem dX1_answer_48 : decode cX1_answer 48 = .ok (.iload_n 2, 1) := by decide +kernel
theorem dX1_answer_49 : decode cX1_answer 49 = .ok (.invokevirtual 36, 3) := by decide +kernel
theorem dX1_answer_52 : decode cX1_answer 52 = .ok (.goto 9, 3) := by decide +kernel
theorem dX1_answer_55 : decode cX1_answer 55 = .ok (.aload_n 0, 1) := by decide +kernel
theorem dX1_answer_56 : decode cX1_answer 56 = .ok (.aload_n 1, 1) := by decide +kernel
theorem dX1_answer_57 : decode cX1_answer 57 = .ok (.iload_n 2, 1) := by decide +kernel
theorem dX1_answer_58 : decode cX1_answer 58 = .ok (.invokevirtual 39, 3) := by decide +kernel
theorem dX1_answer_61 : decode cX1_answer 61 = .ok (.ireturn, 1) := by decide +kernel
theorem dX1_traced_0 : decode cX1_traced 0 = .ok (.iload_n 1, 1) := by decide +kernel
theorem dX1_traced_1 : decode cX1_traced 1 = .ok (.ifCond .lt 22, 3) := by decide +kernel
theorem dX1_traced_4 : decode cX1_traced 4 = .ok (.iload_n 1, 1) := by decide +kernel
theorem dX1_traced_5 : decode cX1_traced 5 = .ok (.aload_n 0, 1) := by decide +kernel
theorem dX1_traced_6 : decode cX1_traced 6 = .ok (.getfield 15, 3) := by decide +kernel
theorem dX1_traced_9 : decode cX1_traced 9 = .ok (.if_icmp .ge 14, 3) := by decide +kernel
theorem dX1_traced_12 : decode cX1_traced 12 = .ok (.aload_n 0, 1) := by decide +kernel
theorem dX1_traced_13 : decode cX1_traced 13 = .ok (.getfield 9, 3) := by decide +kernel
theorem dX1_traced_16 : decode cX1_traced 16 = .ok (.iload_n 1, 1) := by decide +kernel
theorem dX1_traced_17 : decode cX1_traced 17 = .ok (.invokestatic 42, 3) := by decide +kernel
theorem dX1_traced_20 : decode cX1_traced 20 = .ok (.goto 5, 3) := by decide +kernel
theorem dX1_traced_23 : decode cX1_traced 23 = .ok (.ldc 46, 2) := by decide +kernel
theorem dX1_traced_25 : decode cX1_traced 25 = .ok (.ireturn, 1) := by decide +kernel
theorem dX1_sizeOfAny_0 : decode cX1_sizeOfAny 0 = .ok (.aload_n 0, 1) := by decide +kernel
theorem dX1_sizeOfAny_1 : decode cX1_sizeOfAny 1 = .ok (.bipush 10, 2) := by decide +kernel
theorem dX1_sizeOfAny_3 : decode cX1_sizeOfAny 3 = .ok (.invokevirtual 47, 3) := by decide +kernel
theorem dX1_sizeOfAny_6 : decode cX1_sizeOfAny 6 = .ok (.aload_n 1, 1) := by decide +kernel
theorem dX1_sizeOfAny_7 : decode cX1_sizeOfAny 7 = .ok (.iload_n 2, 1) := by decide +kernel
theorem dX1_sizeOfAny_8 : decode cX1_sizeOfAny 8 = .ok (.invokevirtual 51, 3) := by decide +kernel
theorem dX1_sizeOfAny_11 : decode cX1_sizeOfAny 11 = .ok (.invokestatic 54, 3) := by decide +kernel
theorem dX1_sizeOfAny_14 : decode cX1_sizeOfAny 14 = .ok (.ireturn, 1) := by decide +kernel
theorem dX1_sizeOfPlain_0 : decode cX1_sizeOfPlain 0 = .ok (.aload_n 1, 1) := by decide +kernel
theorem dX1_sizeOfPlain_1 : decode cX1_sizeOfPlain 1 = .ok (.iload_n 2, 1) := by decide +kernel
theorem dX1_sizeOfPlain_2 : decode cX1_sizeOfPlain 2 = .ok (.invokevirtual 19, 3) := by decide +kernel
theorem dX1_sizeOfPlain_5 : decode cX1_sizeOfPlain 5 = .ok (.iconst 2, 1) := by decide +kernel
theorem dX1_sizeOfPlain_6 : decode cX1_sizeOfPlain 6 = .ok (.if_icmp .ne 7, 3) := by decide +kernel
theorem dX1_sizeOfPlain_9 : decode cX1_sizeOfPlain 9 = .ok (.iconst 1, 1) := by decide +kernel
theorem dX1_sizeOfPlain_10 : decode cX1_sizeOfPlain 10 = .ok (.goto 4, 3) := by decide +kernel
theorem dX1_sizeOfPlain_13 : decode cX1_sizeOfPlain 13 = .ok (.iconst 0, 1) := by decide +kernel
theorem dX1_sizeOfPlain_14 : decode cX1_sizeOfPlain 14 = .ok (.istore_n 3, 1) := by decide +kernel
theorem dX1_sizeOfPlain_15 : decode cX1_sizeOfPlain 15 = .ok (.iload_n 3, 1) := by decide +kernel
theorem dX1_sizeOfPlain_16 : decode cX1_sizeOfPlain 16 = .ok (.ifCond .eq 9, 3) := by decide +kernel
theorem dX1_sizeOfPlain_19 : decode cX1_sizeOfPlain 19 = .ok (.aload_n 0, 1) := by decide +kernel
theorem dX1_sizeOfPlain_20 : decode cX1_sizeOfPlain 20 = .ok (.bipush 12, 2) := by decide +kernel
theorem dX1_sizeOfPlain_22 : decode cX1_sizeOfPlain 22 = .ok (.invokevirtual 47, 3) := by decide +kernel
theorem dX1_sizeOfPlain_25 : decode cX1_sizeOfPlain 25 = .ok (.aload_n 0, 1) := by decide +kernel
theorem dX1_sizeOfPlain_26 : decode cX1_sizeOfPlain 26 = .ok (.bipush 11, 2) := by decide +kernel
theorem dX1_sizeOfPlain_28 : decode cX1_sizeOfPlain 28 = .ok (.invokevirtual 47, 3) := by decide +kernel
theorem dX1_sizeOfPlain_31 : decode cX1_sizeOfPlain 31 = .ok (.aload_n 0, 1) := by decide +kernel
theorem dX1_sizeOfPlain_32 : decode cX1_sizeOfPlain 32 = .ok (.aload_n 1, 1) := by decide +kernel
theorem dX1_sizeOfPlain_33 : decode cX1_sizeOfPlain 33 = .ok (.iload_n 2, 1) := by decide +kernel
theorem dX1_sizeOfPlain_34 : decode cX1_sizeOfPlain 34 = .ok (.invokevirtual 59, 3) := by decide +kernel
theorem dX1_sizeOfPlain_37 : decode cX1_sizeOfPlain 37 = .ok (.aload_n 0, 1) := by decide +kernel
theorem dX1_sizeOfPlain_38 : decode cX1_sizeOfPlain 38 = .ok (.aload_n 1, 1) := by decide +kernel
theorem dX1_sizeOfPlain_39 : decode cX1_sizeOfPlain 39 = .ok (.iload_n 2, 1) := by decide +kernel
theorem dX1_sizeOfPlain_40 : decode cX1_sizeOfPlain 40 = .ok (.invokevirtual 39, 3) := by decide +kernel
theorem dX1_sizeOfPlain_43 : decode cX1_sizeOfPlain 43 = .ok (.iadd, 1) := by decide +kernel
theorem dX1_sizeOfPlain_44 : decode cX1_sizeOfPlain 44 = .ok (.istore 4, 2) := by decide +kernel
theorem dX1_sizeOfPlain_46 : decode cX1_sizeOfPlain 46 = .ok (.iload_n 3, 1) := by decide +kernel
theorem dX1_sizeOfPlain_47 : decode cX1_sizeOfPlain 47 = .ok (.ifCond .eq 10, 3) := by decide +kernel
theorem dX1_sizeOfPlain_50 : decode cX1_sizeOfPlain 50 = .ok (.iconst 0, 1) := by decide +kernel
theorem dX1_sizeOfPlain_51 : decode cX1_sizeOfPlain 51 = .ok (.iload 4, 2) := by decide +kernel
theorem dX1_sizeOfPlain_53 : decode cX1_sizeOfPlain 53 = .ok (.isub, 1) := by decide +kernel
theorem dX1_sizeOfPlain_54 : decode cX1_sizeOfPlain 54 = .ok (.goto 5, 3) := by decide +kernel
theorem dX1_sizeOfPlain_57 : decode cX1_sizeOfPlain 57 = .ok (.iload 4, 2) := by decide +kernel
theorem dX1_sizeOfPlain_59 : decode cX1_sizeOfPlain 59 = .ok (.ireturn, 1) := by decide +kernel
theorem dX1_sizeOfMark_0 : decode cX1_sizeOfMark 0 = .ok (.aload_n 1, 1) := by decide +kernel
theorem dX1_sizeOfMark_1 : decode cX1_sizeOfMark 1 = .ok (.iload_n 2, 1) := by decide +kernel
theorem dX1_sizeOfMark_2 : decode cX1_sizeOfMark 2 = .ok (.invokevirtual 19, 3) := by decide +kernel
theorem dX1_sizeOfMark_5 : decode cX1_sizeOfMark 5 = .ok (.iconst 5, 1) := by decide +kernel
theorem dX1_sizeOfMark_6 : decode cX1_sizeOfMark 6 = .ok (.if_icmp .ne 7, 3) := by decide +kernel
theorem dX1_sizeOfMark_9 : decode cX1_sizeOfMark 9 = .ok (.iconst 1, 1) := by decide +kernel
theorem dX1_sizeOfMark_10 : decode cX1_sizeOfMark 10 = .ok (.goto 4, 3) := by decide +kernel
theorem dX1_sizeOfMark_13 : decode cX1_sizeOfMark 13 = .ok (.iconst 0, 1) := by decide +kernel
theorem dX1_sizeOfMark_14 : decode cX1_sizeOfMark 14 = .ok (.istore_n 3, 1) := by decide +kernel
theorem dX1_sizeOfMark_15 : decode cX1_sizeOfMark 15 = .ok (.iload_n 3, 1) := by decide +kernel
theorem dX1_sizeOfMark_16 : decode cX1_sizeOfMark 16 = .ok (.ifCond .eq 9, 3) := by decide +kernel
theorem dX1_sizeOfMark_19 : decode cX1_sizeOfMark 19 = .ok (.aload_n 0, 1) := by decide +kernel
theorem dX1_sizeOfMark_20 : decode cX1_sizeOfMark 20 = .ok (.bipush 14, 2) := by decide +kernel
theorem dX1_sizeOfMark_22 : decode cX1_sizeOfMark 22 = .ok (.invokevirtual 47, 3) := by decide +kernel
theorem dX1_sizeOfMark_25 : decode cX1_sizeOfMark 25 = .ok (.aload_n 0, 1) := by decide +kernel
theorem dX1_sizeOfMark_26 : decode cX1_sizeOfMark 26 = .ok (.bipush 13, 2) := by decide +kernel
theorem dX1_sizeOfMark_28 : decode cX1_sizeOfMark 28 = .ok (.invokevirtual 47, 3) := by decide +kernel
theorem dX1_sizeOfMark_31 : decode cX1_sizeOfMark 31 = .ok (.aload_n 0, 1) := by decide +kernel
theorem dX1_sizeOfMark_32 : decode cX1_sizeOfMark 32 = .ok (.aload_n 1, 1) := by decide +kernel
theorem dX1_sizeOfMark_33 : decode cX1_sizeOfMark 33 = .ok (.iload_n 2, 1) := by decide +kernel
theorem dX1_sizeOfMark_34 : decode cX1_sizeOfMark 34 = .ok (.invokevirtual 59, 3) := by decide +kernel
theorem dX1_sizeOfMark_37 : decode cX1_sizeOfMark 37 = .ok (.bipush 100, 2) := by decide +kernel
theorem dX1_sizeOfMark_39 : decode cX1_sizeOfMark 39 = .ok (.isub, 1) := by decide +kernel
theorem dX1_sizeOfMark_40 : decode cX1_sizeOfMark 40 = .ok (.istore 4, 2) := by decide +kernel
theorem dX1_sizeOfMark_42 : decode cX1_sizeOfMark 42 = .ok (.iload_n 3, 1) := by decide +kernel
theorem dX1_sizeOfMark_43 : decode cX1_sizeOfMark 43 = .ok (.ifCond .eq 10, 3) := by decide +kernel
theorem dX1_sizeOfMark_46 : decode cX1_sizeOfMark 46 = .ok (.iconst 2, 1) := by decide +kernel
theorem dX1_sizeOfMark_47 : decode cX1_sizeOfMark 47 = .ok (.iload 4, 2) := by decide +kernel
theorem dX1_sizeOfMark_49 : decode cX1_sizeOfMark 49 = .ok (.imul, 1) := by decide +kernel
theorem dX1_sizeOfMark_50 : decode cX1_sizeOfMark 50 = .ok (.goto 5, 3) := by decide +kernel
theorem dX1_sizeOfMark_53 : decode cX1_sizeOfMark 53 = .ok (.iload 4, 2) := by decide +kernel
theorem dX1_sizeOfMark_55 : decode cX1_sizeOfMark 55 = .ok (.ireturn, 1) := by decide +kernel
theorem dX1_markOfAny_0 : decode cX1_markOfAny 0 = .ok (.aload_n 0, 1) := by decide +kernel
theorem dX1_markOfAny_1 : decode cX1_markOfAny 1 = .ok (.bipush 20, 2) := by decide +kernel
theorem dX1_markOfAny_3 : decode cX1_markOfAny 3 = .ok (.invokevirtual 47, 3) := by decide +kernel
theorem dX1_markOfAny_6 : decode cX1_markOfAny 6 = .ok (.iload_n 1, 1) := by decide +kernel
theorem dX1_markOfAny_7 : decode cX1_markOfAny 7 = .ok (.ireturn, 1) := by decide +kernel
theorem dX1_markOfPlain_0 : decode cX1_markOfPlain 0 = .ok (.aload_n 1, 1) := by decide +kernel
theorem dX1_markOfPlain_1 : decode cX1_markOfPlain 1 = .ok (.iload_n 2, 1) := by decide +kernel
theorem dX1_markOfPlain_2 : decode cX1_markOfPlain 2 = .ok (.invokevirtual 19, 3) := by decide +kernel
theorem dX1_markOfPlain_5 : decode cX1_markOfPlain 5 = .ok (.istore_n 3, 1) := by decide +kernel
theorem dX1_markOfPlain_6 : decode cX1_markOfPlain 6 = .ok (.iload_n 3, 1) := by decide +kernel
theorem dX1_markOfPlain_7 : decode cX1_markOfPlain 7 = .ok (.iconst 3, 1) := by decide +kernel
theorem dX1_markOfPlain_8 : decode cX1_markOfPlain 8 = .ok (.if_icmp .ne 12, 3) := by decide +kernel
theorem dX1_markOfPlain_11 : decode cX1_markOfPlain 11 = .ok (.aload_n 0, 1) := by decide +kernel
theorem dX1_markOfPlain_12 : decode cX1_markOfPlain 12 = .ok (.bipush 22, 2) := by decide +kernel
theorem dX1_markOfPlain_14 : decode cX1_markOfPlain 14 = .ok (.invokevirtual 47, 3) := by decide +kernel
theorem dX1_markOfPlain_17 : decode cX1_markOfPlain 17 = .ok (.goto 14, 3) := by decide +kernel
theorem dX1_markOfPlain_20 : decode cX1_markOfPlain 20 = .ok (.iload_n 3, 1) := by decide +kernel
theorem dX1_markOfPlain_21 : decode cX1_markOfPlain 21 = .ok (.iconst 2, 1) := by decide +kernel
theorem dX1_markOfPlain_22 : decode cX1_markOfPlain 22 = .ok (.if_icmp .ne 9, 3) := by decide +kernel
theorem dX1_markOfPlain_25 : decode cX1_markOfPlain 25 = .ok (.aload_n 0, 1) := by decide +kernel
theorem dX1_markOfPlain_26 : decode cX1_markOfPlain 26 = .ok (.bipush 24, 2) := by decide +kernel
theorem dX1_markOfPlain_28 : decode cX1_markOfPlain 28 = .ok (.invokevirtual 47, 3) := by decide +kernel
theorem dX1_markOfPlain_31 : decode cX1_markOfPlain 31 = .ok (.aload_n 0, 1) := by decide +kernel
theorem dX1_markOfPlain_32 : decode cX1_markOfPlain 32 = .ok (.bipush 21, 2) := by decide +kernel
theorem dX1_markOfPlain_34 : decode cX1_markOfPlain 34 = .ok (.invokevirtual 47, 3) := by decide +kernel
theorem dX1_markOfPlain_37 : decode cX1_markOfPlain 37 = .ok (.aload_n 0, 1) := by decide +kernel
theorem dX1_markOfPlain_38 : decode cX1_markOfPlain 38 = .ok (.iload_n 2, 1) := by decide +kernel
theorem dX1_markOfPlain_39 : decode cX1_markOfPlain 39 = .ok (.invokevirtual 62, 3) := by decide +kernel
theorem dX1_markOfPlain_42 : decode cX1_markOfPlain 42 = .ok (.aload_n 1, 1) := by decide +kernel
theorem dX1_markOfPlain_43 : decode cX1_markOfPlain 43 = .ok (.iload_n 2, 1) := by decide +kernel
theorem dX1_markOfPlain_44 : decode cX1_markOfPlain 44 = .ok (.invokevirtual 51, 3) := by decide +kernel
theorem dX1_markOfPlain_47 : decode cX1_markOfPlain 47 = .ok (.iadd, 1) := by decide +kernel
theorem dX1_markOfPlain_48 : decode cX1_markOfPlain 48 = .ok (.istore 4, 2) := by decide +kernel
theorem dX1_markOfPlain_50 : decode cX1_markOfPlain 50 = .ok (.iload_n 3, 1) := by decide +kernel
theorem dX1_markOfPlain_51 : decode cX1_markOfPlain 51 = .ok (.iconst 3, 1) := by decide +kernel
theorem dX1_markOfPlain_52 : decode cX1_markOfPlain 52 = .ok (.if_icmp .ne 12, 3) := by decide +kernel
theorem dX1_markOfPlain_55 : decode cX1_markOfPlain 55 = .ok (.iload 4, 2) := by decide +kernel
theorem dX1_markOfPlain_57 : decode cX1_markOfPlain 57 = .ok (.sipush 1000, 3) := by decide +kernel
theorem dX1_markOfPlain_60 : decode cX1_markOfPlain 60 = .ok (.isub, 1) := by decide +kernel
theorem dX1_markOfPlain_61 : decode cX1_markOfPlain 61 = .ok (.goto 17, 3) := by decide +kernel
theorem dX1_markOfPlain_64 : decode cX1_markOfPlain 64 = .ok (.iload_n 3, 1) := by decide +kernel
theorem dX1_markOfPlain_65 : decode cX1_markOfPlain 65 = .ok (.iconst 2, 1) := by decide +kernel
theorem dX1_markOfPlain_66 : decode cX1_markOfPlain 66 = .ok (.if_icmp .ne 10, 3) := by decide +kernel
theorem dX1_markOfPlain_69 : decode cX1_markOfPlain 69 = .ok (.iconst 2, 1) := by decide +kernel
theorem dX1_markOfPlain_70 : decode cX1_markOfPlain 70 = .ok (.iload 4, 2) := by decide +kernel
theorem dX1_markOfPlain_72 : decode cX1_markOfPlain 72 = .ok (.imul, 1) := by decide +kernel
theorem dX1_markOfPlain_73 : decode cX1_markOfPlain 73 = .ok (.goto 5, 3) := by decide +kernel
theorem dX1_markOfPlain_76 : decode cX1_markOfPlain 76 = .ok (.iload 4, 2) := by decide +kernel
theorem dX1_markOfPlain_78 : decode cX1_markOfPlain 78 = .ok (.ireturn, 1) := by decide +kernel
theorem dX1_markOfMark_0 : decode cX1_markOfMark 0 = .ok (.aload_n 0, 1) := by decide +kernel
theorem dX1_markOfMark_1 : decode cX1_markOfMark 1 = .ok (.bipush 23, 2) := by decide +kernel
theorem dX1_markOfMark_3 : decode cX1_markOfMark 3 = .ok (.invokevirtual 47, 3) := by decide +kernel
theorem dX1_markOfMark_6 : decode cX1_markOfMark 6 = .ok (.aload_n 0, 1) := by decide +kernel
theorem dX1_markOfMark_7 : decode cX1_markOfMark 7 = .ok (.iload_n 2, 1) := by decide +kernel
theorem dX1_markOfMark_8 : decode cX1_markOfMark 8 = .ok (.invokevirtual 62, 3) := by decide +kernel
theorem dX1_markOfMark_11 : decode cX1_markOfMark 11 = .ok (.aload_n 0, 1) := by decide +kernel
theorem dX1_markOfMark_12 : decode cX1_markOfMark 12 = .ok (.aload_n 1, 1) := by decide +kernel
theorem dX1_markOfMark_13 : decode cX1_markOfMark 13 = .ok (.iload_n 2, 1) := by decide +kernel
theorem dX1_markOfMark_14 : decode cX1_markOfMark 14 = .ok (.invokevirtual 29, 3) := by decide +kernel
theorem dX1_markOfMark_17 : decode cX1_markOfMark 17 = .ok (.isub, 1) := by decide +kernel
theorem dX1_markOfMark_18 : decode cX1_markOfMark 18 = .ok (.ireturn, 1) := by decide +kernel
theorem dX1_begin_0 : decode cX1_begin 0 = .ok (.aload_n 0, 1) := by decide +kernel
theorem dX1_begin_1 : decode cX1_begin 1 = .ok (.getfield 15, 3) := by decide +kernel
theorem dX1_begin_4 : decode cX1_begin 4 = .ok (.bipush 16, 2) := by decide +kernel
theorem dX1_begin_6 : decode cX1_begin 6 = .ok (.if_icmp .ge 25, 3) := by decide +kernel
theorem dX1_begin_9 : decode cX1_begin 9 = .ok (.aload_n 0, 1) := by decide +kernel
theorem dX1_begin_10 : decode cX1_begin 10 = .ok (.getfield 9, 3) := by decide +kernel
theorem dX1_begin_13 : decode cX1_begin 13 = .ok (.aload_n 0, 1) := by decide +kernel
theorem dX1_begin_14 : decode cX1_begin 14 = .ok (.getfield 15, 3) := by decide +kernel
theorem dX1_begin_17 : decode cX1_begin 17 = .ok (.iload_n 1, 1) := by decide +kernel
theorem dX1_begin_18 : decode cX1_begin 18 = .ok (.invokestatic 65, 3) := by decide +kernel
theorem dX1_begin_21 : decode cX1_begin 21 = .ok (.aload_n 0, 1) := by decide +kernel
theorem dX1_begin_22 : decode cX1_begin 22 = .ok (.dup, 1) := by decide +kernel
theorem dX1_begin_23 : decode cX1_begin 23 = .ok (.getfield 15, 3) := by decide +kernel
theorem dX1_begin_26 : decode cX1_begin 26 = .ok (.iconst 1, 1) := by decide +kernel
theorem dX1_begin_27 : decode cX1_begin 27 = .ok (.iadd, 1) := by decide +kernel
theorem dX1_begin_28 : decode cX1_begin 28 = .ok (.putfield 15, 3) := by decide +kernel
theorem dX1_begin_31 : decode cX1_begin 31 = .ok (.return_, 1) := by decide +kernel
theorem dX2_init_0 : decode cX2_init 0 = .ok (.aload_n 0, 1) := by decide +kernel
theorem dX2_init_1 : decode cX2_init 1 = .ok (.invokespecial 3, 3) := by decide +kernel
theorem dX2_init_4 : decode cX2_init 4 = .ok (.aload_n 0, 1) := by decide +kernel
theorem dX2_init_5 : decode cX2_init 5 = .ok (.bipush 8, 2) := by decide +kernel
theorem dX2_init_7 : decode cX2_init 7 = .ok (.newarray .int, 2) := by decide +kernel
theorem dX2_init_9 : decode cX2_init 9 = .ok (.putfield 9, 3) := by decide +kernel
theorem dX2_init_12 : decode cX2_init 12 = .ok (.aload_n 0, 1) := by decide +kernel
theorem dX2_init_13 : decode cX2_init 13 = .ok (.bipush 8, 2) := by decide +kernel
theorem dX2_init_15 : decode cX2_init 15 = .ok (.newarray .int, 2) := by decide +kernel
theorem dX2_init_17 : decode cX2_init 17 = .ok (.putfield 15, 3) := by decide +kernel
theorem dX2_init_20 : decode cX2_init 20 = .ok (.aload_n 0, 1) := by decide +kernel
theorem dX2_init_21 : decode cX2_init 21 = .ok (.bipush 8, 2) := by decide +kernel
theorem dX2_init_23 : decode cX2_init 23 = .ok (.newarray .int, 2) := by decide +kernel
theorem dX2_init_25 : decode cX2_init 25 = .ok (.putfield 18, 3) := by decide +kernel
theorem dX2_init_28 : decode cX2_init 28 = .ok (.aload_n 0, 1) := by decide +kernel
theorem dX2_init_29 : decode cX2_init 29 = .ok (.bipush 9, 2) := by decide +kernel
theorem dX2_init_31 : decode cX2_init 31 = .ok (.newarray .int, 2) := by decide +kernel
theorem dX2_init_33 : decode cX2_init 33 = .ok (.putfield 21, 3) := by decide +kernel
theorem dX2_init_36 : decode cX2_init 36 = .ok (.aload_n 0, 1) := by decide +kernel
theorem dX2_init_37 : decode cX2_init 37 = .ok (.bipush 9, 2) := by decide +kernel
theorem dX2_init_39 : decode cX2_init 39 = .ok (.newarray .int, 2) := by decide +kernel
theorem dX2_init_41 : decode cX2_init 41 = .ok (.putfield 24, 3) := by decide +kernel
theorem dX2_init_44 : decode cX2_init 44 = .ok (.return_, 1) := by decide +kernel
theorem dX2_isThere_0 : decode cX2_isThere 0 = .ok (.aload_n 0, 1) := by decide +kernel
theorem dX2_isThere_1 : decode cX2_isThere 1 = .ok (.getfield 27, 3) := by decide +kernel
theorem dX2_isThere_4 : decode cX2_isThere 4 = .ok (.ifCond .le 7, 3) := by decide +kernel
theorem dX2_isThere_7 : decode cX2_isThere 7 = .ok (.iconst 1, 1) := by decide +kernel
theorem dX2_isThere_8 : decode cX2_isThere 8 = .ok (.goto 4, 3) := by decide +kernel
theorem dX2_isThere_11 : decode cX2_isThere 11 = .ok (.iconst 0, 1) := by decide +kernel
theorem dX2_isThere_12 : decode cX2_isThere 12 = .ok (.ireturn, 1) := by decide +kernel
theorem dX2_hasLetter_0 : decode cX2_hasLetter 0 = .ok (.iload_n 1, 1) := by decide +kernel
theorem dX2_hasLetter_1 : decode cX2_hasLetter 1 = .ok (.ifCond .lt 15, 3) := by decide +kernel
theorem dX2_hasLetter_4 : decode cX2_hasLetter 4 = .ok (.iload_n 1, 1) := by decide +kernel
theorem dX2_hasLetter_5 : decode cX2_hasLetter 5 = .ok (.aload_n 0, 1) := by decide +kernel
theorem dX2_hasLetter_6 : decode cX2_hasLetter 6 = .ok (.getfield 27, 3) := by decide +kernel
theorem dX2_hasLetter_9 : decode cX2_hasLetter 9 = .ok (.if_icmp .ge 7, 3) := by decide +kernel
theorem dX2_hasLetter_12 : decode cX2_hasLetter 12 = .ok (.iconst 1, 1) := by decide +kernel
theorem dX2_hasLetter_13 : decode cX2_hasLetter 13 = .ok (.goto 4, 3) := by decide +kernel
theorem dX2_hasLetter_16 : decode cX2_hasLetter 16 = .ok (.iconst 0, 1) := by decide +kernel
theorem dX2_hasLetter_17 : decode cX2_hasLetter 17 = .ok (.ireturn, 1) := by decide +kernel
theorem dX2_hasPlace_0 : decode cX2_hasPlace 0 = .ok (.iload_n 1, 1) := by decide +kernel
theorem dX2_hasPlace_1 : decode cX2_hasPlace 1 = .ok (.ifCond .eq 8, 3) := by decide +kernel
theorem dX2_hasPlace_4 : decode cX2_hasPlace 4 = .ok (.iload_n 1, 1) := by decide +kernel
theorem dX2_hasPlace_5 : decode cX2_hasPlace 5 = .ok (.iconst 1, 1) := by decide +kernel
theorem dX2_hasPlace_6 : decode cX2_hasPlace 6 = .ok (.if_icmp .ne 19, 3) := by decide +kernel
theorem dX2_hasPlace_9 : decode cX2_hasPlace 9 = .ok (.iload_n 2, 1) := by decide +kernel
theorem dX2_hasPlace_10 : decode cX2_hasPlace 10 = .ok (.ifCond .lt 15, 3) := by decide +kernel
theorem dX2_hasPlace_13 : decode cX2_hasPlace 13 = .ok (.iload_n 2, 1) := by decide +kernel
theorem dX2_hasPlace_14 : decode cX2_hasPlace 14 = .ok (.aload_n 0, 1) := by decide +kernel
theorem dX2_hasPlace_15 : decode cX2_hasPlace 15 = .ok (.getfield 31, 3) := by decide +kernel
theorem dX2_hasPlace_18 : decode cX2_hasPlace 18 = .ok (.if_icmp .ge 7, 3) := by decide +kernel
theorem dX2_hasPlace_21 : decode cX2_hasPlace 21 = .ok (.iconst 1, 1) := by decide +kernel
theorem dX2_hasPlace_22 : decode cX2_hasPlace 22 = .ok (.goto 4, 3) := by decide +kernel
theorem dX2_hasPlace_25 : decode cX2_hasPlace 25 = .ok (.iconst 0, 1) := by decide +kernel
theorem dX2_hasPlace_26 : decode cX2_hasPlace 26 = .ok (.ireturn, 1) := by decide +kernel
theorem dX2_makeEmpty_0 : decode cX2_makeEmpty 0 = .ok (.aload_n 0, 1) := by decide +kernel
theorem dX2_makeEmpty_1 : decode cX2_makeEmpty 1 = .ok (.iconst 0, 1) := by decide +kernel
theorem dX2_makeEmpty_2 : decode cX2_makeEmpty 2 = .ok (.putfield 34, 3) := by decide +kernel
theorem dX2_makeEmpty_5 : decode cX2_makeEmpty 5 = .ok (.aload_n 0, 1) := by decide +kernel
theorem dX2_makeEmpty_6 : decode cX2_makeEmpty 6 = .ok (.iconst 0, 1) := by decide +kernel
theorem dX2_makeEmpty_7 : decode cX2_makeEmpty 7 = .ok (.putfield 27, 3) := by decide +kernel
theorem dX2_makeEmpty_10 : decode cX2_makeEmpty 10 = .ok (.aload_n 0, 1) := by decide +kernel
theorem dX2_makeEmpty_11 : decode cX2_makeEmpty 11 = .ok (.iconst 0, 1) := by decide +kernel
theorem dX2_makeEmpty_12 : decode cX2_makeEmpty 12 = .ok (.putfield 31, 3) := by decide +kernel
theorem dX2_makeEmpty_15 : decode cX2_makeEmpty 15 = .ok (.return_, 1) := by decide +kernel
theorem dX2_takeAll_0 : decode cX2_takeAll 0 = .ok (.aload_n 0, 1) := by decide +kernel
theorem dX2_takeAll_1 : decode cX2_takeAll 1 = .ok (.aload_n 1, 1) := by decide +kernel
theorem dX2_takeAll_2 : decode cX2_takeAll 2 = .ok (.getfield 34, 3) := by decide +kernel
theorem dX2_takeAll_5 : decode cX2_takeAll 5 = .ok (.putfield 34, 3) := by decide +kernel
theorem dX2_takeAll_8 : decode cX2_takeAll 8 = .ok (.aload_n 0, 1) := by decide +kernel
theorem dX2_takeAll_9 : decode cX2_takeAll 9 = .ok (.aload_n 1, 1) := by decide +kernel
theorem dX2_takeAll_10 : decode cX2_takeAll 10 = .ok (.getfield 27, 3) := by decide +kernel
theorem dX2_takeAll_13 : decode cX2_takeAll 13 = .ok (.putfield 27, 3) := by decide +kernel
theorem dX2_takeAll_16 : decode cX2_takeAll 16 = .ok (.aload_n 0, 1) := by decide +kernel
theorem dX2_takeAll_17 : decode cX2_takeAll 17 = .ok (.aload_n 1, 1) := by decide +kernel
theorem dX2_takeAll_18 : decode cX2_takeAll 18 = .ok (.getfield 31, 3) := by decide +kernel
theorem dX2_takeAll_21 : decode cX2_takeAll 21 = .ok (.putfield 31, 3) := by decide +kernel
theorem dX2_takeAll_24 : decode cX2_takeAll 24 = .ok (.aload_n 1, 1) := by decide +kernel
theorem dX2_takeAll_25 : decode cX2_takeAll 25 = .ok (.getfield 9, 3) := by decide +kernel
theorem dX2_takeAll_28 : decode cX2_takeAll 28 = .ok (.iconst 0, 1) := by decide +kernel
theorem dX2_takeAll_29 : decode cX2_takeAll 29 = .ok (.aload_n 0, 1) := by decide +kernel
theorem dX2_takeAll_30 : decode cX2_takeAll 30 = .ok (.getfield 9, 3) := by decide +kernel
theorem dX2_takeAll_33 : decode cX2_takeAll 33 = .ok (.iconst 0, 1) := by decide +kernel
theorem dX2_takeAll_34 : decode cX2_takeAll 34 = .ok (.bipush 8, 2) := by decide +kernel
theorem dX2_takeAll_36 : decode cX2_takeAll 36 = .ok (.invokestatic 37, 3) := by decide +kernel
theorem dX2_takeAll_39 : decode cX2_takeAll 39 = .ok (.aload_n 1, 1) := by decide +kernel
theorem dX2_takeAll_40 : decode cX2_takeAll 40 = .ok (.getfield 15, 3) := by decide +kernel
theorem dX2_takeAll_43 : decode cX2_takeAll 43 = .ok (.iconst 0, 1) := by decide +kernel
theorem dX2_takeAll_44 : decode cX2_takeAll 44 = .ok (.aload_n 0, 1) := by decide +kernel
theorem dX2_takeAll_45 : decode cX2_takeAll 45 = .ok (.getfield 15, 3) := by decide +kernel
theorem dX2_takeAll_48 : decode cX2_takeAll 48 = .ok (.iconst 0, 1) := by decide +kernel
theorem dX2_takeAll_49 : decode cX2_takeAll 49 = .ok (.bipush 8, 2) := by decide +kernel
theorem dX2_takeAll_51 : decode cX2_takeAll 51 = .ok (.invokestatic 37, 3) := by decide +kernel
theorem dX2_takeAll_54 : decode cX2_takeAll 54 = .ok (.aload_n 1, 1) := by decide +kernel
theorem dX2_takeAll_55 : decode cX2_takeAll 55 = .ok (.getfield 18, 3) := by decide +kernel
theorem dX2_takeAll_58 : decode cX2_takeAll 58 = .ok (.iconst 0, 1) := by decide +kernel
theorem dX2_takeAll_59 : decode cX2_takeAll 59 = .ok (.aload_n 0, 1) := by decide +kernel
theorem dX2_takeAll_60 : decode cX2_takeAll 60 = .ok (.getfield 18, 3) := by decide +kernel
theorem dX2_takeAll_63 : decode cX2_takeAll 63 = .ok (.iconst 0, 1) := by decide +kernel
theorem dX2_takeAll_64 : decode cX2_takeAll 64 = .ok (.bipush 8, 2) := by decide +kernel
theorem dX2_takeAll_66 : decode cX2_takeAll 66 = .ok (.invokestatic 37, 3) := by decide +kernel
theorem dX2_takeAll_69 : decode cX2_takeAll 69 = .ok (.aload_n 1, 1) := by decide +kernel
theorem dX2_takeAll_70 : decode cX2_takeAll 70 = .ok (.getfield 21, 3) := by decide +kernel
theorem dX2_takeAll_73 : decode cX2_takeAll 73 = .ok (.iconst 0, 1) := by decide +kernel
theorem dX2_takeAll_74 : decode cX2_takeAll 74 = .ok (.aload_n 0, 1) := by decide +kernel
theorem dX2_takeAll_75 : decode cX2_takeAll 75 = .ok (.getfield 21, 3) := by decide +kernel
theorem dX2_takeAll_78 : decode cX2_takeAll 78 = .ok (.iconst 0, 1) := by decide +kernel
theorem dX2_takeAll_79 : decode cX2_takeAll 79 = .ok (.bipush 9, 2) := by decide +kernel
theorem dX2_takeAll_81 : decode cX2_takeAll 81 = .ok (.invokestatic 37, 3) := by decide +kernel
theorem dX2_takeAll_84 : decode cX2_takeAll 84 = .ok (.aload_n 1, 1) := by decide +kernel
theorem dX2_takeAll_85 : decode cX2_takeAll 85 = .ok (.getfield 24, 3) := by decide +kernel
theorem dX2_takeAll_88 : decode cX2_takeAll 88 = .ok (.iconst 0, 1) := by decide +kernel
theorem dX2_takeAll_89 : decode cX2_takeAll 89 = .ok (.aload_n 0, 1) := by decide +kernel
theorem dX2_takeAll_90 : decode cX2_takeAll 90 = .ok (.getfield 24, 3) := by decide +kernel
theorem dX2_takeAll_93 : decode cX2_takeAll 93 = .ok (.iconst 0, 1) := by decide +kernel
theorem dX2_takeAll_94 : decode cX2_takeAll 94 = .ok (.bipush 9, 2) := by decide +kernel
theorem dX2_takeAll_96 : decode cX2_takeAll 96 = .ok (.invokestatic 37, 3) := by decide +kernel
theorem dX2_takeAll_99 : decode cX2_takeAll 99 = .ok (.return_, 1) := by decide +kernel
theorem dX2_addLetter_0 : decode cX2_addLetter 0 = .ok (.aload_n 0, 1) := by decide +kernel
theorem dX2_addLetter_1 : decode cX2_addLetter 1 = .ok (.getfield 15, 3) := by decide +kernel
theorem dX2_addLetter_4 : decode cX2_addLetter 4 = .ok (.aload_n 0, 1) := by decide +kernel
theorem dX2_addLetter_5 : decode cX2_addLetter 5 = .ok (.getfield 27, 3) := by decide +kernel
theorem dX2_addLetter_8 : decode cX2_addLetter 8 = .ok (.iload_n 1, 1) := by decide +kernel
theorem dX2_addLetter_9 : decode cX2_addLetter 9 = .ok (.invokestatic 41, 3) := by decide +kernel
theorem dX2_addLetter_12 : decode cX2_addLetter 12 = .ok (.aload_n 0, 1) := by decide +kernel
theorem dX2_addLetter_13 : decode cX2_addLetter 13 = .ok (.getfield 9, 3) := by decide +kernel
theorem dX2_addLetter_16 : decode cX2_addLetter 16 = .ok (.aload_n 0, 1) := by decide +kernel
theorem dX2_addLetter_17 : decode cX2_addLetter 17 = .ok (.getfield 27, 3) := by decide +kernel
theorem dX2_addLetter_20 : decode cX2_addLetter 20 = .ok (.iload_n 2, 1) := by decide +kernel
theorem dX2_addLetter_21 : decode cX2_addLetter 21 = .ok (.invokestatic 41, 3) := by decide +kernel
theorem dX2_addLetter_24 : decode cX2_addLetter 24 = .ok (.aload_n 0, 1) := by decide +kernel
theorem dX2_addLetter_25 : decode cX2_addLetter 25 = .ok (.getfield 18, 3) := by decide +kernel
theorem dX2_addLetter_28 : decode cX2_addLetter 28 = .ok (.aload_n 0, 1) := by decide +kernel
theorem dX2_addLetter_29 : decode cX2_addLetter 29 = .ok (.getfield 27, 3) := by decide +kernel
theorem dX2_addLetter_32 : decode cX2_addLetter 32 = .ok (.iload_n 1, 1) := by decide +kernel
theorem dX2_addLetter_33 : decode cX2_addLetter 33 = .ok (.iload_n 2, 1) := by decide +kernel
theorem dX2_addLetter_34 : decode cX2_addLetter 34 = .ok (.invokestatic 45, 3) := by decide +kernel
theorem dX2_addLetter_37 : decode cX2_addLetter 37 = .ok (.invokestatic 41, 3) := by decide +kernel
theorem dX2_addLetter_40 : decode cX2_addLetter 40 = .ok (.aload_n 0, 1) := by decide +kernel
theorem dX2_addLetter_41 : decode cX2_addLetter 41 = .ok (.dup, 1) := by decide +kernel
theorem dX2_addLetter_42 : decode cX2_addLetter 42 = .ok (.getfield 27, 3) := by decide +kernel
theorem dX2_addLetter_45 : decode cX2_addLetter 45 = .ok (.iconst 1, 1) := by decide +kernel
theorem dX2_addLetter_46 : decode cX2_addLetter 46 = .ok (.iadd, 1) := by decide +kernel
theorem dX2_addLetter_47 : decode cX2_addLetter 47 = .ok (.putfield 27, 3) := by decide +kernel
theorem dX2_addLetter_50 : decode cX2_addLetter 50 = .ok (.return_, 1) := by decide +kernel
theorem dX2_addPlace_0 : decode cX2_addPlace 0 = .ok (.aload_n 0, 1) := by decide +kernel
theorem dX2_addPlace_1 : decode cX2_addPlace 1 = .ok (.getfield 21, 3) := by decide +kernel
theorem dX2_addPlace_4 : decode cX2_addPlace 4 = .ok (.aload_n 0, 1) := by decide +kernel
theorem dX2_addPlace_5 : decode cX2_addPlace 5 = .ok (.getfield 31, 3) := by decide +kernel
theorem dX2_addPlace_8 : decode cX2_addPlace 8 = .ok (.iload_n 1, 1) := by decide +kernel
theorem dX2_addPlace_9 : decode cX2_addPlace 9 = .ok (.invokestatic 41, 3) := by decide +kernel
theorem dX2_addPlace_12 : decode cX2_addPlace 12 = .ok (.aload_n 0, 1) := by decide +kernel
theorem dX2_addPlace_13 : decode cX2_addPlace 13 = .ok (.dup, 1) := by decide +kernel
theorem dX2_addPlace_14 : decode cX2_addPlace 14 = .ok (.getfield 31, 3) := by decide +kernel
theorem dX2_addPlace_17 : decode cX2_addPlace 17 = .ok (.iconst 1, 1) := by decide +kernel
theorem dX2_addPlace_18 : decode cX2_addPlace 18 = .ok (.iadd, 1) := by decide +kernel
theorem dX2_addPlace_19 : decode cX2_addPlace 19 = .ok (.putfield 31, 3) := by decide +kernel
theorem dX2_addPlace_22 : decode cX2_addPlace 22 = .ok (.return_, 1) := by decide +kernel
theorem dX2_putLetter_0 : decode cX2_putLetter 0 = .ok (.iload_n 1, 1) := by decide +kernel
theorem dX2_putLetter_1 : decode cX2_putLetter 1 = .ok (.ifCond .ne 10, 3) := by decide +kernel
theorem dX2_putLetter_4 : decode cX2_putLetter 4 = .ok (.aload_n 0, 1) := by decide +kernel
theorem dX2_putLetter_5 : decode cX2_putLetter 5 = .ok (.getfield 21, 3) := by decide +kernel
theorem dX2_putLetter_8 : decode cX2_putLetter 8 = .ok (.goto 7, 3) := by decide +kernel
theorem dX2_putLetter_11 : decode cX2_putLetter 11 = .ok (.aload_n 0, 1) := by decide +kernel
theorem dX2_putLetter_12 : decode cX2_putLetter 12 = .ok (.getfield 24, 3) := by decide +kernel
theorem dX2_putLetter_15 : decode cX2_putLetter 15 = .ok (.iload_n 2, 1) := by decide +kernel
theorem dX2_putLetter_16 : decode cX2_putLetter 16 = .ok (.iload_n 3, 1) := by decide +kernel
theorem dX2_putLetter_17 : decode cX2_putLetter 17 = .ok (.invokestatic 41, 3) := by decide +kernel
theorem dX2_putLetter_20 : decode cX2_putLetter 20 = .ok (.return_, 1) := by decide +kernel
theorem dX2_turnOver_0 : decode cX2_turnOver 0 = .ok (.iconst 0, 1) := by decide +kernel
theorem dX2_turnOver_1 : decode cX2_turnOver 1 = .ok (.istore_n 1, 1) := by decide +kernel
theorem dX2_turnOver_2 : decode cX2_turnOver 2 = .ok (.iload_n 1, 1) := by decide +kernel
theorem dX2_turnOver_3 : decode cX2_turnOver 3 = .ok (.aload_n 0, 1) := by decide +kernel
theorem dX2_turnOver_4 : decode cX2_turnOver 4 = .ok (.getfield 31, 3) := by decide +kernel
theorem dX2_turnOver_7 : decode cX2_turnOver 7 = .ok (.if_icmp .ge 35, 3) := by decide +kernel
theorem dX2_turnOver_10 : decode cX2_turnOver 10 = .ok (.aload_n 0, 1) := by decide +kernel
theorem dX2_turnOver_11 : decode cX2_turnOver 11 = .ok (.iconst 0, 1) := by decide +kernel
theorem dX2_turnOver_12 : decode cX2_turnOver 12 = .ok (.iload_n 1, 1) := by decide +kernel
theorem dX2_turnOver_13 : decode cX2_turnOver 13 = .ok (.invokevirtual 49, 3) := by decide +kernel
theorem dX2_turnOver_16 : decode cX2_turnOver 16 = .ok (.istore_n 2, 1) := by decide +kernel
theorem dX2_turnOver_17 : decode cX2_turnOver 17 = .ok (.aload_n 0, 1) := by decide +kernel
theorem dX2_turnOver_18 : decode cX2_turnOver 18 = .ok (.iconst 0, 1) := by decide +kernel
theorem dX2_turnOver_19 : decode cX2_turnOver 19 = .ok (.iload_n 1, 1) := by decide +kernel
theorem dX2_turnOver_20 : decode cX2_turnOver 20 = .ok (.aload_n 0, 1) := by decide +kernel
theorem dX2_turnOver_21 : decode cX2_turnOver 21 = .ok (.iconst 1, 1) := by decide +kernel
theorem dX2_turnOver_22 : decode cX2_turnOver 22 = .ok (.iload_n 1, 1) := by decide +kernel
theorem dX2_turnOver_23 : decode cX2_turnOver 23 = .ok (.invokevirtual 49, 3) := by decide +kernel
theorem dX2_turnOver_26 : decode cX2_turnOver 26 = .ok (.invokevirtual 52, 3) := by decide +kernel
theorem dX2_turnOver_29 : decode cX2_turnOver 29 = .ok (.aload_n 0, 1) := by decide +kernel
theorem dX2_turnOver_30 : decode cX2_turnOver 30 = .ok (.iconst 1, 1) := by decide +kernel
theorem dX2_turnOver_31 : decode cX2_turnOver 31 = .ok (.iload_n 1, 1) := by decide +kernel
theorem dX2_turnOver_32 : decode cX2_turnOver 32 = .ok (.iload_n 2, 1) := by decide +kernel
theorem dX2_turnOver_33 : decode cX2_turnOver 33 = .ok (.invokevirtual 52, 3) := by decide +kernel
theorem dX2_turnOver_36 : decode cX2_turnOver 36 = .ok (.iinc 1 1, 3) := by decide +kernel
theorem dX2_turnOver_39 : decode cX2_turnOver 39 = .ok (.goto (-37), 3) := by decide +kernel
theorem dX2_turnOver_42 : decode cX2_turnOver 42 = .ok (.return_, 1) := by decide +kernel
theorem dX2_cellsOf_0 : decode cX2_cellsOf 0 = .ok (.aload_n 0, 1) := by decide +kernel
theorem dX2_cellsOf_1 : decode cX2_cellsOf 1 = .ok (.getfield 9, 3) := by decide +kernel
theorem dX2_cellsOf_4 : decode cX2_cellsOf 4 = .ok (.iload_n 1, 1) := by decide +kernel
theorem dX2_cellsOf_5 : decode cX2_cellsOf 5 = .ok (.invokestatic 56, 3) := by decide +kernel
theorem dX2_cellsOf_8 : decode cX2_cellsOf 8 = .ok (.ireturn, 1) := by decide +kernel
theorem dX2_kindOf_0 : decode cX2_kindOf 0 = .ok (.aload_n 0, 1) := by decide +kernel
theorem dX2_kindOf_1 : decode cX2_kindOf 1 = .ok (.getfield 15, 3) := by decide +kernel
theorem dX2_kindOf_4 : decode cX2_kindOf 4 = .ok (.iload_n 1, 1) := by decide +kernel
theorem dX2_kindOf_5 : decode cX2_kindOf 5 = .ok (.invokestatic 56, 3) := by decide +kernel
theorem dX2_kindOf_8 : decode cX2_kindOf 8 = .ok (.ireturn, 1) := by decide +kernel
theorem dX2_throughOf_0 : decode cX2_throughOf 0 = .ok (.aload_n 0, 1) := by decide +kernel
theorem dX2_throughOf_1 : decode cX2_throughOf 1 = .ok (.getfield 18, 3) := by decide +kernel
theorem dX2_throughOf_4 : decode cX2_throughOf 4 = .ok (.iload_n 1, 1) := by decide +kernel
theorem dX2_throughOf_5 : decode cX2_throughOf 5 = .ok (.invokestatic 56, 3) := by decide +kernel
theorem dX2_throughOf_8 : decode cX2_throughOf 8 = .ok (.ireturn, 1) := by decide +kernel
theorem dX2_letterAt_0 : decode cX2_letterAt 0 = .ok (.iload_n 1, 1) := by decide +kernel
theorem dX2_letterAt_1 : decode cX2_letterAt 1 = .ok (.ifCond .ne 10, 3) := by decide +kernel
theorem dX2_letterAt_4 : decode cX2_letterAt 4 = .ok (.aload_n 0, 1) := by decide +kernel
theorem dX2_letterAt_5 : decode cX2_letterAt 5 = .ok (.getfield 21, 3) := by decide +kernel
theorem dX2_letterAt_8 : decode cX2_letterAt 8 = .ok (.goto 7, 3) := by decide +kernel
theorem dX2_letterAt_11 : decode cX2_letterAt 11 = .ok (.aload_n 0, 1) := by decide +kernel
theorem dX2_letterAt_12 : decode cX2_letterAt 12 = .ok (.getfield 24, 3) := by decide +kernel
theorem dX2_letterAt_15 : decode cX2_letterAt 15 = .ok (.iload_n 2, 1) := by decide +kernel
theorem dX2_letterAt_16 : decode cX2_letterAt 16 = .ok (.invokestatic 56, 3) := by decide +kernel
theorem dX2_letterAt_19 : decode cX2_letterAt 19 = .ok (.ireturn, 1) := by decide +kernel
theorem dX2_letterBehind_0 : decode cX2_letterBehind 0 = .ok (.aload_n 0, 1) := by decide +kernel
theorem dX2_letterBehind_1 : decode cX2_letterBehind 1 = .ok (.iload_n 1, 1) := by decide +kernel
theorem dX2_letterBehind_2 : decode cX2_letterBehind 2 = .ok (.ifCond .ne 7, 3) := by decide +kernel
theorem dX2_letterBehind_5 : decode cX2_letterBehind 5 = .ok (.iconst 1, 1) := by decide +kernel
theorem dX2_letterBehind_6 : decode cX2_letterBehind 6 = .ok (.goto 4, 3) := by decide +kernel
theorem dX2_letterBehind_9 : decode cX2_letterBehind 9 = .ok (.iconst 0, 1) := by decide +kernel
theorem dX2_letterBehind_10 : decode cX2_letterBehind 10 = .ok (.aload_n 0, 1) := by decide +kernel
theorem dX2_letterBehind_11 : decode cX2_letterBehind 11 = .ok (.getfield 31, 3) := by decide +kernel
theorem dX2_letterBehind_14 : decode cX2_letterBehind 14 = .ok (.iconst 1, 1) := by decide +kernel
theorem dX2_letterBehind_15 : decode cX2_letterBehind 15 = .ok (.isub, 1) := by decide +kernel
theorem dX2_letterBehind_16 : decode cX2_letterBehind 16 = .ok (.iload_n 2, 1) := by decide +kernel
theorem dX2_letterBehind_17 : decode cX2_letterBehind 17 = .ok (.isub, 1) := by decide +kernel
theorem dX2_letterBehind_18 : decode cX2_letterBehind 18 = .ok (.invokevirtual 49, 3) := by decide +kernel
theorem dX2_letterBehind_21 : decode cX2_letterBehind 21 = .ok (.ireturn, 1) := by decide +kernel
theorem dX2_shownByLight_0 : decode cX2_shownByLight 0 = .ok (.aload_n 0, 1) := by decide +kernel
theorem dX2_shownByLight_1 : decode cX2_shownByLight 1 = .ok (.aload_n 0, 1) := by decide +kernel
theorem dX2_shownByLight_2 : decode cX2_shownByLight 2 = .ok (.iload_n 1, 1) := by decide +kernel
theorem dX2_shownByLight_3 : decode cX2_shownByLight 3 = .ok (.iload_n 2, 1) := by decide +kernel
theorem dX2_shownByLight_4 : decode cX2_shownByLight 4 = .ok (.invokevirtual 49, 3) := by decide +kernel
theorem dX2_shownByLight_7 : decode cX2_shownByLight 7 = .ok (.aload_n 0, 1) := by decide +kernel
theorem dX2_shownByLight_8 : decode cX2_shownByLight 8 = .ok (.iload_n 1, 1) := by decide +kernel
theorem dX2_shownByLight_9 : decode cX2_shownByLight 9 = .ok (.iload_n 2, 1) := by decide +kernel
theorem dX2_shownByLight_10 : decode cX2_shownByLight 10 = .ok (.invokevirtual 60, 3) := by decide +kernel
theorem dX2_shownByLight_13 : decode cX2_shownByLight 13 = .ok (.invokevirtual 63, 3) := by decide +kernel
theorem dX2_shownByLight_16 : decode cX2_shownByLight 16 = .ok (.ireturn, 1) := by decide +kernel
theorem dX2_shownByDamp_0 : decode cX2_shownByDamp 0 = .ok (.aload_n 0, 1) := by decide +kernel
theorem dX2_shownByDamp_1 : decode cX2_shownByDamp 1 = .ok (.iload_n 1, 1) := by decide +kernel
theorem dX2_shownByDamp_2 : decode cX2_shownByDamp 2 = .ok (.iload_n 2, 1) := by decide +kernel
theorem dX2_shownByDamp_3 : decode cX2_shownByDamp 3 = .ok (.invokevirtual 60, 3) := by decide +kernel
theorem dX2_shownByDamp_6 : decode cX2_shownByDamp 6 = .ok (.istore 4, 2) := by decide +kernel
theorem dX2_shownByDamp_8 : decode cX2_shownByDamp 8 = .ok (.aload_n 0, 1) := by decide +kernel
theorem dX2_shownByDamp_9 : decode cX2_shownByDamp 9 = .ok (.iload 4, 2) := by decide +kernel
theorem dX2_shownByDamp_11 : decode cX2_shownByDamp 11 = .ok (.invokevirtual 66, 3) := by decide +kernel
theorem dX2_shownByDamp_14 : decode cX2_shownByDamp 14 = .ok (.istore 5, 2) := by decide +kernel
theorem dX2_shownByDamp_16 : decode cX2_shownByDamp 16 = .ok (.iload 5, 2) := by decide +kernel
theorem dX2_shownByDamp_18 : decode cX2_shownByDamp 18 = .ok (.iconst 2, 1) := by decide +kernel
theorem dX2_shownByDamp_19 : decode cX2_shownByDamp 19 = .ok (.if_icmp .ne 7, 3) := by decide +kernel
theorem dX2_shownByDamp_22 : decode cX2_shownByDamp 22 = .ok (.iconst 0, 1) := by decide +kernel
theorem dX2_shownByDamp_23 : decode cX2_shownByDamp 23 = .ok (.goto 22, 3) := by decide +kernel
theorem dX2_shownByDamp_26 : decode cX2_shownByDamp 26 = .ok (.iload 5, 2) := by decide +kernel
theorem dX2_shownByDamp_28 : decode cX2_shownByDamp 28 = .ok (.iconst 3, 1) := by decide +kernel
theorem dX2_shownByDamp_29 : decode cX2_shownByDamp 29 = .ok (.if_icmp .ne 12, 3) := by decide +kernel
theorem dX2_shownByDamp_32 : decode cX2_shownByDamp 32 = .ok (.iconst 2, 1) := by decide +kernel
theorem dX2_shownByDamp_33 : decode cX2_shownByDamp 33 = .ok (.aload_n 0, 1) := by decide +kernel
theorem dX2_shownByDamp_34 : decode cX2_shownByDamp 34 = .ok (.getfield 34, 3) := by decide +kernel
theorem dX2_shownByDamp_37 : decode cX2_shownByDamp 37 = .ok (.imul, 1) := by decide +kernel
theorem dX2_shownByDamp_38 : decode cX2_shownByDamp 38 = .ok (.goto 7, 3) := by decide +kernel
theorem dX2_shownByDamp_41 : decode cX2_shownByDamp 41 = .ok (.aload_n 0, 1) := by decide +kernel
theorem dX2_shownByDamp_42 : decode cX2_shownByDamp 42 = .ok (.getfield 34, 3) := by decide +kernel
theorem dX2_shownByDamp_45 : decode cX2_shownByDamp 45 = .ok (.istore 6, 2) := by decide +kernel
theorem dX2_shownByDamp_47 : decode cX2_shownByDamp 47 = .ok (.aload_n 0, 1) := by decide +kernel
theorem dX2_shownByDamp_48 : decode cX2_shownByDamp 48 = .ok (.iload_n 1, 1) := by decide +kernel
theorem dX2_shownByDamp_49 : decode cX2_shownByDamp 49 = .ok (.iload_n 2, 1) := by decide +kernel
theorem dX2_shownByDamp_50 : decode cX2_shownByDamp 50 = .ok (.invokevirtual 49, 3) := by decide +kernel
theorem dX2_shownByDamp_53 : decode cX2_shownByDamp 53 = .ok (.istore 7, 2) := by decide +kernel
theorem dX2_shownByDamp_55 : decode cX2_shownByDamp 55 = .ok (.iload_n 3, 1) := by decide +kernel
theorem dX2_shownByDamp_56 : decode cX2_shownByDamp 56 = .ok (.iload 6, 2) := by decide +kernel
theorem dX2_shownByDamp_58 : decode cX2_shownByDamp 58 = .ok (.if_icmp .lt 14, 3) := by decide +kernel
theorem dX2_shownByDamp_61 : decode cX2_shownByDamp 61 = .ok (.aload_n 0, 1) := by decide +kernel
theorem dX2_shownByDamp_62 : decode cX2_shownByDamp 62 = .ok (.iload 7, 2) := by decide +kernel
theorem dX2_shownByDamp_64 : decode cX2_shownByDamp 64 = .ok (.iload 4, 2) := by decide +kernel
theorem dX2_shownByDamp_66 : decode cX2_shownByDamp 66 = .ok (.invokevirtual 63, 3) := by decide +kernel
theorem dX2_shownByDamp_69 : decode cX2_shownByDamp 69 = .ok (.goto 9, 3) := by decide +kernel
theorem dX2_shownByDamp_72 : decode cX2_shownByDamp 72 = .ok (.aload_n 0, 1) := by decide +kernel
theorem dX2_shownByDamp_73 : decode cX2_shownByDamp 73 = .ok (.iload 7, 2) := by decide +kernel
theorem dX2_shownByDamp_75 : decode cX2_shownByDamp 75 = .ok (.invokevirtual 70, 3) := by decide +kernel
theorem dX2_shownByDamp_78 : decode cX2_shownByDamp 78 = .ok (.ireturn, 1) := by decide +kernel
theorem dX2_nearest_0 : decode cX2_nearest 0 = .ok (.iconst 0, 1) := by decide +kernel
theorem dX2_nearest_1 : decode cX2_nearest 1 = .ok (.istore_n 2, 1) := by decide +kernel
theorem dX2_nearest_2 : decode cX2_nearest 2 = .ok (.iconst 1, 1) := by decide +kernel
theorem dX2_nearest_3 : decode cX2_nearest 3 = .ok (.istore_n 3, 1) := by decide +kernel
theorem dX2_nearest_4 : decode cX2_nearest 4 = .ok (.iload_n 3, 1) := by decide +kernel
theorem dX2_nearest_5 : decode cX2_nearest 5 = .ok (.aload_n 0, 1) := by decide +kernel
theorem dX2_nearest_6 : decode cX2_nearest 6 = .ok (.getfield 27, 3) := by decide +kernel
theorem dX2_nearest_9 : decode cX2_nearest 9 = .ok (.if_icmp .ge 26, 3) := by decide +kernel
theorem dX2_nearest_12 : decode cX2_nearest 12 = .ok (.aload_n 0, 1) := by decide +kernel
theorem dX2_nearest_13 : decode cX2_nearest 13 = .ok (.iload_n 3, 1) := by decide +kernel
theorem dX2_nearest_14 : decode cX2_nearest 14 = .ok (.iload_n 1, 1) := by decide +kernel
theorem dX2_nearest_15 : decode cX2_nearest 15 = .ok (.invokevirtual 73, 3) := by decide +kernel
theorem dX2_nearest_18 : decode cX2_nearest 18 = .ok (.aload_n 0, 1) := by decide +kernel
theorem dX2_nearest_19 : decode cX2_nearest 19 = .ok (.iload_n 2, 1) := by decide +kernel
theorem dX2_nearest_20 : decode cX2_nearest 20 = .ok (.iload_n 1, 1) := by decide +kernel
theorem dX2_nearest_21 : decode cX2_nearest 21 = .ok (.invokevirtual 73, 3) := by decide +kernel
theorem dX2_nearest_24 : decode cX2_nearest 24 = .ok (.if_icmp .ge 5, 3) := by decide +kernel
theorem dX2_nearest_27 : decode cX2_nearest 27 = .ok (.iload_n 3, 1) := by decide +kernel
theorem dX2_nearest_28 : decode cX2_nearest 28 = .ok (.istore_n 2, 1) := by decide +kernel
theorem dX2_nearest_29 : decode cX2_nearest 29 = .ok (.iinc 3 1, 3) := by decide +kernel
theorem dX2_nearest_32 : decode cX2_nearest 32 = .ok (.goto (-28), 3) := by decide +kernel
theorem dX2_nearest_35 : decode cX2_nearest 35 = .ok (.iload_n 2, 1) := by decide +kernel
theorem dX2_nearest_36 : decode cX2_nearest 36 = .ok (.ireturn, 1) := by decide +kernel
theorem dX2_leastOff_0 : decode cX2_leastOff 0 = .ok (.aload_n 0, 1) := by decide +kernel
theorem dX2_leastOff_1 : decode cX2_leastOff 1 = .ok (.aload_n 0, 1) := by decide +kernel
theorem dX2_leastOff_2 : decode cX2_leastOff 2 = .ok (.iload_n 1, 1) := by decide +kernel
theorem dX2_leastOff_3 : decode cX2_leastOff 3 = .ok (.invokevirtual 76, 3) := by decide +kernel
theorem dX2_leastOff_6 : decode cX2_leastOff 6 = .ok (.iload_n 1, 1) := by decide +kernel
theorem dX2_leastOff_7 : decode cX2_leastOff 7 = .ok (.invokevirtual 73, 3) := by decide +kernel
theorem dX2_leastOff_10 : decode cX2_leastOff 10 = .ok (.ireturn, 1) := by decide +kernel
theorem dX2_isDoubt_0 : decode cX2_isDoubt 0 = .ok (.aload_n 0, 1) := by decide +kernel
theorem dX2_isDoubt_1 : decode cX2_isDoubt 1 = .ok (.iload_n 1, 1) := by decide +kernel
theorem dX2_isDoubt_2 : decode cX2_isDoubt 2 = .ok (.invokevirtual 79, 3) := by decide +kernel
theorem dX2_isDoubt_5 : decode cX2_isDoubt 5 = .ok (.istore_n 2, 1) := by decide +kernel
theorem dX2_isDoubt_6 : decode cX2_isDoubt 6 = .ok (.iconst 0, 1) := by decide +kernel
theorem dX2_isDoubt_7 : decode cX2_isDoubt 7 = .ok (.istore_n 3, 1) := by decide +kernel
theorem dX2_isDoubt_8 : decode cX2_isDoubt 8 = .ok (.iconst 0, 1) := by decide +kernel
theorem dX2_isDoubt_9 : decode cX2_isDoubt 9 = .ok (.istore 4, 2) := by decide +kernel
theorem dX2_isDoubt_11 : decode cX2_isDoubt 11 = .ok (.iload 4, 2) := by decide +kernel
theorem dX2_isDoubt_13 : decode cX2_isDoubt 13 = .ok (.aload_n 0, 1) := by decide +kernel
theorem dX2_isDoubt_14 : decode cX2_isDoubt 14 = .ok (.getfield 27, 3) := by decide +kernel
theorem dX2_isDoubt_17 : decode cX2_isDoubt 17 = .ok (.if_icmp .ge 23, 3) := by decide +kernel
theorem dX2_isDoubt_20 : decode cX2_isDoubt 20 = .ok (.aload_n 0, 1) := by decide +kernel
theorem dX2_isDoubt_21 : decode cX2_isDoubt 21 = .ok (.iload 4, 2) := by decide +kernel
theorem dX2_isDoubt_23 : decode cX2_isDoubt 23 = .ok (.iload_n 1, 1) := by decide +kernel
theorem dX2_isDoubt_24 : decode cX2_isDoubt 24 = .ok (.invokevirtual 73, 3) := by decide +kernel
theorem dX2_isDoubt_27 : decode cX2_isDoubt 27 = .ok (.iload_n 2, 1) := by decide +kernel
theorem dX2_isDoubt_28 : decode cX2_isDoubt 28 = .ok (.if_icmp .ne 6, 3) := by decide +kernel
theorem dX2_isDoubt_31 : decode cX2_isDoubt 31 = .ok (.iinc 3 1, 3) := by decide +kernel
theorem dX2_isDoubt_34 : decode cX2_isDoubt 34 = .ok (.iinc 4 1, 3) := by decide +kernel
theorem dX2_isDoubt_37 : decode cX2_isDoubt 37 = .ok (.goto (-26), 3) := by decide +kernel
theorem dX2_isDoubt_40 : decode cX2_isDoubt 40 = .ok (.iload_n 3, 1) := by decide +kernel
theorem dX2_isDoubt_41 : decode cX2_isDoubt 41 = .ok (.iconst 1, 1) := by decide +kernel
theorem dX2_isDoubt_42 : decode cX2_isDoubt 42 = .ok (.if_icmp .le 7, 3) := by decide +kernel
theorem dX2_isDoubt_45 : decode cX2_isDoubt 45 = .ok (.iconst 1, 1) := by decide +kernel
theorem dX2_isDoubt_46 : decode cX2_isDoubt 46 = .ok (.goto 4, 3) := by decide +kernel
theorem dX2_isDoubt_49 : decode cX2_isDoubt 49 = .ok (.iconst 0, 1) := by decide +kernel
theorem dX2_isDoubt_50 : decode cX2_isDoubt 50 = .ok (.ireturn, 1) := by decide +kernel
theorem dX2_behindFor_0 : decode cX2_behindFor 0 = .ok (.aload_n 0, 1) := by decide +kernel
theorem dX2_behindFor_1 : decode cX2_behindFor 1 = .ok (.aload_n 0, 1) := by decide +kernel
theorem dX2_behindFor_2 : decode cX2_behindFor 2 = .ok (.iconst 0, 1) := by decide +kernel
theorem dX2_behindFor_3 : decode cX2_behindFor 3 = .ok (.iload_n 1, 1) := by decide +kernel
theorem dX2_behindFor_4 : decode cX2_behindFor 4 = .ok (.invokevirtual 49, 3) := by decide +kernel
theorem dX2_behindFor_7 : decode cX2_behindFor 7 = .ok (.iload_n 2, 1) := by decide +kernel
theorem dX2_behindFor_8 : decode cX2_behindFor 8 = .ok (.invokevirtual 82, 3) := by decide +kernel
theorem dX2_behindFor_11 : decode cX2_behindFor 11 = .ok (.ireturn, 1) := by decide +kernel
theorem dX2_behindToRead_0 : decode cX2_behindToRead 0 = .ok (.iconst 0, 1) := by decide +kernel
theorem dX2_behindToRead_1 : decode cX2_behindToRead 1 = .ok (.istore_n 3, 1) := by decide +kernel
theorem dX2_behindToRead_2 : decode cX2_behindToRead 2 = .ok (.iconst 0, 1) := by decide +kernel
theorem dX2_behindToRead_3 : decode cX2_behindToRead 3 = .ok (.istore 4, 2) := by decide +kernel
theorem dX2_behindToRead_5 : decode cX2_behindToRead 5 = .ok (.iload 4, 2) := by decide +kernel
theorem dX2_behindToRead_7 : decode cX2_behindToRead 7 = .ok (.aload_n 0, 1) := by decide +kernel
theorem dX2_behindToRead_8 : decode cX2_behindToRead 8 = .ok (.getfield 27, 3) := by decide +kernel
theorem dX2_behindToRead_11 : decode cX2_behindToRead 11 = .ok (.if_icmp .ge 27, 3) := by decide +kernel
theorem dX2_behindToRead_14 : decode cX2_behindToRead 14 = .ok (.aload_n 0, 1) := by decide +kernel
theorem dX2_behindToRead_15 : decode cX2_behindToRead 15 = .ok (.iload_n 1, 1) := by decide +kernel
theorem dX2_behindToRead_16 : decode cX2_behindToRead 16 = .ok (.iload 4, 2) := by decide +kernel
theorem dX2_behindToRead_18 : decode cX2_behindToRead 18 = .ok (.invokevirtual 85, 3) := by decide +kernel
theorem dX2_behindToRead_21 : decode cX2_behindToRead 21 = .ok (.iload_n 2, 1) := by decide +kernel
theorem dX2_behindToRead_22 : decode cX2_behindToRead 22 = .ok (.if_icmp .ne 10, 3) := by decide +kernel
theorem dX2_behindToRead_25 : decode cX2_behindToRead 25 = .ok (.iload_n 3, 1) := by decide +kernel
theorem dX2_behindToRead_26 : decode cX2_behindToRead 26 = .ok (.iconst 1, 1) := by decide +kernel
theorem dX2_behindToRead_27 : decode cX2_behindToRead 27 = .ok (.iload 4, 2) := by decide +kernel
theorem dX2_behindToRead_29 : decode cX2_behindToRead 29 = .ok (.ishl, 1) := by decide +kernel
theorem dX2_behindToRead_30 : decode cX2_behindToRead 30 = .ok (.ior, 1) := by decide +kernel
theorem dX2_behindToRead_31 : decode cX2_behindToRead 31 = .ok (.istore_n 3, 1) := by decide +kernel
theorem dX2_behindToRead_32 : decode cX2_behindToRead 32 = .ok (.iinc 4 1, 3) := by decide +kernel
theorem dX2_behindToRead_35 : decode cX2_behindToRead 35 = .ok (.goto (-30), 3) := by decide +kernel
theorem dX2_behindToRead_38 : decode cX2_behindToRead 38 = .ok (.iload_n 3, 1) := by decide +kernel
theorem dX2_behindToRead_39 : decode cX2_behindToRead 39 = .ok (.ireturn, 1) := by decide +kernel
theorem dX2_fitting_0 : decode cX2_fitting 0 = .ok (.iconst 0, 1) := by decide +kernel
theorem dX2_fitting_1 : decode cX2_fitting 1 = .ok (.istore_n 3, 1) := by decide +kernel
theorem dX2_fitting_2 : decode cX2_fitting 2 = .ok (.iconst 0, 1) := by decide +kernel
theorem dX2_fitting_3 : decode cX2_fitting 3 = .ok (.istore 4, 2) := by decide +kernel
theorem dX2_fitting_5 : decode cX2_fitting 5 = .ok (.iload 4, 2) := by decide +kernel
theorem dX2_fitting_7 : decode cX2_fitting 7 = .ok (.aload_n 0, 1) := by decide +kernel
theorem dX2_fitting_8 : decode cX2_fitting 8 = .ok (.getfield 27, 3) := by decide +kernel
theorem dX2_fitting_11 : decode cX2_fitting 11 = .ok (.if_icmp .ge 32, 3) := by decide +kernel
theorem dX2_fitting_14 : decode cX2_fitting 14 = .ok (.aload_n 0, 1) := by decide +kernel
theorem dX2_fitting_15 : decode cX2_fitting 15 = .ok (.aload_n 0, 1) := by decide +kernel
theorem dX2_fitting_16 : decode cX2_fitting 16 = .ok (.iconst 0, 1) := by decide +kernel
theorem dX2_fitting_17 : decode cX2_fitting 17 = .ok (.iload_n 1, 1) := by decide +kernel
theorem dX2_fitting_18 : decode cX2_fitting 18 = .ok (.invokevirtual 49, 3) := by decide +kernel
theorem dX2_fitting_21 : decode cX2_fitting 21 = .ok (.iload 4, 2) := by decide +kernel
theorem dX2_fitting_23 : decode cX2_fitting 23 = .ok (.invokevirtual 63, 3) := by decide +kernel
theorem dX2_fitting_26 : decode cX2_fitting 26 = .ok (.iload_n 2, 1) := by decide +kernel
theorem dX2_fitting_27 : decode cX2_fitting 27 = .ok (.if_icmp .ne 10, 3) := by decide +kernel
theorem dX2_fitting_30 : decode cX2_fitting 30 = .ok (.iload_n 3, 1) := by decide +kernel
theorem dX2_fitting_31 : decode cX2_fitting 31 = .ok (.iconst 1, 1) := by decide +kernel
theorem dX2_fitting_32 : decode cX2_fitting 32 = .ok (.iload 4, 2) := by decide +kernel
theorem dX2_fitting_34 : decode cX2_fitting 34 = .ok (.ishl, 1) := by decide +kernel
theorem dX2_fitting_35 : decode cX2_fitting 35 = .ok (.ior, 1) := by decide +kernel
theorem dX2_fitting_36 : decode cX2_fitting 36 = .ok (.istore_n 3, 1) := by decide +kernel
theorem dX2_fitting_37 : decode cX2_fitting 37 = .ok (.iinc 4 1, 3) := by decide +kernel
theorem dX2_fitting_40 : decode cX2_fitting 40 = .ok (.goto (-35), 3) := by decide +kernel
theorem dX2_fitting_43 : decode cX2_fitting 43 = .ok (.iload_n 3, 1) := by decide +kernel
theorem dX2_fitting_44 : decode cX2_fitting 44 = .ok (.ireturn, 1) := by decide +kernel
theorem dX2_fewestAnew_0 : decode cX2_fewestAnew 0 = .ok (.ldc 88, 2) := by decide +kernel
theorem dX2_fewestAnew_2 : decode cX2_fewestAnew 2 = .ok (.istore_n 3, 1) := by decide +kernel
theorem dX2_fewestAnew_3 : decode cX2_fewestAnew 3 = .ok (.iconst 0, 1) := by decide +kernel
theorem dX2_fewestAnew_4 : decode cX2_fewestAnew 4 = .ok (.istore 4, 2) := by decide +kernel
theorem dX2_fewestAnew_6 : decode cX2_fewestAnew 6 = .ok (.iload 4, 2) := by decide +kernel
theorem dX2_fewestAnew_8 : decode cX2_fewestAnew 8 = .ok (.aload_n 0, 1) := by decide +kernel
theorem dX2_fewestAnew_9 : decode cX2_fewestAnew 9 = .ok (.getfield 27, 3) := by decide +kernel
theorem dX2_fewestAnew_12 : decode cX2_fewestAnew 12 = .ok (.if_icmp .ge 89, 3) := by decide +kernel
theorem dX2_fewestAnew_15 : decode cX2_fewestAnew 15 = .ok (.aload_n 0, 1) := by decide +kernel
theorem dX2_fewestAnew_16 : decode cX2_fewestAnew 16 = .ok (.iload 4, 2) := by decide +kernel
theorem dX2_fewestAnew_18 : decode cX2_fewestAnew 18 = .ok (.iload_n 2, 1) := by decide +kernel
theorem dX2_fewestAnew_19 : decode cX2_fewestAnew 19 = .ok (.invokevirtual 82, 3) := by decide +kernel
theorem dX2_fewestAnew_22 : decode cX2_fewestAnew 22 = .ok (.istore 5, 2) := by decide +kernel
theorem dX2_fewestAnew_24 : decode cX2_fewestAnew 24 = .ok (.iload 5, 2) := by decide +kernel
theorem dX2_fewestAnew_26 : decode cX2_fewestAnew 26 = .ok (.ifCond .eq 69, 3) := by decide +kernel
theorem dX2_fewestAnew_29 : decode cX2_fewestAnew 29 = .ok (.iload 5, 2) := by decide +kernel
theorem dX2_fewestAnew_31 : decode cX2_fewestAnew 31 = .ok (.aload_n 0, 1) := by decide +kernel
theorem dX2_fewestAnew_32 : decode cX2_fewestAnew 32 = .ok (.iconst 0, 1) := by decide +kernel
theorem dX2_fewestAnew_33 : decode cX2_fewestAnew 33 = .ok (.iload_n 1, 1) := by decide +kernel
theorem dX2_fewestAnew_34 : decode cX2_fewestAnew 34 = .ok (.invokevirtual 60, 3) := by decide +kernel
theorem dX2_fewestAnew_37 : decode cX2_fewestAnew 37 = .ok (.invokestatic 89, 3) := by decide +kernel
theorem dX2_fewestAnew_40 : decode cX2_fewestAnew 40 = .ok (.ifCond .eq 7, 3) := by decide +kernel
theorem dX2_fewestAnew_43 : decode cX2_fewestAnew 43 = .ok (.iconst 1, 1) := by decide +kernel
theorem dX2_fewestAnew_44 : decode cX2_fewestAnew 44 = .ok (.goto 4, 3) := by decide +kernel
theorem dX2_fewestAnew_47 : decode cX2_fewestAnew 47 = .ok (.iconst 0, 1) := by decide +kernel
theorem dX2_fewestAnew_48 : decode cX2_fewestAnew 48 = .ok (.istore 6, 2) := by decide +kernel
theorem dX2_fewestAnew_50 : decode cX2_fewestAnew 50 = .ok (.iload 4, 2) := by decide +kernel
theorem dX2_fewestAnew_52 : decode cX2_fewestAnew 52 = .ok (.aload_n 0, 1) := by decide +kernel
theorem dX2_fewestAnew_53 : decode cX2_fewestAnew 53 = .ok (.iconst 0, 1) := by decide +kernel
theorem dX2_fewestAnew_54 : decode cX2_fewestAnew 54 = .ok (.iload_n 1, 1) := by decide +kernel
theorem dX2_fewestAnew_55 : decode cX2_fewestAnew 55 = .ok (.invokevirtual 49, 3) := by decide +kernel
theorem dX2_fewestAnew_58 : decode cX2_fewestAnew 58 = .ok (.if_icmp .ne 7, 3) := by decide +kernel
theorem dX2_fewestAnew_61 : decode cX2_fewestAnew 61 = .ok (.iconst 1, 1) := by decide +kernel
theorem dX2_fewestAnew_62 : decode cX2_fewestAnew 62 = .ok (.goto 4, 3) := by decide +kernel
theorem dX2_fewestAnew_65 : decode cX2_fewestAnew 65 = .ok (.iconst 0, 1) := by decide +kernel
theorem dX2_fewestAnew_66 : decode cX2_fewestAnew 66 = .ok (.istore 7, 2) := by decide +kernel
theorem dX2_fewestAnew_68 : decode cX2_fewestAnew 68 = .ok (.iconst 2, 1) := by decide +kernel
theorem dX2_fewestAnew_69 : decode cX2_fewestAnew 69 = .ok (.iload 6, 2) := by decide +kernel
theorem dX2_fewestAnew_71 : decode cX2_fewestAnew 71 = .ok (.isub, 1) := by decide +kernel
theorem dX2_fewestAnew_72 : decode cX2_fewestAnew 72 = .ok (.iload 7, 2) := by decide +kernel
theorem dX2_fewestAnew_74 : decode cX2_fewestAnew 74 = .ok (.isub, 1) := by decide +kernel
theorem dX2_fewestAnew_75 : decode cX2_fewestAnew 75 = .ok (.istore 8, 2) := by decide +kernel
theorem dX2_fewestAnew_77 : decode cX2_fewestAnew 77 = .ok (.iload_n 3, 1) := by decide +kernel
theorem dX2_fewestAnew_78 : decode cX2_fewestAnew 78 = .ok (.ldc 88, 2) := by decide +kernel
theorem dX2_fewestAnew_80 : decode cX2_fewestAnew 80 = .ok (.if_icmp .ne 8, 3) := by decide +kernel
theorem dX2_fewestAnew_83 : decode cX2_fewestAnew 83 = .ok (.iload 8, 2) := by decide +kernel
theorem dX2_fewestAnew_85 : decode cX2_fewestAnew 85 = .ok (.goto 9, 3) := by decide +kernel
theorem dX2_fewestAnew_88 : decode cX2_fewestAnew 88 = .ok (.iload_n 3, 1) := by decide +kernel
theorem dX2_fewestAnew_89 : decode cX2_fewestAnew 89 = .ok (.iload 8, 2) := by decide +kernel
theorem dX2_fewestAnew_91 : decode cX2_fewestAnew 91 = .ok (.invokestatic 93, 3) := by decide +kernel
theorem dX2_fewestAnew_94 : decode cX2_fewestAnew 94 = .ok (.istore_n 3, 1) := by decide +kernel
theorem dX2_fewestAnew_95 : decode cX2_fewestAnew 95 = .ok (.iinc 4 1, 3) := by decide +kernel
theorem dX2_fewestAnew_98 : decode cX2_fewestAnew 98 = .ok (.goto (-92), 3) := by decide +kernel
theorem dX2_fewestAnew_101 : decode cX2_fewestAnew 101 = .ok (.iload_n 3, 1) := by decide +kernel
theorem dX2_fewestAnew_102 : decode cX2_fewestAnew 102 = .ok (.ireturn, 1) := by decide +kernel
theorem dX2_canBeABack_0 : decode cX2_canBeABack 0 = .ok (.aload_n 1, 1) := by decide +kernel
theorem dX2_canBeABack_1 : decode cX2_canBeABack 1 = .ok (.invokevirtual 98, 3) := by decide +kernel
theorem dX2_canBeABack_4 : decode cX2_canBeABack 4 = .ok (.ifCond .ne 14, 3) := by decide +kernel
theorem dX2_canBeABack_7 : decode cX2_canBeABack 7 = .ok (.aload_n 1, 1) := by decide +kernel
theorem dX2_canBeABack_8 : decode cX2_canBeABack 8 = .ok (.getfield 104, 3) := by decide +kernel
theorem dX2_canBeABack_11 : decode cX2_canBeABack 11 = .ok (.aload_n 0, 1) := by decide +kernel
theorem dX2_canBeABack_12 : decode cX2_canBeABack 12 = .ok (.getfield 31, 3) := by decide +kernel
theorem dX2_canBeABack_15 : decode cX2_canBeABack 15 = .ok (.if_icmp .ge 5, 3) := by decide +kernel
theorem dX2_canBeABack_18 : decode cX2_canBeABack 18 = .ok (.iconst 0, 1) := by decide +kernel
theorem dX2_canBeABack_19 : decode cX2_canBeABack 19 = .ok (.ireturn, 1) := by decide +kernel
theorem dX2_canBeABack_20 : decode cX2_canBeABack 20 = .ok (.iconst 0, 1) := by decide +kernel
theorem dX2_canBeABack_21 : decode cX2_canBeABack 21 = .ok (.istore_n 2, 1) := by decide +kernel
theorem dX2_canBeABack_22 : decode cX2_canBeABack 22 = .ok (.iload_n 2, 1) := by decide +kernel
theorem dX2_canBeABack_23 : decode cX2_canBeABack 23 = .ok (.aload_n 0, 1) := by decide +kernel
theorem dX2_canBeABack_24 : decode cX2_canBeABack 24 = .ok (.getfield 31, 3) := by decide +kernel
theorem dX2_canBeABack_27 : decode cX2_canBeABack 27 = .ok (.if_icmp .ge 23, 3) := by decide +kernel
theorem dX2_canBeABack_30 : decode cX2_canBeABack 30 = .ok (.aload_n 0, 1) := by decide +kernel
theorem dX2_canBeABack_31 : decode cX2_canBeABack 31 = .ok (.aload_n 1, 1) := by decide +kernel
theorem dX2_canBeABack_32 : decode cX2_canBeABack 32 = .ok (.iload_n 2, 1) := by decide +kernel
theorem dX2_canBeABack_33 : decode cX2_canBeABack 33 = .ok (.invokevirtual 107, 3) := by decide +kernel
theorem dX2_canBeABack_36 : decode cX2_canBeABack 36 = .ok (.invokevirtual 110, 3) := by decide +kernel
theorem dX2_canBeABack_39 : decode cX2_canBeABack 39 = .ok (.ifCond .ne 5, 3) := by decide +kernel
theorem dX2_canBeABack_42 : decode cX2_canBeABack 42 = .ok (.iconst 0, 1) := by decide +kernel
theorem dX2_canBeABack_43 : decode cX2_canBeABack 43 = .ok (.ireturn, 1) := by decide +kernel
theorem dX2_canBeABack_44 : decode cX2_canBeABack 44 = .ok (.iinc 2 1, 3) := by decide +kernel
theorem dX2_canBeABack_47 : decode cX2_canBeABack 47 = .ok (.goto (-25), 3) := by decide +kernel
theorem dX2_canBeABack_50 : decode cX2_canBeABack 50 = .ok (.iconst 1, 1) := by decide +kernel
theorem dX2_canBeABack_51 : decode cX2_canBeABack 51 = .ok (.ireturn, 1) := by decide +kernel
theorem dX2_harmOf_0 : decode cX2_harmOf 0 = .ok (.iconst 0, 1) := by decide +kernel
theorem dX2_harmOf_1 : decode cX2_harmOf 1 = .ok (.istore_n 2, 1) := by decide +kernel
theorem dX2_harmOf_2 : decode cX2_harmOf 2 = .ok (.iconst 0, 1) := by decide +kernel
theorem dX2_harmOf_3 : decode cX2_harmOf 3 = .ok (.istore_n 3, 1) := by decide +kernel
theorem dX2_harmOf_4 : decode cX2_harmOf 4 = .ok (.iload_n 3, 1) := by decide +kernel
theorem dX2_harmOf_5 : decode cX2_harmOf 5 = .ok (.aload_n 0, 1) := by decide +kernel
theorem dX2_harmOf_6 : decode cX2_harmOf 6 = .ok (.getfield 31, 3) := by decide +kernel
theorem dX2_harmOf_9 : decode cX2_harmOf 9 = .ok (.if_icmp .ge 43, 3) := by decide +kernel
theorem dX2_harmOf_12 : decode cX2_harmOf 12 = .ok (.aload_n 0, 1) := by decide +kernel
theorem dX2_harmOf_13 : decode cX2_harmOf 13 = .ok (.iconst 0, 1) := by decide +kernel
theorem dX2_harmOf_14 : decode cX2_harmOf 14 = .ok (.iload_n 3, 1) := by decide +kernel
theorem dX2_harmOf_15 : decode cX2_harmOf 15 = .ok (.invokevirtual 49, 3) := by decide +kernel
theorem dX2_harmOf_18 : decode cX2_harmOf 18 = .ok (.istore 4, 2) := by decide +kernel
theorem dX2_harmOf_20 : decode cX2_harmOf 20 = .ok (.aload_n 0, 1) := by decide +kernel
theorem dX2_harmOf_21 : decode cX2_harmOf 21 = .ok (.iload 4, 2) := by decide +kernel
theorem dX2_harmOf_23 : decode cX2_harmOf 23 = .ok (.aload_n 1, 1) := by decide +kernel
theorem dX2_harmOf_24 : decode cX2_harmOf 24 = .ok (.aload_n 0, 1) := by decide +kernel
theorem dX2_harmOf_25 : decode cX2_harmOf 25 = .ok (.getfield 31, 3) := by decide +kernel
theorem dX2_harmOf_28 : decode cX2_harmOf 28 = .ok (.iconst 1, 1) := by decide +kernel
theorem dX2_harmOf_29 : decode cX2_harmOf 29 = .ok (.isub, 1) := by decide +kernel
theorem dX2_harmOf_30 : decode cX2_harmOf 30 = .ok (.iload_n 3, 1) := by decide +kernel
theorem dX2_harmOf_31 : decode cX2_harmOf 31 = .ok (.isub, 1) := by decide +kernel
theorem dX2_harmOf_32 : decode cX2_harmOf 32 = .ok (.invokevirtual 107, 3) := by decide +kernel
theorem dX2_harmOf_35 : decode cX2_harmOf 35 = .ok (.invokevirtual 85, 3) := by decide +kernel
theorem dX2_harmOf_38 : decode cX2_harmOf 38 = .ok (.iload 4, 2) := by decide +kernel
theorem dX2_harmOf_40 : decode cX2_harmOf 40 = .ok (.if_icmp .eq 6, 3) := by decide +kernel
theorem dX2_harmOf_43 : decode cX2_harmOf 43 = .ok (.iinc 2 1, 3) := by decide +kernel
theorem dX2_harmOf_46 : decode cX2_harmOf 46 = .ok (.iinc 3 1, 3) := by decide +kernel
theorem dX2_harmOf_49 : decode cX2_harmOf 49 = .ok (.goto (-45), 3) := by decide +kernel
theorem dX2_harmOf_52 : decode cX2_harmOf 52 = .ok (.iload_n 2, 1) := by decide +kernel
theorem dX2_harmOf_53 : decode cX2_harmOf 53 = .ok (.ireturn, 1) := by decide +kernel
theorem dX2_placesLeftAsTheyStand_0 : decode cX2_placesLeftAsTheyStand 0 = .ok (.iconst 0, 1) := by decide +kernel
theorem dX2_placesLeftAsTheyStand_1 : decode cX2_placesLeftAsTheyStand 1 = .ok (.istore_n 1, 1) := by decide +kernel
theorem dX2_placesLeftAsTheyStand_2 : decode cX2_placesLeftAsTheyStand 2 = .ok (.iconst 0, 1) := by decide +kernel
theorem dX2_placesLeftAsTheyStand_3 : decode cX2_placesLeftAsTheyStand 3 = .ok (.istore_n 2, 1) := by decide +kernel
theorem dX2_placesLeftAsTheyStand_4 : decode cX2_placesLeftAsTheyStand 4 = .ok (.iload_n 2, 1) := by decide +kernel
theorem dX2_placesLeftAsTheyStand_5 : decode cX2_placesLeftAsTheyStand 5 = .ok (.aload_n 0, 1) := by decide +kernel
theorem dX2_placesLeftAsTheyStand_6 : decode cX2_placesLeftAsTheyStand 6 = .ok (.getfield 31, 3) := by decide +kernel
theorem dX2_placesLeftAsTheyStand_9 : decode cX2_placesLeftAsTheyStand 9 = .ok (.if_icmp .ge 31, 3) := by decide +kernel
theorem dX2_placesLeftAsTheyStand_12 : decode cX2_placesLeftAsTheyStand 12 = .ok (.aload_n 0, 1) := by decide +kernel
theorem dX2_placesLeftAsTheyStand_13 : decode cX2_placesLeftAsTheyStand 13 = .ok (.aload_n 0, 1) := by decide +kernel
theorem dX2_placesLeftAsTheyStand_14 : decode cX2_placesLeftAsTheyStand 14 = .ok (.iconst 0, 1) := by decide +kernel
theorem dX2_placesLeftAsTheyStand_15 : decode cX2_placesLeftAsTheyStand 15 = .ok (.iload_n 2, 1) := by decide +kernel
theorem dX2_placesLeftAsTheyStand_16 : decode cX2_placesLeftAsTheyStand 16 = .ok (.invokevirtual 114, 3) := by decide +kernel
theorem dX2_placesLeftAsTheyStand_19 : decode cX2_placesLeftAsTheyStand 19 = .ok (.invokevirtual 76, 3) := by decide +kernel
theorem dX2_placesLeftAsTheyStand_22 : decode cX2_placesLeftAsTheyStand 22 = .ok (.aload_n 0, 1) := by decide +kernel
theorem dX2_placesLeftAsTheyStand_23 : decode cX2_placesLeftAsTheyStand 23 = .ok (.iconst 0, 1) := by decide +kernel
theorem dX2_placesLeftAsTheyStand_24 : decode cX2_placesLeftAsTheyStand 24 = .ok (.iload_n 2, 1) := by decide +kernel
theorem dX2_placesLeftAsTheyStand_25 : decode cX2_placesLeftAsTheyStand 25 = .ok (.invokevirtual 49, 3) := by decide +kernel
theorem dX2_placesLeftAsTheyStand_28 : decode cX2_placesLeftAsTheyStand 28 = .ok (.if_icmp .ne 6, 3) := by decide +kernel
theorem dX2_placesLeftAsTheyStand_31 : decode cX2_placesLeftAsTheyStand 31 = .ok (.iinc 1 1, 3) := by decide +kernel
theorem dX2_placesLeftAsTheyStand_34 : decode cX2_placesLeftAsTheyStand 34 = .ok (.iinc 2 1, 3) := by decide +kernel
theorem dX2_placesLeftAsTheyStand_37 : decode cX2_placesLeftAsTheyStand 37 = .ok (.goto (-33), 3) := by decide +kernel
theorem dX2_placesLeftAsTheyStand_40 : decode cX2_placesLeftAsTheyStand 40 = .ok (.iload_n 1, 1) := by decide +kernel
theorem dX2_placesLeftAsTheyStand_41 : decode cX2_placesLeftAsTheyStand 41 = .ok (.ireturn, 1) := by decide +kernel
theorem dX2_readOf_0 : decode cX2_readOf 0 = .ok (.aload_n 0, 1) := by decide +kernel
theorem dX2_readOf_1 : decode cX2_readOf 1 = .ok (.aload_n 0, 1) := by decide +kernel
theorem dX2_readOf_2 : decode cX2_readOf 2 = .ok (.iload_n 1, 1) := by decide +kernel
theorem dX2_readOf_3 : decode cX2_readOf 3 = .ok (.iload_n 2, 1) := by decide +kernel
theorem dX2_readOf_4 : decode cX2_readOf 4 = .ok (.invokevirtual 63, 3) := by decide +kernel
theorem dX2_readOf_7 : decode cX2_readOf 7 = .ok (.invokevirtual 76, 3) := by decide +kernel
theorem dX2_readOf_10 : decode cX2_readOf 10 = .ok (.ireturn, 1) := by decide +kernel
theorem dX2_shownOf_0 : decode cX2_shownOf 0 = .ok (.aload_n 0, 1) := by decide +kernel
theorem dX2_shownOf_1 : decode cX2_shownOf 1 = .ok (.getfield 9, 3) := by decide +kernel
theorem dX2_shownOf_4 : decode cX2_shownOf 4 = .ok (.iload_n 1, 1) := by decide +kernel
theorem dX2_shownOf_5 : decode cX2_shownOf 5 = .ok (.invokestatic 56, 3) := by decide +kernel
theorem dX2_shownOf_8 : decode cX2_shownOf 8 = .ok (.aload_n 0, 1) := by decide +kernel
theorem dX2_shownOf_9 : decode cX2_shownOf 9 = .ok (.getfield 18, 3) := by decide +kernel
theorem dX2_shownOf_12 : decode cX2_shownOf 12 = .ok (.iload_n 2, 1) := by decide +kernel
theorem dX2_shownOf_13 : decode cX2_shownOf 13 = .ok (.invokestatic 56, 3) := by decide +kernel
theorem dX2_shownOf_16 : decode cX2_shownOf 16 = .ok (.ior, 1) := by decide +kernel
theorem dX2_shownOf_17 : decode cX2_shownOf 17 = .ok (.ireturn, 1) := by decide +kernel
theorem dX2_offOf_0 : decode cX2_offOf 0 = .ok (.aload_n 0, 1) := by decide +kernel
theorem dX2_offOf_1 : decode cX2_offOf 1 = .ok (.getfield 9, 3) := by decide +kernel
theorem dX2_offOf_4 : decode cX2_offOf 4 = .ok (.iload_n 1, 1) := by decide +kernel
theorem dX2_offOf_5 : decode cX2_offOf 5 = .ok (.invokestatic 56, 3) := by decide +kernel
theorem dX2_offOf_8 : decode cX2_offOf 8 = .ok (.iload_n 2, 1) := by decide +kernel
theorem dX2_offOf_9 : decode cX2_offOf 9 = .ok (.ixor, 1) := by decide +kernel
theorem dX2_offOf_10 : decode cX2_offOf 10 = .ok (.invokestatic 117, 3) := by decide +kernel
theorem dX2_offOf_13 : decode cX2_offOf 13 = .ok (.ireturn, 1) := by decide +kernel
theorem dX2_throughFor_0 : decode cX2_throughFor 0 = .ok (.iload_n 0, 1) := by decide +kernel
theorem dX2_throughFor_1 : decode cX2_throughFor 1 = .ok (.tableswitch 40 3 5 #[27, 36, 38], 27) := by decide +kernel
theorem dX2_throughFor_28 : decode cX2_throughFor 28 = .ok (.iload_n 1, 1) := by decide +kernel
theorem dX2_throughFor_29 : decode cX2_throughFor 29 = .ok (.invokestatic 122, 3) := by decide +kernel
theorem dX2_throughFor_32 : decode cX2_throughFor 32 = .ok (.sipush (-449), 3) := by decide +kernel
theorem dX2_throughFor_35 : decode cX2_throughFor 35 = .ok (.iand, 1) := by decide +kernel
theorem dX2_throughFor_36 : decode cX2_throughFor 36 = .ok (.ireturn, 1) := by decide +kernel
theorem dX2_throughFor_37 : decode cX2_throughFor 37 = .ok (.iload_n 1, 1) := by decide +kernel
theorem dX2_throughFor_38 : decode cX2_throughFor 38 = .ok (.ireturn, 1) := by decide +kernel
theorem dX2_throughFor_39 : decode cX2_throughFor 39 = .ok (.iconst 0, 1) := by decide +kernel
theorem dX2_throughFor_40 : decode cX2_throughFor 40 = .ok (.ireturn, 1) := by decide +kernel
theorem dX2_throughFor_41 : decode cX2_throughFor 41 = .ok (.iload_n 1, 1) := by decide +kernel
theorem dX2_throughFor_42 : decode cX2_throughFor 42 = .ok (.invokestatic 122, 3) := by decide +kernel
theorem dX2_throughFor_45 : decode cX2_throughFor 45 = .ok (.ireturn, 1) := by decide +kernel
theorem dX3_init_0 : decode cX3_init 0 = .ok (.aload_n 0, 1) := by decide +kernel
theorem dX3_init_1 : decode cX3_init 1 = .ok (.invokespecial 3, 3) := by decide +kernel
theorem dX3_init_4 : decode cX3_init 4 = .ok (.aload_n 0, 1) := by decide +kernel
theorem dX3_init_5 : decode cX3_init 5 = .ok (.new 9, 3) := by decide +kernel
theorem dX3_init_8 : decode cX3_init 8 = .ok (.dup, 1) := by decide +kernel
theorem dX3_init_9 : decode cX3_init 9 = .ok (.invokespecial 11, 3) := by decide +kernel
theorem dX3_init_12 : decode cX3_init 12 = .ok (.putfield 12, 3) := by decide +kernel
theorem dX3_init_15 : decode cX3_init 15 = .ok (.aload_n 0, 1) := by decide +kernel
theorem dX3_init_16 : decode cX3_init 16 = .ok (.new 18, 3) := by decide +kernel
theorem dX3_init_19 : decode cX3_init 19 = .ok (.dup, 1) := by decide +kernel
theorem dX3_init_20 : decode cX3_init 20 = .ok (.invokespecial 20, 3) := by decide +kernel
theorem dX3_init_23 : decode cX3_init 23 = .ok (.putfield 21, 3) := by decide +kernel
theorem dX3_init_26 : decode cX3_init 26 = .ok (.return_, 1) := by decide +kernel
theorem dX3_readsPage_0 : decode cX3_readsPage 0 = .ok (.aload_n 0, 1) := by decide +kernel
theorem dX3_readsPage_1 : decode cX3_readsPage 1 = .ok (.getfield 21, 3) := by decide +kernel
theorem dX3_readsPage_4 : decode cX3_readsPage 4 = .ok (.invokevirtual 25, 3) := by decide +kernel
theorem dX3_readsPage_7 : decode cX3_readsPage 7 = .ok (.aload_n 0, 1) := by decide +kernel
theorem dX3_readsPage_8 : decode cX3_readsPage 8 = .ok (.getfield 12, 3) := by decide +kernel
theorem dX3_readsPage_11 : decode cX3_readsPage 11 = .ok (.invokevirtual 28, 3) := by decide +kernel
theorem dX3_readsPage_14 : decode cX3_readsPage 14 = .ok (.aload_n 0, 1) := by decide +kernel
theorem dX3_readsPage_15 : decode cX3_readsPage 15 = .ok (.invokevirtual 31, 3) := by decide +kernel
theorem dX3_readsPage_18 : decode cX3_readsPage 18 = .ok (.ifCond .eq 28, 3) := by decide +kernel
theorem dX3_readsPage_21 : decode cX3_readsPage 21 = .ok (.aload_n 0, 1) := by decide +kernel
theorem dX3_readsPage_22 : decode cX3_readsPage 22 = .ok (.invokevirtual 35, 3) := by decide +kernel
theorem dX3_readsPage_25 : decode cX3_readsPage 25 = .ok (.ifCond .eq 21, 3) := by decide +kernel
theorem dX3_readsPage_28 : decode cX3_readsPage 28 = .ok (.aload_n 0, 1) := by decide +kernel
theorem dX3_readsPage_29 : decode cX3_readsPage 29 = .ok (.invokevirtual 38, 3) := by decide +kernel
theorem dX3_readsPage_32 : decode cX3_readsPage 32 = .ok (.ifCond .eq 14, 3) := by decide +kernel
theorem dX3_readsPage_35 : decode cX3_readsPage 35 = .ok (.aload_n 0, 1) := by decide +kernel
theorem dX3_readsPage_36 : decode cX3_readsPage 36 = .ok (.invokevirtual 41, 3) := by decide +kernel
theorem dX3_readsPage_39 : decode cX3_readsPage 39 = .ok (.ifCond .eq 7, 3) := by decide +kernel
theorem dX3_readsPage_42 : decode cX3_readsPage 42 = .ok (.iconst 1, 1) := by decide +kernel
theorem dX3_readsPage_43 : decode cX3_readsPage 43 = .ok (.goto 4, 3) := by decide +kernel
theorem dX3_readsPage_46 : decode cX3_readsPage 46 = .ok (.iconst 0, 1) := by decide +kernel
theorem dX3_readsPage_47 : decode cX3_readsPage 47 = .ok (.istore_n 1, 1) := by decide +kernel
theorem dX3_readsPage_48 : decode cX3_readsPage 48 = .ok (.aload_n 0, 1) := by decide +kernel
theorem dX3_readsPage_49 : decode cX3_readsPage 49 = .ok (.getfield 12, 3) := by decide +kernel
theorem dX3_readsPage_52 : decode cX3_readsPage 52 = .ok (.invokevirtual 44, 3) := by decide +kernel
theorem dX3_readsPage_55 : decode cX3_readsPage 55 = .ok (.iload_n 1, 1) := by decide +kernel
theorem dX3_readsPage_56 : decode cX3_readsPage 56 = .ok (.ireturn, 1) := by decide +kernel
theorem dX3_readsLaw_0 : decode cX3_readsLaw 0 = .ok (.aload_n 0, 1) := by decide +kernel
theorem dX3_readsLaw_1 : decode cX3_readsLaw 1 = .ok (.ldc 45, 2) := by decide +kernel
theorem dX3_readsLaw_3 : decode cX3_readsLaw 3 = .ok (.invokevirtual 47, 3) := by decide +kernel
theorem dX3_readsLaw_6 : decode cX3_readsLaw 6 = .ok (.ifCond .eq 12, 3) := by decide +kernel
theorem dX3_readsLaw_9 : decode cX3_readsLaw 9 = .ok (.aload_n 0, 1) := by decide +kernel
theorem dX3_readsLaw_10 : decode cX3_readsLaw 10 = .ok (.bipush 9, 2) := by decide +kernel
theorem dX3_readsLaw_12 : decode cX3_readsLaw 12 = .ok (.invokevirtual 51, 3) := by decide +kernel
theorem dX3_readsLaw_15 : decode cX3_readsLaw 15 = .ok (.ifCond .ne 5, 3) := by decide +kernel
theorem dX3_readsLaw_18 : decode cX3_readsLaw 18 = .ok (.iconst 0, 1) := by decide +kernel
theorem dX3_readsLaw_19 : decode cX3_readsLaw 19 = .ok (.ireturn, 1) := by decide +kernel
theorem dX3_readsLaw_20 : decode cX3_readsLaw 20 = .ok (.aload_n 0, 1) := by decide +kernel
theorem dX3_readsLaw_21 : decode cX3_readsLaw 21 = .ok (.getfield 21, 3) := by decide +kernel
theorem dX3_readsLaw_24 : decode cX3_readsLaw 24 = .ok (.aload_n 0, 1) := by decide +kernel
theorem dX3_readsLaw_25 : decode cX3_readsLaw 25 = .ok (.getfield 55, 3) := by decide +kernel
theorem dX3_readsLaw_28 : decode cX3_readsLaw 28 = .ok (.putfield 59, 3) := by decide +kernel
theorem dX3_readsLaw_31 : decode cX3_readsLaw 31 = .ok (.aload_n 0, 1) := by decide +kernel
theorem dX3_readsLaw_32 : decode cX3_readsLaw 32 = .ok (.iconst 3, 1) := by decide +kernel
theorem dX3_readsLaw_33 : decode cX3_readsLaw 33 = .ok (.invokevirtual 62, 3) := by decide +kernel
theorem dX3_readsLaw_36 : decode cX3_readsLaw 36 = .ok (.ireturn, 1) := by decide +kernel
theorem dX3_readsLetters_0 : decode cX3_readsLetters 0 = .ok (.iconst 0, 1) := by decide +kernel
theorem dX3_readsLetters_1 : decode cX3_readsLetters 1 = .ok (.istore_n 1, 1) := by decide +kernel
theorem dX3_readsLetters_2 : decode cX3_readsLetters 2 = .ok (.iload_n 1, 1) := by decide +kernel
theorem dX3_readsLetters_3 : decode cX3_readsLetters 3 = .ok (.bipush 8, 2) := by decide +kernel
theorem dX3_readsLetters_5 : decode cX3_readsLetters 5 = .ok (.if_icmp .ge 34, 3) := by decide +kernel
theorem dX3_readsLetters_8 : decode cX3_readsLetters 8 = .ok (.iload_n 1, 1) := by decide +kernel
theorem dX3_readsLetters_9 : decode cX3_readsLetters 9 = .ok (.ifCond .eq 15, 3) := by decide +kernel
theorem dX3_readsLetters_12 : decode cX3_readsLetters 12 = .ok (.aload_n 0, 1) := by decide +kernel
theorem dX3_readsLetters_13 : decode cX3_readsLetters 13 = .ok (.getfield 12, 3) := by decide +kernel
theorem dX3_readsLetters_16 : decode cX3_readsLetters 16 = .ok (.ldc 65, 2) := by decide +kernel
theorem dX3_readsLetters_18 : decode cX3_readsLetters 18 = .ok (.invokevirtual 67, 3) := by decide +kernel
theorem dX3_readsLetters_21 : decode cX3_readsLetters 21 = .ok (.ifCond .eq 18, 3) := by decide +kernel
theorem dX3_readsLetters_24 : decode cX3_readsLetters 24 = .ok (.aload_n 0, 1) := by decide +kernel
theorem dX3_readsLetters_25 : decode cX3_readsLetters 25 = .ok (.invokevirtual 70, 3) := by decide +kernel
theorem dX3_readsLetters_28 : decode cX3_readsLetters 28 = .ok (.ifCond .ne 5, 3) := by decide +kernel
theorem dX3_readsLetters_31 : decode cX3_readsLetters 31 = .ok (.iconst 0, 1) := by decide +kernel
theorem dX3_readsLetters_32 : decode cX3_readsLetters 32 = .ok (.ireturn, 1) := by decide +kernel
theorem dX3_readsLetters_33 : decode cX3_readsLetters 33 = .ok (.iinc 1 1, 3) := by decide +kernel
theorem dX3_readsLetters_36 : decode cX3_readsLetters 36 = .ok (.goto (-34), 3) := by decide +kernel
theorem dX3_readsLetters_39 : decode cX3_readsLetters 39 = .ok (.aload_n 0, 1) := by decide +kernel
theorem dX3_readsLetters_40 : decode cX3_readsLetters 40 = .ok (.getfield 12, 3) := by decide +kernel
theorem dX3_readsLetters_43 : decode cX3_readsLetters 43 = .ok (.ldc 65, 2) := by decide +kernel
theorem dX3_readsLetters_45 : decode cX3_readsLetters 45 = .ok (.invokevirtual 67, 3) := by decide +kernel
theorem dX3_readsLetters_48 : decode cX3_readsLetters 48 = .ok (.ifCond .eq 11, 3) := by decide +kernel
theorem dX3_readsLetters_51 : decode cX3_readsLetters 51 = .ok (.aload_n 0, 1) := by decide +kernel
theorem dX3_readsLetters_52 : decode cX3_readsLetters 52 = .ok (.iconst 3, 1) := by decide +kernel
theorem dX3_readsLetters_53 : decode cX3_readsLetters 53 = .ok (.invokevirtual 73, 3) := by decide +kernel
theorem dX3_readsLetters_56 : decode cX3_readsLetters 56 = .ok (.ifCond .eq 7, 3) := by decide +kernel
theorem dX3_readsLetters_59 : decode cX3_readsLetters 59 = .ok (.iconst 1, 1) := by decide +kernel
theorem dX3_readsLetters_60 : decode cX3_readsLetters 60 = .ok (.goto 4, 3) := by decide +kernel
theorem dX3_readsLetters_63 : decode cX3_readsLetters 63 = .ok (.iconst 0, 1) := by decide +kernel
theorem dX3_readsLetters_64 : decode cX3_readsLetters 64 = .ok (.ireturn, 1) := by decide +kernel
theorem dX3_readsLetter_0 : decode cX3_readsLetter 0 = .ok (.aload_n 0, 1) := by decide +kernel
theorem dX3_readsLetter_1 : decode cX3_readsLetter 1 = .ok (.ldc 65, 2) := by decide +kernel
theorem dX3_readsLetter_3 : decode cX3_readsLetter 3 = .ok (.invokevirtual 47, 3) := by decide +kernel
theorem dX3_readsLetter_6 : decode cX3_readsLetter 6 = .ok (.ifCond .ne 5, 3) := by decide +kernel
theorem dX3_readsLetter_9 : decode cX3_readsLetter 9 = .ok (.iconst 0, 1) := by decide +kernel
theorem dX3_readsLetter_10 : decode cX3_readsLetter 10 = .ok (.ireturn, 1) := by decide +kernel
theorem dX3_readsLetter_11 : decode cX3_readsLetter 11 = .ok (.aload_n 0, 1) := by decide +kernel
theorem dX3_readsLetter_12 : decode cX3_readsLetter 12 = .ok (.invokevirtual 76, 3) := by decide +kernel
theorem dX3_readsLetter_15 : decode cX3_readsLetter 15 = .ok (.istore_n 1, 1) := by decide +kernel
theorem dX3_readsLetter_16 : decode cX3_readsLetter 16 = .ok (.iload_n 1, 1) := by decide +kernel
theorem dX3_readsLetter_17 : decode cX3_readsLetter 17 = .ok (.ifCond .ne 9, 3) := by decide +kernel
theorem dX3_readsLetter_20 : decode cX3_readsLetter 20 = .ok (.aload_n 0, 1) := by decide +kernel
theorem dX3_readsLetter_21 : decode cX3_readsLetter 21 = .ok (.iconst 1, 1) := by decide +kernel
theorem dX3_readsLetter_22 : decode cX3_readsLetter 22 = .ok (.invokevirtual 73, 3) := by decide +kernel
theorem dX3_readsLetter_25 : decode cX3_readsLetter 25 = .ok (.ireturn, 1) := by decide +kernel
theorem dX3_readsLetter_26 : decode cX3_readsLetter 26 = .ok (.aload_n 0, 1) := by decide +kernel
theorem dX3_readsLetter_27 : decode cX3_readsLetter 27 = .ok (.getfield 12, 3) := by decide +kernel
theorem dX3_readsLetter_30 : decode cX3_readsLetter 30 = .ok (.invokevirtual 80, 3) := by decide +kernel
theorem dX3_readsLetter_33 : decode cX3_readsLetter 33 = .ok (.aload_n 0, 1) := by decide +kernel
theorem dX3_readsLetter_34 : decode cX3_readsLetter 34 = .ok (.sipush 511, 3) := by decide +kernel
theorem dX3_readsLetter_37 : decode cX3_readsLetter 37 = .ok (.invokevirtual 51, 3) := by decide +kernel
theorem dX3_readsLetter_40 : decode cX3_readsLetter 40 = .ok (.ifCond .ne 5, 3) := by decide +kernel
theorem dX3_readsLetter_43 : decode cX3_readsLetter 43 = .ok (.iconst 0, 1) := by decide +kernel
theorem dX3_readsLetter_44 : decode cX3_readsLetter 44 = .ok (.ireturn, 1) := by decide +kernel
theorem dX3_readsLetter_45 : decode cX3_readsLetter 45 = .ok (.aload_n 0, 1) := by decide +kernel
theorem dX3_readsLetter_46 : decode cX3_readsLetter 46 = .ok (.getfield 21, 3) := by decide +kernel
theorem dX3_readsLetter_49 : decode cX3_readsLetter 49 = .ok (.iload_n 1, 1) := by decide +kernel
theorem dX3_readsLetter_50 : decode cX3_readsLetter 50 = .ok (.aload_n 0, 1) := by decide +kernel
theorem dX3_readsLetter_51 : decode cX3_readsLetter 51 = .ok (.getfield 55, 3) := by decide +kernel
theorem dX3_readsLetter_54 : decode cX3_readsLetter 54 = .ok (.invokevirtual 83, 3) := by decide +kernel
theorem dX3_readsLetter_57 : decode cX3_readsLetter 57 = .ok (.aload_n 0, 1) := by decide +kernel
theorem dX3_readsLetter_58 : decode cX3_readsLetter 58 = .ok (.iconst 3, 1) := by decide +kernel
theorem dX3_readsLetter_59 : decode cX3_readsLetter 59 = .ok (.invokevirtual 62, 3) := by decide +kernel
theorem dX3_readsLetter_62 : decode cX3_readsLetter 62 = .ok (.ireturn, 1) := by decide +kernel
theorem dX3_sortTold_0 : decode cX3_sortTold 0 = .ok (.aload_n 0, 1) := by decide +kernel
theorem dX3_sortTold_1 : decode cX3_sortTold 1 = .ok (.getfield 12, 3) := by decide +kernel
theorem dX3_sortTold_4 : decode cX3_sortTold 4 = .ok (.ldc 87, 2) := by decide +kernel
theorem dX3_sortTold_6 : decode cX3_sortTold 6 = .ok (.invokevirtual 67, 3) := by decide +kernel
theorem dX3_sortTold_9 : decode cX3_sortTold 9 = .ok (.ifCond .eq 7, 3) := by decide +kernel
theorem dX3_sortTold_12 : decode cX3_sortTold 12 = .ok (.iconst 1, 1) := by decide +kernel
theorem dX3_sortTold_13 : decode cX3_sortTold 13 = .ok (.goto 68, 3) := by decide +kernel
theorem dX3_sortTold_16 : decode cX3_sortTold 16 = .ok (.aload_n 0, 1) := by decide +kernel
theorem dX3_sortTold_17 : decode cX3_sortTold 17 = .ok (.getfield 12, 3) := by decide +kernel
theorem dX3_sortTold_20 : decode cX3_sortTold 20 = .ok (.ldc 89, 2) := by decide +kernel
theorem dX3_sortTold_22 : decode cX3_sortTold 22 = .ok (.invokevirtual 67, 3) := by decide +kernel
theorem dX3_sortTold_25 : decode cX3_sortTold 25 = .ok (.ifCond .eq 7, 3) := by decide +kernel
theorem dX3_sortTold_28 : decode cX3_sortTold 28 = .ok (.iconst 2, 1) := by decide +kernel
theorem dX3_sortTold_29 : decode cX3_sortTold 29 = .ok (.goto 52, 3) := by decide +kernel
theorem dX3_sortTold_32 : decode cX3_sortTold 32 = .ok (.aload_n 0, 1) := by decide +kernel
theorem dX3_sortTold_33 : decode cX3_sortTold 33 = .ok (.getfield 12, 3) := by decide +kernel
theorem dX3_sortTold_36 : decode cX3_sortTold 36 = .ok (.ldc 91, 2) := by decide +kernel
theorem dX3_sortTold_38 : decode cX3_sortTold 38 = .ok (.invokevirtual 67, 3) := by decide +kernel
theorem dX3_sortTold_41 : decode cX3_sortTold 41 = .ok (.ifCond .eq 7, 3) := by decide +kernel
theorem dX3_sortTold_44 : decode cX3_sortTold 44 = .ok (.iconst 3, 1) := by decide +kernel
theorem dX3_sortTold_45 : decode cX3_sortTold 45 = .ok (.goto 36, 3) := by decide +kernel
theorem dX3_sortTold_48 : decode cX3_sortTold 48 = .ok (.aload_n 0, 1) := by decide +kernel
theorem dX3_sortTold_49 : decode cX3_sortTold 49 = .ok (.getfield 12, 3) := by decide +kernel
theorem dX3_sortTold_52 : decode cX3_sortTold 52 = .ok (.ldc 93, 2) := by decide +kernel
theorem dX3_sortTold_54 : decode cX3_sortTold 54 = .ok (.invokevirtual 67, 3) := by decide +kernel
theorem dX3_sortTold_57 : decode cX3_sortTold 57 = .ok (.ifCond .eq 7, 3) := by decide +kernel
theorem dX3_sortTold_60 : decode cX3_sortTold 60 = .ok (.iconst 4, 1) := by decide +kernel
theorem dX3_sortTold_61 : decode cX3_sortTold 61 = .ok (.goto 20, 3) := by decide +kernel
theorem dX3_sortTold_64 : decode cX3_sortTold 64 = .ok (.aload_n 0, 1) := by decide +kernel
theorem dX3_sortTold_65 : decode cX3_sortTold 65 = .ok (.getfield 12, 3) := by decide +kernel
theorem dX3_sortTold_68 : decode cX3_sortTold 68 = .ok (.ldc 95, 2) := by decide +kernel
theorem dX3_sortTold_70 : decode cX3_sortTold 70 = .ok (.invokevirtual 67, 3) := by decide +kernel
theorem dX3_sortTold_73 : decode cX3_sortTold 73 = .ok (.ifCond .eq 7, 3) := by decide +kernel
theorem dX3_sortTold_76 : decode cX3_sortTold 76 = .ok (.iconst 5, 1) := by decide +kernel
theorem dX3_sortTold_77 : decode cX3_sortTold 77 = .ok (.goto 4, 3) := by decide +kernel
theorem dX3_sortTold_80 : decode cX3_sortTold 80 = .ok (.iconst 0, 1) := by decide +kernel
theorem dX3_sortTold_81 : decode cX3_sortTold 81 = .ok (.ireturn, 1) := by decide +kernel
theorem dX3_readsSheet_0 : decode cX3_readsSheet 0 = .ok (.aload_n 0, 1) := by decide +kernel
theorem dX3_readsSheet_1 : decode cX3_readsSheet 1 = .ok (.ldc 97, 2) := by decide +kernel
theorem dX3_readsSheet_3 : decode cX3_readsSheet 3 = .ok (.invokevirtual 47, 3) := by decide +kernel
theorem dX3_readsSheet_6 : decode cX3_readsSheet 6 = .ok (.ifCond .eq 37, 3) := by decide +kernel
theorem dX3_readsSheet_9 : decode cX3_readsSheet 9 = .ok (.aload_n 0, 1) := by decide +kernel
theorem dX3_readsSheet_10 : decode cX3_readsSheet 10 = .ok (.invokevirtual 99, 3) := by decide +kernel
theorem dX3_readsSheet_13 : decode cX3_readsSheet 13 = .ok (.ifCond .eq 30, 3) := by decide +kernel
theorem dX3_readsSheet_16 : decode cX3_readsSheet 16 = .ok (.aload_n 0, 1) := by decide +kernel
theorem dX3_readsSheet_17 : decode cX3_readsSheet 17 = .ok (.iconst 4, 1) := by decide +kernel
theorem dX3_readsSheet_18 : decode cX3_readsSheet 18 = .ok (.invokevirtual 62, 3) := by decide +kernel
theorem dX3_readsSheet_21 : decode cX3_readsSheet 21 = .ok (.ifCond .eq 22, 3) := by decide +kernel
theorem dX3_readsSheet_24 : decode cX3_readsSheet 24 = .ok (.aload_n 0, 1) := by decide +kernel
theorem dX3_readsSheet_25 : decode cX3_readsSheet 25 = .ok (.invokevirtual 102, 3) := by decide +kernel
theorem dX3_readsSheet_28 : decode cX3_readsSheet 28 = .ok (.ifCond .eq 15, 3) := by decide +kernel
theorem dX3_readsSheet_31 : decode cX3_readsSheet 31 = .ok (.aload_n 0, 1) := by decide +kernel
theorem dX3_readsSheet_32 : decode cX3_readsSheet 32 = .ok (.iconst 3, 1) := by decide +kernel
theorem dX3_readsSheet_33 : decode cX3_readsSheet 33 = .ok (.invokevirtual 62, 3) := by decide +kernel
theorem dX3_readsSheet_36 : decode cX3_readsSheet 36 = .ok (.ifCond .eq 7, 3) := by decide +kernel
theorem dX3_readsSheet_39 : decode cX3_readsSheet 39 = .ok (.iconst 1, 1) := by decide +kernel
theorem dX3_readsSheet_40 : decode cX3_readsSheet 40 = .ok (.goto 4, 3) := by decide +kernel
theorem dX3_readsSheet_43 : decode cX3_readsSheet 43 = .ok (.iconst 0, 1) := by decide +kernel
theorem dX3_readsSheet_44 : decode cX3_readsSheet 44 = .ok (.ireturn, 1) := by decide +kernel
theorem dX3_readsFront_0 : decode cX3_readsFront 0 = .ok (.iconst 0, 1) := by decide +kernel
theorem dX3_readsFront_1 : decode cX3_readsFront 1 = .ok (.istore_n 1, 1) := by decide +kernel
theorem dX3_readsFront_2 : decode cX3_readsFront 2 = .ok (.iload_n 1, 1) := by decide +kernel
theorem dX3_readsFront_3 : decode cX3_readsFront 3 = .ok (.bipush 9, 2) := by decide +kernel
theorem dX3_readsFront_5 : decode cX3_readsFront 5 = .ok (.if_icmp .ge 49, 3) := by decide +kernel
theorem dX3_readsFront_8 : decode cX3_readsFront 8 = .ok (.aload_n 0, 1) := by decide +kernel
theorem dX3_readsFront_9 : decode cX3_readsFront 9 = .ok (.getfield 12, 3) := by decide +kernel
theorem dX3_readsFront_12 : decode cX3_readsFront 12 = .ok (.getfield 105, 3) := by decide +kernel
theorem dX3_readsFront_15 : decode cX3_readsFront 15 = .ok (.iconst 2, 1) := by decide +kernel
theorem dX3_readsFront_16 : decode cX3_readsFront 16 = .ok (.if_icmp .ne 38, 3) := by decide +kernel
theorem dX3_readsFront_19 : decode cX3_readsFront 19 = .ok (.aload_n 0, 1) := by decide +kernel
theorem dX3_readsFront_20 : decode cX3_readsFront 20 = .ok (.aload_n 0, 1) := by decide +kernel
theorem dX3_readsFront_21 : decode cX3_readsFront 21 = .ok (.getfield 21, 3) := by decide +kernel
theorem dX3_readsFront_24 : decode cX3_readsFront 24 = .ok (.getfield 108, 3) := by decide +kernel
theorem dX3_readsFront_27 : decode cX3_readsFront 27 = .ok (.iconst 1, 1) := by decide +kernel
theorem dX3_readsFront_28 : decode cX3_readsFront 28 = .ok (.isub, 1) := by decide +kernel
theorem dX3_readsFront_29 : decode cX3_readsFront 29 = .ok (.invokevirtual 51, 3) := by decide +kernel
theorem dX3_readsFront_32 : decode cX3_readsFront 32 = .ok (.ifCond .ne 5, 3) := by decide +kernel
theorem dX3_readsFront_35 : decode cX3_readsFront 35 = .ok (.iconst 0, 1) := by decide +kernel
theorem dX3_readsFront_36 : decode cX3_readsFront 36 = .ok (.ireturn, 1) := by decide +kernel
theorem dX3_readsFront_37 : decode cX3_readsFront 37 = .ok (.aload_n 0, 1) := by decide +kernel
theorem dX3_readsFront_38 : decode cX3_readsFront 38 = .ok (.getfield 21, 3) := by decide +kernel
theorem dX3_readsFront_41 : decode cX3_readsFront 41 = .ok (.aload_n 0, 1) := by decide +kernel
theorem dX3_readsFront_42 : decode cX3_readsFront 42 = .ok (.getfield 55, 3) := by decide +kernel
theorem dX3_readsFront_45 : decode cX3_readsFront 45 = .ok (.invokevirtual 111, 3) := by decide +kernel
theorem dX3_readsFront_48 : decode cX3_readsFront 48 = .ok (.iinc 1 1, 3) := by decide +kernel
theorem dX3_readsFront_51 : decode cX3_readsFront 51 = .ok (.goto (-49), 3) := by decide +kernel
theorem dX3_readsFront_54 : decode cX3_readsFront 54 = .ok (.aload_n 0, 1) := by decide +kernel
theorem dX3_readsFront_55 : decode cX3_readsFront 55 = .ok (.getfield 12, 3) := by decide +kernel
theorem dX3_readsFront_58 : decode cX3_readsFront 58 = .ok (.getfield 105, 3) := by decide +kernel
theorem dX3_readsFront_61 : decode cX3_readsFront 61 = .ok (.iconst 2, 1) := by decide +kernel
theorem dX3_readsFront_62 : decode cX3_readsFront 62 = .ok (.if_icmp .eq 5, 3) := by decide +kernel
theorem dX3_readsFront_65 : decode cX3_readsFront 65 = .ok (.iconst 1, 1) := by decide +kernel
theorem dX3_readsFront_66 : decode cX3_readsFront 66 = .ok (.ireturn, 1) := by decide +kernel
theorem dX3_readsFront_67 : decode cX3_readsFront 67 = .ok (.aload_n 0, 1) := by decide +kernel
theorem dX3_readsFront_68 : decode cX3_readsFront 68 = .ok (.aload_n 0, 1) := by decide +kernel
theorem dX3_readsFront_69 : decode cX3_readsFront 69 = .ok (.getfield 12, 3) := by decide +kernel
theorem dX3_readsFront_72 : decode cX3_readsFront 72 = .ok (.invokevirtual 115, 3) := by decide +kernel
theorem dX3_readsFront_75 : decode cX3_readsFront 75 = .ok (.aload_n 0, 1) := by decide +kernel
theorem dX3_readsFront_76 : decode cX3_readsFront 76 = .ok (.getfield 21, 3) := by decide +kernel
theorem dX3_readsFront_79 : decode cX3_readsFront 79 = .ok (.getfield 108, 3) := by decide +kernel
theorem dX3_readsFront_82 : decode cX3_readsFront 82 = .ok (.if_icmp .ge 7, 3) := by decide +kernel
theorem dX3_readsFront_85 : decode cX3_readsFront 85 = .ok (.iconst 3, 1) := by decide +kernel
theorem dX3_readsFront_86 : decode cX3_readsFront 86 = .ok (.goto 4, 3) := by decide +kernel
theorem dX3_readsFront_89 : decode cX3_readsFront 89 = .ok (.iconst 2, 1) := by decide +kernel
theorem dX3_readsFront_90 : decode cX3_readsFront 90 = .ok (.invokevirtual 73, 3) := by decide +kernel
theorem dX3_readsFront_93 : decode cX3_readsFront 93 = .ok (.ireturn, 1) := by decide +kernel
theorem dX3_readsBack_0 : decode cX3_readsBack 0 = .ok (.iconst 0, 1) := by decide +kernel
theorem dX3_readsBack_1 : decode cX3_readsBack 1 = .ok (.istore_n 1, 1) := by decide +kernel
theorem dX3_readsBack_2 : decode cX3_readsBack 2 = .ok (.iload_n 1, 1) := by decide +kernel
theorem dX3_readsBack_3 : decode cX3_readsBack 3 = .ok (.aload_n 0, 1) := by decide +kernel
theorem dX3_readsBack_4 : decode cX3_readsBack 4 = .ok (.getfield 21, 3) := by decide +kernel
theorem dX3_readsBack_7 : decode cX3_readsBack 7 = .ok (.getfield 118, 3) := by decide +kernel
theorem dX3_readsBack_10 : decode cX3_readsBack 10 = .ok (.if_icmp .ge 40, 3) := by decide +kernel
theorem dX3_readsBack_13 : decode cX3_readsBack 13 = .ok (.aload_n 0, 1) := by decide +kernel
theorem dX3_readsBack_14 : decode cX3_readsBack 14 = .ok (.aload_n 0, 1) := by decide +kernel
theorem dX3_readsBack_15 : decode cX3_readsBack 15 = .ok (.getfield 21, 3) := by decide +kernel
theorem dX3_readsBack_18 : decode cX3_readsBack 18 = .ok (.getfield 108, 3) := by decide +kernel
theorem dX3_readsBack_21 : decode cX3_readsBack 21 = .ok (.iconst 1, 1) := by decide +kernel
theorem dX3_readsBack_22 : decode cX3_readsBack 22 = .ok (.isub, 1) := by decide +kernel
theorem dX3_readsBack_23 : decode cX3_readsBack 23 = .ok (.invokevirtual 51, 3) := by decide +kernel
theorem dX3_readsBack_26 : decode cX3_readsBack 26 = .ok (.ifCond .ne 5, 3) := by decide +kernel
theorem dX3_readsBack_29 : decode cX3_readsBack 29 = .ok (.iconst 0, 1) := by decide +kernel
theorem dX3_readsBack_30 : decode cX3_readsBack 30 = .ok (.ireturn, 1) := by decide +kernel
theorem dX3_readsBack_31 : decode cX3_readsBack 31 = .ok (.aload_n 0, 1) := by decide +kernel
theorem dX3_readsBack_32 : decode cX3_readsBack 32 = .ok (.getfield 21, 3) := by decide +kernel
theorem dX3_readsBack_35 : decode cX3_readsBack 35 = .ok (.iconst 1, 1) := by decide +kernel
theorem dX3_readsBack_36 : decode cX3_readsBack 36 = .ok (.iload_n 1, 1) := by decide +kernel
theorem dX3_readsBack_37 : decode cX3_readsBack 37 = .ok (.aload_n 0, 1) := by decide +kernel
theorem dX3_readsBack_38 : decode cX3_readsBack 38 = .ok (.getfield 55, 3) := by decide +kernel
theorem dX3_readsBack_41 : decode cX3_readsBack 41 = .ok (.invokevirtual 121, 3) := by decide +kernel
theorem dX3_readsBack_44 : decode cX3_readsBack 44 = .ok (.iinc 1 1, 3) := by decide +kernel
theorem dX3_readsBack_47 : decode cX3_readsBack 47 = .ok (.goto (-45), 3) := by decide +kernel
theorem dX3_readsBack_50 : decode cX3_readsBack 50 = .ok (.iconst 1, 1) := by decide +kernel
theorem dX3_readsBack_51 : decode cX3_readsBack 51 = .ok (.ireturn, 1) := by decide +kernel
theorem dX3_readsEnd_0 : decode cX3_readsEnd 0 = .ok (.aload_n 0, 1) := by decide +kernel
theorem dX3_readsEnd_1 : decode cX3_readsEnd 1 = .ok (.getfield 12, 3) := by decide +kernel
theorem dX3_readsEnd_4 : decode cX3_readsEnd 4 = .ok (.getfield 105, 3) := by decide +kernel
theorem dX3_readsEnd_7 : decode cX3_readsEnd 7 = .ok (.ifCond .eq 11, 3) := by decide +kernel
theorem dX3_readsEnd_10 : decode cX3_readsEnd 10 = .ok (.aload_n 0, 1) := by decide +kernel
theorem dX3_readsEnd_11 : decode cX3_readsEnd 11 = .ok (.iconst 1, 1) := by decide +kernel
theorem dX3_readsEnd_12 : decode cX3_readsEnd 12 = .ok (.invokevirtual 73, 3) := by decide +kernel
theorem dX3_readsEnd_15 : decode cX3_readsEnd 15 = .ok (.ifCond .eq 7, 3) := by decide +kernel
theorem dX3_readsEnd_18 : decode cX3_readsEnd 18 = .ok (.iconst 1, 1) := by decide +kernel
theorem dX3_readsEnd_19 : decode cX3_readsEnd 19 = .ok (.goto 4, 3) := by decide +kernel
theorem dX3_readsEnd_22 : decode cX3_readsEnd 22 = .ok (.iconst 0, 1) := by decide +kernel
theorem dX3_readsEnd_23 : decode cX3_readsEnd 23 = .ok (.ireturn, 1) := by decide +kernel
theorem dX3_takesWord_0 : decode cX3_takesWord 0 = .ok (.aload_n 0, 1) := by decide +kernel
theorem dX3_takesWord_1 : decode cX3_takesWord 1 = .ok (.getfield 12, 3) := by decide +kernel
theorem dX3_takesWord_4 : decode cX3_takesWord 4 = .ok (.aload_n 1, 1) := by decide +kernel
theorem dX3_takesWord_5 : decode cX3_takesWord 5 = .ok (.invokevirtual 67, 3) := by decide +kernel
theorem dX3_takesWord_8 : decode cX3_takesWord 8 = .ok (.ifCond .ne 9, 3) := by decide +kernel
theorem dX3_takesWord_11 : decode cX3_takesWord 11 = .ok (.aload_n 0, 1) := by decide +kernel
theorem dX3_takesWord_12 : decode cX3_takesWord 12 = .ok (.iconst 1, 1) := by decide +kernel
theorem dX3_takesWord_13 : decode cX3_takesWord 13 = .ok (.invokevirtual 73, 3) := by decide +kernel
theorem dX3_takesWord_16 : decode cX3_takesWord 16 = .ok (.ireturn, 1) := by decide +kernel
theorem dX3_takesWord_17 : decode cX3_takesWord 17 = .ok (.aload_n 0, 1) := by decide +kernel
theorem dX3_takesWord_18 : decode cX3_takesWord 18 = .ok (.getfield 12, 3) := by decide +kernel
theorem dX3_takesWord_21 : decode cX3_takesWord 21 = .ok (.invokevirtual 80, 3) := by decide +kernel
theorem dX3_takesWord_24 : decode cX3_takesWord 24 = .ok (.iconst 1, 1) := by decide +kernel
theorem dX3_takesWord_25 : decode cX3_takesWord 25 = .ok (.ireturn, 1) := by decide +kernel
theorem dX3_takesSign_0 : decode cX3_takesSign 0 = .ok (.aload_n 0, 1) := by decide +kernel
theorem dX3_takesSign_1 : decode cX3_takesSign 1 = .ok (.getfield 12, 3) := by decide +kernel
theorem dX3_takesSign_4 : decode cX3_takesSign 4 = .ok (.getfield 105, 3) := by decide +kernel
theorem dX3_takesSign_7 : decode cX3_takesSign 7 = .ok (.iload_n 1, 1) := by decide +kernel
theorem dX3_takesSign_8 : decode cX3_takesSign 8 = .ok (.if_icmp .eq 9, 3) := by decide +kernel
theorem dX3_takesSign_11 : decode cX3_takesSign 11 = .ok (.aload_n 0, 1) := by decide +kernel
theorem dX3_takesSign_12 : decode cX3_takesSign 12 = .ok (.iconst 1, 1) := by decide +kernel
theorem dX3_takesSign_13 : decode cX3_takesSign 13 = .ok (.invokevirtual 73, 3) := by decide +kernel
theorem dX3_takesSign_16 : decode cX3_takesSign 16 = .ok (.ireturn, 1) := by decide +kernel
theorem dX3_takesSign_17 : decode cX3_takesSign 17 = .ok (.aload_n 0, 1) := by decide +kernel
theorem dX3_takesSign_18 : decode cX3_takesSign 18 = .ok (.getfield 12, 3) := by decide +kernel
theorem dX3_takesSign_21 : decode cX3_takesSign 21 = .ok (.invokevirtual 80, 3) := by decide +kernel
theorem dX3_takesSign_24 : decode cX3_takesSign 24 = .ok (.iconst 1, 1) := by decide +kernel
theorem dX3_takesSign_25 : decode cX3_takesSign 25 = .ok (.ireturn, 1) := by decide +kernel
theorem dX3_takesNumber_0 : decode cX3_takesNumber 0 = .ok (.aload_n 0, 1) := by decide +kernel
theorem dX3_takesNumber_1 : decode cX3_takesNumber 1 = .ok (.getfield 12, 3) := by decide +kernel
theorem dX3_takesNumber_4 : decode cX3_takesNumber 4 = .ok (.getfield 105, 3) := by decide +kernel
theorem dX3_takesNumber_7 : decode cX3_takesNumber 7 = .ok (.iconst 2, 1) := by decide +kernel
theorem dX3_takesNumber_8 : decode cX3_takesNumber 8 = .ok (.if_icmp .eq 9, 3) := by decide +kernel
theorem dX3_takesNumber_11 : decode cX3_takesNumber 11 = .ok (.aload_n 0, 1) := by decide +kernel
theorem dX3_takesNumber_12 : decode cX3_takesNumber 12 = .ok (.iconst 1, 1) := by decide +kernel
theorem dX3_takesNumber_13 : decode cX3_takesNumber 13 = .ok (.invokevirtual 73, 3) := by decide +kernel
theorem dX3_takesNumber_16 : decode cX3_takesNumber 16 = .ok (.ireturn, 1) := by decide +kernel
theorem dX3_takesNumber_17 : decode cX3_takesNumber 17 = .ok (.aload_n 0, 1) := by decide +kernel
theorem dX3_takesNumber_18 : decode cX3_takesNumber 18 = .ok (.aload_n 0, 1) := by decide +kernel
theorem dX3_takesNumber_19 : decode cX3_takesNumber 19 = .ok (.getfield 12, 3) := by decide +kernel
theorem dX3_takesNumber_22 : decode cX3_takesNumber 22 = .ok (.invokevirtual 115, 3) := by decide +kernel
theorem dX3_takesNumber_25 : decode cX3_takesNumber 25 = .ok (.putfield 55, 3) := by decide +kernel
theorem dX3_takesNumber_28 : decode cX3_takesNumber 28 = .ok (.aload_n 0, 1) := by decide +kernel
theorem dX3_takesNumber_29 : decode cX3_takesNumber 29 = .ok (.getfield 55, 3) := by decide +kernel
theorem dX3_takesNumber_32 : decode cX3_takesNumber 32 = .ok (.iload_n 1, 1) := by decide +kernel
theorem dX3_takesNumber_33 : decode cX3_takesNumber 33 = .ok (.if_icmp .le 9, 3) := by decide +kernel
theorem dX3_takesNumber_36 : decode cX3_takesNumber 36 = .ok (.aload_n 0, 1) := by decide +kernel
theorem dX3_takesNumber_37 : decode cX3_takesNumber 37 = .ok (.iconst 2, 1) := by decide +kernel
theorem dX3_takesNumber_38 : decode cX3_takesNumber 38 = .ok (.invokevirtual 73, 3) := by decide +kernel
theorem dX3_takesNumber_41 : decode cX3_takesNumber 41 = .ok (.ireturn, 1) := by decide +kernel
theorem dX3_takesNumber_42 : decode cX3_takesNumber 42 = .ok (.aload_n 0, 1) := by decide +kernel
theorem dX3_takesNumber_43 : decode cX3_takesNumber 43 = .ok (.getfield 12, 3) := by decide +kernel
theorem dX3_takesNumber_46 : decode cX3_takesNumber 46 = .ok (.invokevirtual 80, 3) := by decide +kernel
theorem dX3_takesNumber_49 : decode cX3_takesNumber 49 = .ok (.iconst 1, 1) := by decide +kernel
theorem dX3_takesNumber_50 : decode cX3_takesNumber 50 = .ok (.ireturn, 1) := by decide +kernel
theorem dX3_fails_0 : decode cX3_fails 0 = .ok (.aload_n 0, 1) := by decide +kernel
theorem dX3_fails_1 : decode cX3_fails 1 = .ok (.iload_n 1, 1) := by decide +kernel
theorem dX3_fails_2 : decode cX3_fails 2 = .ok (.putfield 125, 3) := by decide +kernel
theorem dX3_fails_5 : decode cX3_fails 5 = .ok (.aload_n 0, 1) := by decide +kernel
theorem dX3_fails_6 : decode cX3_fails 6 = .ok (.aload_n 0, 1) := by decide +kernel
theorem dX3_fails_7 : decode cX3_fails 7 = .ok (.getfield 12, 3) := by decide +kernel
theorem dX3_fails_10 : decode cX3_fails 10 = .ok (.getfield 128, 3) := by decide +kernel
theorem dX3_fails_13 : decode cX3_fails 13 = .ok (.putfield 131, 3) := by decide +kernel
theorem dX3_fails_16 : decode cX3_fails 16 = .ok (.iconst 0, 1) := by decide +kernel
theorem dX3_fails_17 : decode cX3_fails 17 = .ok (.ireturn, 1) := by decide +kernel
theorem dX4_init_0 : decode cX4_init 0 = .ok (.aload_n 0, 1) := by decide +kernel
theorem dX4_init_1 : decode cX4_init 1 = .ok (.invokespecial 3, 3) := by decide +kernel
theorem dX4_init_4 : decode cX4_init 4 = .ok (.aload_n 0, 1) := by decide +kernel
theorem dX4_init_5 : decode cX4_init 5 = .ok (.bipush 40, 2) := by decide +kernel
theorem dX4_init_7 : decode cX4_init 7 = .ok (.newarray .int, 2) := by decide +kernel
theorem dX4_init_9 : decode cX4_init 9 = .ok (.putfield 9, 3) := by decide +kernel
theorem dX4_init_12 : decode cX4_init 12 = .ok (.aload_n 0, 1) := by decide +kernel
theorem dX4_init_13 : decode cX4_init 13 = .ok (.iconst (-1), 1) := by decide +kernel
theorem dX4_init_14 : decode cX4_init 14 = .ok (.putfield 15, 3) := by decide +kernel
theorem dX4_init_17 : decode cX4_init 17 = .ok (.return_, 1) := by decide +kernel
theorem dX4_isMissing_0 : decode cX4_isMissing 0 = .ok (.aload_n 0, 1) := by decide +kernel
theorem dX4_isMissing_1 : decode cX4_isMissing 1 = .ok (.getfield 15, 3) := by decide +kernel
theorem dX4_isMissing_4 : decode cX4_isMissing 4 = .ok (.iconst (-1), 1) := by decide +kernel
theorem dX4_isMissing_5 : decode cX4_isMissing 5 = .ok (.if_icmp .ne 7, 3) := by decide +kernel
theorem dX4_isMissing_8 : decode cX4_isMissing 8 = .ok (.iconst 1, 1) := by decide +kernel
theorem dX4_isMissing_9 : decode cX4_isMissing 9 = .ok (.goto 4, 3) := by decide +kernel
theorem dX4_isMissing_12 : decode cX4_isMissing 12 = .ok (.iconst 0, 1) := by decide +kernel
theorem dX4_isMissing_13 : decode cX4_isMissing 13 = .ok (.ireturn, 1) := by decide +kernel
theorem dX4_make_0 : decode cX4_make 0 = .ok (.aload_n 0, 1) := by decide +kernel
theorem dX4_make_1 : decode cX4_make 1 = .ok (.iload_n 1, 1) := by decide +kernel
theorem dX4_make_2 : decode cX4_make 2 = .ok (.putfield 15, 3) := by decide +kernel
theorem dX4_make_5 : decode cX4_make 5 = .ok (.aload_n 0, 1) := by decide +kernel
theorem dX4_make_6 : decode cX4_make 6 = .ok (.iload_n 2, 1) := by decide +kernel
theorem dX4_make_7 : decode cX4_make 7 = .ok (.putfield 19, 3) := by decide +kernel
theorem dX4_make_10 : decode cX4_make 10 = .ok (.iconst 0, 1) := by decide +kernel
theorem dX4_make_11 : decode cX4_make 11 = .ok (.istore_n 3, 1) := by decide +kernel
theorem dX4_make_12 : decode cX4_make 12 = .ok (.iload_n 3, 1) := by decide +kernel
theorem dX4_make_13 : decode cX4_make 13 = .ok (.aload_n 0, 1) := by decide +kernel
theorem dX4_make_14 : decode cX4_make 14 = .ok (.getfield 9, 3) := by decide +kernel
theorem dX4_make_17 : decode cX4_make 17 = .ok (.arraylength, 1) := by decide +kernel
theorem dX4_make_18 : decode cX4_make 18 = .ok (.if_icmp .ge 16, 3) := by decide +kernel
theorem dX4_make_21 : decode cX4_make 21 = .ok (.aload_n 0, 1) := by decide +kernel
theorem dX4_make_22 : decode cX4_make 22 = .ok (.getfield 9, 3) := by decide +kernel
theorem dX4_make_25 : decode cX4_make 25 = .ok (.iload_n 3, 1) := by decide +kernel
theorem dX4_make_26 : decode cX4_make 26 = .ok (.iconst 0, 1) := by decide +kernel
theorem dX4_make_27 : decode cX4_make 27 = .ok (.iastore, 1) := by decide +kernel
theorem dX4_make_28 : decode cX4_make 28 = .ok (.iinc 3 1, 3) := by decide +kernel
theorem dX4_make_31 : decode cX4_make 31 = .ok (.goto (-19), 3) := by decide +kernel
theorem dX4_make_34 : decode cX4_make 34 = .ok (.return_, 1) := by decide +kernel
theorem dX4_makeMissing_0 : decode cX4_makeMissing 0 = .ok (.aload_n 0, 1) := by decide +kernel
theorem dX4_makeMissing_1 : decode cX4_makeMissing 1 = .ok (.iconst (-1), 1) := by decide +kernel
theorem dX4_makeMissing_2 : decode cX4_makeMissing 2 = .ok (.putfield 15, 3) := by decide +kernel
theorem dX4_makeMissing_5 : decode cX4_makeMissing 5 = .ok (.aload_n 0, 1) := by decide +kernel
theorem dX4_makeMissing_6 : decode cX4_makeMissing 6 = .ok (.iconst 0, 1) := by decide +kernel
theorem dX4_makeMissing_7 : decode cX4_makeMissing 7 = .ok (.putfield 19, 3) := by decide +kernel
theorem dX4_makeMissing_10 : decode cX4_makeMissing 10 = .ok (.return_, 1) := by decide +kernel
theorem dX4_holds_0 : decode cX4_holds 0 = .ok (.iload_n 1, 1) := by decide +kernel
theorem dX4_holds_1 : decode cX4_holds 1 = .ok (.ifCond .lt 29, 3) := by decide +kernel
theorem dX4_holds_4 : decode cX4_holds 4 = .ok (.iload_n 2, 1) := by decide +kernel
theorem dX4_holds_5 : decode cX4_holds 5 = .ok (.ifCond .lt 25, 3) := by decide +kernel
theorem dX4_holds_8 : decode cX4_holds 8 = .ok (.iload_n 1, 1) := by decide +kernel
theorem dX4_holds_9 : decode cX4_holds 9 = .ok (.aload_n 0, 1) := by decide +kernel
theorem dX4_holds_10 : decode cX4_holds 10 = .ok (.getfield 19, 3) := by decide +kernel
theorem dX4_holds_13 : decode cX4_holds 13 = .ok (.if_icmp .gt 17, 3) := by decide +kernel
theorem dX4_holds_16 : decode cX4_holds 16 = .ok (.iload_n 2, 1) := by decide +kernel
theorem dX4_holds_17 : decode cX4_holds 17 = .ok (.aload_n 0, 1) := by decide +kernel
theorem dX4_holds_18 : decode cX4_holds 18 = .ok (.getfield 19, 3) := by decide +kernel
theorem dX4_holds_21 : decode cX4_holds 21 = .ok (.iload_n 1, 1) := by decide +kernel
theorem dX4_holds_22 : decode cX4_holds 22 = .ok (.isub, 1) := by decide +kernel
theorem dX4_holds_23 : decode cX4_holds 23 = .ok (.if_icmp .gt 7, 3) := by decide +kernel
theorem dX4_holds_26 : decode cX4_holds 26 = .ok (.iconst 1, 1) := by decide +kernel
theorem dX4_holds_27 : decode cX4_holds 27 = .ok (.goto 4, 3) := by decide +kernel
theorem dX4_holds_30 : decode cX4_holds 30 = .ok (.iconst 0, 1) := by decide +kernel
theorem dX4_holds_31 : decode cX4_holds 31 = .ok (.ireturn, 1) := by decide +kernel
theorem dX4_itemAt_0 : decode cX4_itemAt 0 = .ok (.aload_n 0, 1) := by decide +kernel
theorem dX4_itemAt_1 : decode cX4_itemAt 1 = .ok (.getfield 9, 3) := by decide +kernel
theorem dX4_itemAt_4 : decode cX4_itemAt 4 = .ok (.iload_n 1, 1) := by decide +kernel
theorem dX4_itemAt_5 : decode cX4_itemAt 5 = .ok (.invokestatic 22, 3) := by decide +kernel
theorem dX4_itemAt_8 : decode cX4_itemAt 8 = .ok (.ireturn, 1) := by decide +kernel
theorem dX4_store_0 : decode cX4_store 0 = .ok (.aload_n 0, 1) := by decide +kernel
theorem dX4_store_1 : decode cX4_store 1 = .ok (.getfield 9, 3) := by decide +kernel
theorem dX4_store_4 : decode cX4_store 4 = .ok (.iload_n 1, 1) := by decide +kernel
theorem dX4_store_5 : decode cX4_store 5 = .ok (.aload_n 0, 1) := by decide +kernel
theorem dX4_store_6 : decode cX4_store 6 = .ok (.getfield 15, 3) := by decide +kernel
theorem dX4_store_9 : decode cX4_store 9 = .ok (.ifCond .ne 8, 3) := by decide +kernel
theorem dX4_store_12 : decode cX4_store 12 = .ok (.iload_n 2, 1) := by decide +kernel
theorem dX4_store_13 : decode cX4_store 13 = .ok (.i2b, 1) := by decide +kernel
theorem dX4_store_14 : decode cX4_store 14 = .ok (.goto 17, 3) := by decide +kernel
theorem dX4_store_17 : decode cX4_store 17 = .ok (.aload_n 0, 1) := by decide +kernel
theorem dX4_store_18 : decode cX4_store 18 = .ok (.getfield 15, 3) := by decide +kernel
theorem dX4_store_21 : decode cX4_store 21 = .ok (.iconst 1, 1) := by decide +kernel
theorem dX4_store_22 : decode cX4_store 22 = .ok (.if_icmp .ne 8, 3) := by decide +kernel
theorem dX4_store_25 : decode cX4_store 25 = .ok (.iload_n 2, 1) := by decide +kernel
theorem dX4_store_26 : decode cX4_store 26 = .ok (.i2s, 1) := by decide +kernel
theorem dX4_store_27 : decode cX4_store 27 = .ok (.goto 4, 3) := by decide +kernel
theorem dX4_store_30 : decode cX4_store 30 = .ok (.iload_n 2, 1) := by decide +kernel
theorem dX4_store_31 : decode cX4_store 31 = .ok (.invokestatic 26, 3) := by decide +kernel
theorem dX4_store_34 : decode cX4_store 34 = .ok (.return_, 1) := by decide +kernel
theorem dX4_takeItems_0 : decode cX4_takeItems 0 = .ok (.aload_n 1, 1) := by decide +kernel
theorem dX4_takeItems_1 : decode cX4_takeItems 1 = .ok (.getfield 9, 3) := by decide +kernel
theorem dX4_takeItems_4 : decode cX4_takeItems 4 = .ok (.iload_n 2, 1) := by decide +kernel
theorem dX4_takeItems_5 : decode cX4_takeItems 5 = .ok (.aload_n 0, 1) := by decide +kernel
theorem dX4_takeItems_6 : decode cX4_takeItems 6 = .ok (.getfield 9, 3) := by decide +kernel
theorem dX4_takeItems_9 : decode cX4_takeItems 9 = .ok (.iload_n 3, 1) := by decide +kernel
theorem dX4_takeItems_10 : decode cX4_takeItems 10 = .ok (.iload 4, 2) := by decide +kernel
theorem dX4_takeItems_12 : decode cX4_takeItems 12 = .ok (.invokestatic 30, 3) := by decide +kernel
theorem dX4_takeItems_15 : decode cX4_takeItems 15 = .ok (.return_, 1) := by decide +kernel
theorem dX5_init_0 : decode cX5_init 0 = .ok (.aload_n 0, 1) := by decide +kernel
theorem dX5_init_1 : decode cX5_init 1 = .ok (.invokespecial 3, 3) := by decide +kernel
theorem dX5_init_4 : decode cX5_init 4 = .ok (.aload_n 0, 1) := by decide +kernel
theorem dX5_init_5 : decode cX5_init 5 = .ok (.sipush 400, 3) := by decide +kernel
theorem dX5_init_8 : decode cX5_init 8 = .ok (.newarray .int, 2) := by decide +kernel
theorem dX5_init_10 : decode cX5_init 10 = .ok (.putfield 9, 3) := by decide +kernel
theorem dX5_init_13 : decode cX5_init 13 = .ok (.return_, 1) := by decide +kernel
theorem dX5_append_0 : decode cX5_append 0 = .ok (.iload_n 3, 1) := by decide +kernel
theorem dX5_append_1 : decode cX5_append 1 = .ok (.sipush 400, 3) := by decide +kernel
theorem dX5_append_4 : decode cX5_append 4 = .ok (.aload_n 0, 1) := by decide +kernel
theorem dX5_append_5 : decode cX5_append 5 = .ok (.getfield 15, 3) := by decide +kernel
theorem dX5_append_8 : decode cX5_append 8 = .ok (.isub, 1) := by decide +kernel
theorem dX5_append_9 : decode cX5_append 9 = .ok (.if_icmp .le 5, 3) := by decide +kernel
theorem dX5_append_12 : decode cX5_append 12 = .ok (.iconst 0, 1) := by decide +kernel
theorem dX5_append_13 : decode cX5_append 13 = .ok (.ireturn, 1) := by decide +kernel
theorem dX5_append_14 : decode cX5_append 14 = .ok (.iload_n 3, 1) := by decide +kernel
theorem dX5_append_15 : decode cX5_append 15 = .ok (.iconst 1, 1) := by decide +kernel
theorem dX5_append_16 : decode cX5_append 16 = .ok (.isub, 1) := by decide +kernel
theorem dX5_append_17 : decode cX5_append 17 = .ok (.istore 4, 2) := by decide +kernel
theorem dX5_append_19 : decode cX5_append 19 = .ok (.iload 4, 2) := by decide +kernel
theorem dX5_append_21 : decode cX5_append 21 = .ok (.ifCond .lt 42, 3) := by decide +kernel
theorem dX5_append_24 : decode cX5_append 24 = .ok (.aload_n 0, 1) := by decide +kernel
theorem dX5_append_25 : decode cX5_append 25 = .ok (.getfield 9, 3) := by decide +kernel
theorem dX5_append_28 : decode cX5_append 28 = .ok (.aload_n 0, 1) := by decide +kernel
theorem dX5_append_29 : decode cX5_append 29 = .ok (.getfield 15, 3) := by decide +kernel
theorem dX5_append_32 : decode cX5_append 32 = .ok (.lload_n 1, 1) := by decide +kernel
theorem dX5_append_33 : decode cX5_append 33 = .ok (.bipush 8, 2) := by decide +kernel
theorem dX5_append_35 : decode cX5_append 35 = .ok (.iload 4, 2) := by decide +kernel
theorem dX5_append_37 : decode cX5_append 37 = .ok (.imul, 1) := by decide +kernel
theorem dX5_append_38 : decode cX5_append 38 = .ok (.lshr, 1) := by decide +kernel
theorem dX5_append_39 : decode cX5_append 39 = .ok (.ldc2_w 19, 3) := by decide +kernel
theorem dX5_append_42 : decode cX5_append 42 = .ok (.land, 1) := by decide +kernel
theorem dX5_append_43 : decode cX5_append 43 = .ok (.l2i, 1) := by decide +kernel
theorem dX5_append_44 : decode cX5_append 44 = .ok (.invokestatic 21, 3) := by decide +kernel
theorem dX5_append_47 : decode cX5_append 47 = .ok (.aload_n 0, 1) := by decide +kernel
theorem dX5_append_48 : decode cX5_append 48 = .ok (.dup, 1) := by decide +kernel
theorem dX5_append_49 : decode cX5_append 49 = .ok (.getfield 15, 3) := by decide +kernel
theorem dX5_append_52 : decode cX5_append 52 = .ok (.iconst 1, 1) := by decide +kernel
theorem dX5_append_53 : decode cX5_append 53 = .ok (.iadd, 1) := by decide +kernel
theorem dX5_append_54 : decode cX5_append 54 = .ok (.putfield 15, 3) := by decide +kernel
theorem dX5_append_57 : decode cX5_append 57 = .ok (.iinc 4 (-1), 3) := by decide +kernel
theorem dX5_append_60 : decode cX5_append 60 = .ok (.goto (-41), 3) := by decide +kernel
theorem dX5_append_63 : decode cX5_append 63 = .ok (.iconst 1, 1) := by decide +kernel
theorem dX5_append_64 : decode cX5_append 64 = .ok (.ireturn, 1) := by decide +kernel
theorem dX5_makeEmpty_0 : decode cX5_makeEmpty 0 = .ok (.aload_n 0, 1) := by decide +kernel
theorem dX5_makeEmpty_1 : decode cX5_makeEmpty 1 = .ok (.iconst 0, 1) := by decide +kernel
theorem dX5_makeEmpty_2 : decode cX5_makeEmpty 2 = .ok (.putfield 15, 3) := by decide +kernel
theorem dX5_makeEmpty_5 : decode cX5_makeEmpty 5 = .ok (.return_, 1) := by decide +kernel
theorem dX5_rewind_0 : decode cX5_rewind 0 = .ok (.aload_n 0, 1) := by decide +kernel
theorem dX5_rewind_1 : decode cX5_rewind 1 = .ok (.iconst 0, 1) := by decide +kernel
theorem dX5_rewind_2 : decode cX5_rewind 2 = .ok (.putfield 25, 3) := by decide +kernel
theorem dX5_rewind_5 : decode cX5_rewind 5 = .ok (.aload_n 0, 1) := by decide +kernel
theorem dX5_rewind_6 : decode cX5_rewind 6 = .ok (.invokevirtual 28, 3) := by decide +kernel
theorem dX5_rewind_9 : decode cX5_rewind 9 = .ok (.return_, 1) := by decide +kernel
theorem dX5_advance_0 : decode cX5_advance 0 = .ok (.aload_n 0, 1) := by decide +kernel
theorem dX5_advance_1 : decode cX5_advance 1 = .ok (.getfield 25, 3) := by decide +kernel
theorem dX5_advance_4 : decode cX5_advance 4 = .ok (.aload_n 0, 1) := by decide +kernel
theorem dX5_advance_5 : decode cX5_advance 5 = .ok (.getfield 15, 3) := by decide +kernel
theorem dX5_advance_8 : decode cX5_advance 8 = .ok (.if_icmp .ge 35, 3) := by decide +kernel
theorem dX5_advance_11 : decode cX5_advance 11 = .ok (.aload_n 0, 1) := by decide +kernel
theorem dX5_advance_12 : decode cX5_advance 12 = .ok (.getfield 9, 3) := by decide +kernel
theorem dX5_advance_15 : decode cX5_advance 15 = .ok (.aload_n 0, 1) := by decide +kernel
theorem dX5_advance_16 : decode cX5_advance 16 = .ok (.getfield 25, 3) := by decide +kernel
theorem dX5_advance_19 : decode cX5_advance 19 = .ok (.invokestatic 31, 3) := by decide +kernel
theorem dX5_advance_22 : decode cX5_advance 22 = .ok (.invokestatic 35, 3) := by decide +kernel
theorem dX5_advance_25 : decode cX5_advance 25 = .ok (.bipush 6, 2) := by decide +kernel
theorem dX5_advance_27 : decode cX5_advance 27 = .ok (.if_icmp .ne 16, 3) := by decide +kernel
theorem dX5_advance_30 : decode cX5_advance 30 = .ok (.aload_n 0, 1) := by decide +kernel
theorem dX5_advance_31 : decode cX5_advance 31 = .ok (.dup, 1) := by decide +kernel
theorem dX5_advance_32 : decode cX5_advance 32 = .ok (.getfield 25, 3) := by decide +kernel
theorem dX5_advance_35 : decode cX5_advance 35 = .ok (.iconst 1, 1) := by decide +kernel
theorem dX5_advance_36 : decode cX5_advance 36 = .ok (.iadd, 1) := by decide +kernel
theorem dX5_advance_37 : decode cX5_advance 37 = .ok (.putfield 25, 3) := by decide +kernel
theorem dX5_advance_40 : decode cX5_advance 40 = .ok (.goto (-40), 3) := by decide +kernel
theorem dX5_advance_43 : decode cX5_advance 43 = .ok (.aload_n 0, 1) := by decide +kernel
theorem dX5_advance_44 : decode cX5_advance 44 = .ok (.aload_n 0, 1) := by decide +kernel
theorem dX5_advance_45 : decode cX5_advance 45 = .ok (.getfield 25, 3) := by decide +kernel
theorem dX5_advance_48 : decode cX5_advance 48 = .ok (.putfield 39, 3) := by decide +kernel
theorem dX5_advance_51 : decode cX5_advance 51 = .ok (.aload_n 0, 1) := by decide +kernel
theorem dX5_advance_52 : decode cX5_advance 52 = .ok (.getfield 25, 3) := by decide +kernel
theorem dX5_advance_55 : decode cX5_advance 55 = .ok (.aload_n 0, 1) := by decide +kernel
theorem dX5_advance_56 : decode cX5_advance 56 = .ok (.getfield 15, 3) := by decide +kernel
theorem dX5_advance_59 : decode cX5_advance 59 = .ok (.if_icmp .lt 9, 3) := by decide +kernel
theorem dX5_advance_62 : decode cX5_advance 62 = .ok (.aload_n 0, 1) := by decide +kernel
theorem dX5_advance_63 : decode cX5_advance 63 = .ok (.iconst 0, 1) := by decide +kernel
theorem dX5_advance_64 : decode cX5_advance 64 = .ok (.putfield 42, 3) := by decide +kernel
theorem dX5_advance_67 : decode cX5_advance 67 = .ok (.return_, 1) := by decide +kernel
theorem dX5_advance_68 : decode cX5_advance 68 = .ok (.aload_n 0, 1) := by decide +kernel
theorem dX5_advance_69 : decode cX5_advance 69 = .ok (.aload_n 0, 1) := by decide +kernel
theorem dX5_advance_70 : decode cX5_advance 70 = .ok (.getfield 9, 3) := by decide +kernel
theorem dX5_advance_73 : decode cX5_advance 73 = .ok (.aload_n 0, 1) := by decide +kernel
theorem dX5_advance_74 : decode cX5_advance 74 = .ok (.getfield 25, 3) := by decide +kernel
theorem dX5_advance_77 : decode cX5_advance 77 = .ok (.invokestatic 31, 3) := by decide +kernel
theorem dX5_advance_80 : decode cX5_advance 80 = .ok (.invokestatic 35, 3) := by decide +kernel
theorem dX5_advance_83 : decode cX5_advance 83 = .ok (.putfield 42, 3) := by decide +kernel
theorem dX5_advance_86 : decode cX5_advance 86 = .ok (.aload_n 0, 1) := by decide +kernel
theorem dX5_advance_87 : decode cX5_advance 87 = .ok (.dup, 1) := by decide +kernel
theorem dX5_advance_88 : decode cX5_advance 88 = .ok (.getfield 25, 3) := by decide +kernel
theorem dX5_advance_91 : decode cX5_advance 91 = .ok (.iconst 1, 1) := by decide +kernel
theorem dX5_advance_92 : decode cX5_advance 92 = .ok (.iadd, 1) := by decide +kernel
theorem dX5_advance_93 : decode cX5_advance 93 = .ok (.putfield 25, 3) := by decide +kernel
theorem dX5_advance_96 : decode cX5_advance 96 = .ok (.aload_n 0, 1) := by decide +kernel
theorem dX5_advance_97 : decode cX5_advance 97 = .ok (.getfield 42, 3) := by decide +kernel
theorem dX5_advance_100 : decode cX5_advance 100 = .ok (.iconst 1, 1) := by decide +kernel
theorem dX5_advance_101 : decode cX5_advance 101 = .ok (.if_icmp .eq 11, 3) := by decide +kernel
theorem dX5_advance_104 : decode cX5_advance 104 = .ok (.aload_n 0, 1) := by decide +kernel
theorem dX5_advance_105 : decode cX5_advance 105 = .ok (.getfield 42, 3) := by decide +kernel
theorem dX5_advance_108 : decode cX5_advance 108 = .ok (.iconst 2, 1) := by decide +kernel
theorem dX5_advance_109 : decode cX5_advance 109 = .ok (.if_icmp .ne 7, 3) := by decide +kernel
theorem dX5_advance_112 : decode cX5_advance 112 = .ok (.iconst 1, 1) := by decide +kernel
theorem dX5_advance_113 : decode cX5_advance 113 = .ok (.goto 4, 3) := by decide +kernel
theorem dX5_advance_116 : decode cX5_advance 116 = .ok (.iconst 0, 1) := by decide +kernel
theorem dX5_advance_117 : decode cX5_advance 117 = .ok (.istore_n 1, 1) := by decide +kernel
theorem dX5_advance_118 : decode cX5_advance 118 = .ok (.iload_n 1, 1) := by decide +kernel
theorem dX5_advance_119 : decode cX5_advance 119 = .ok (.ifCond .eq 48, 3) := by decide +kernel
theorem dX5_advance_122 : decode cX5_advance 122 = .ok (.aload_n 0, 1) := by decide +kernel
theorem dX5_advance_123 : decode cX5_advance 123 = .ok (.getfield 25, 3) := by decide +kernel
theorem dX5_advance_126 : decode cX5_advance 126 = .ok (.aload_n 0, 1) := by decide +kernel
theorem dX5_advance_127 : decode cX5_advance 127 = .ok (.getfield 15, 3) := by decide +kernel
theorem dX5_advance_130 : decode cX5_advance 130 = .ok (.if_icmp .ge 37, 3) := by decide +kernel
theorem dX5_advance_133 : decode cX5_advance 133 = .ok (.aload_n 0, 1) := by decide +kernel
theorem dX5_advance_134 : decode cX5_advance 134 = .ok (.getfield 9, 3) := by decide +kernel
theorem dX5_advance_137 : decode cX5_advance 137 = .ok (.aload_n 0, 1) := by decide +kernel
theorem dX5_advance_138 : decode cX5_advance 138 = .ok (.getfield 25, 3) := by decide +kernel
theorem dX5_advance_141 : decode cX5_advance 141 = .ok (.invokestatic 31, 3) := by decide +kernel
theorem dX5_advance_144 : decode cX5_advance 144 = .ok (.invokestatic 35, 3) := by decide +kernel
theorem dX5_advance_147 : decode cX5_advance 147 = .ok (.aload_n 0, 1) := by decide +kernel
theorem dX5_advance_148 : decode cX5_advance 148 = .ok (.getfield 42, 3) := by decide +kernel
theorem dX5_advance_151 : decode cX5_advance 151 = .ok (.if_icmp .ne 16, 3) := by decide +kernel
theorem dX5_advance_154 : decode cX5_advance 154 = .ok (.aload_n 0, 1) := by decide +kernel
theorem dX5_advance_155 : decode cX5_advance 155 = .ok (.dup, 1) := by decide +kernel
theorem dX5_advance_156 : decode cX5_advance 156 = .ok (.getfield 25, 3) := by decide +kernel
theorem dX5_advance_159 : decode cX5_advance 159 = .ok (.iconst 1, 1) := by decide +kernel
theorem dX5_advance_160 : decode cX5_advance 160 = .ok (.iadd, 1) := by decide +kernel
theorem dX5_advance_161 : decode cX5_advance 161 = .ok (.putfield 25, 3) := by decide +kernel
theorem dX5_advance_164 : decode cX5_advance 164 = .ok (.goto (-46), 3) := by decide +kernel
theorem dX5_advance_167 : decode cX5_advance 167 = .ok (.aload_n 0, 1) := by decide +kernel
theorem dX5_advance_168 : decode cX5_advance 168 = .ok (.getfield 42, 3) := by decide +kernel
theorem dX5_advance_171 : decode cX5_advance 171 = .ok (.iconst 2, 1) := by decide +kernel
theorem dX5_advance_172 : decode cX5_advance 172 = .ok (.if_icmp .ne 21, 3) := by decide +kernel
theorem dX5_advance_175 : decode cX5_advance 175 = .ok (.aload_n 0, 1) := by decide +kernel
theorem dX5_advance_176 : decode cX5_advance 176 = .ok (.getfield 25, 3) := by decide +kernel
theorem dX5_advance_179 : decode cX5_advance 179 = .ok (.aload_n 0, 1) := by decide +kernel
theorem dX5_advance_180 : decode cX5_advance 180 = .ok (.getfield 39, 3) := by decide +kernel
theorem dX5_advance_183 : decode cX5_advance 183 = .ok (.isub, 1) := by decide +kernel
theorem dX5_advance_184 : decode cX5_advance 184 = .ok (.iconst 3, 1) := by decide +kernel
theorem dX5_advance_185 : decode cX5_advance 185 = .ok (.if_icmp .le 8, 3) := by decide +kernel
theorem dX5_advance_188 : decode cX5_advance 188 = .ok (.aload_n 0, 1) := by decide +kernel
theorem dX5_advance_189 : decode cX5_advance 189 = .ok (.iconst 5, 1) := by decide +kernel
theorem dX5_advance_190 : decode cX5_advance 190 = .ok (.putfield 42, 3) := by decide +kernel
theorem dX5_advance_193 : decode cX5_advance 193 = .ok (.return_, 1) := by decide +kernel
theorem dX5_isWord_0 : decode cX5_isWord 0 = .ok (.aload_n 0, 1) := by decide +kernel
theorem dX5_isWord_1 : decode cX5_isWord 1 = .ok (.getfield 42, 3) := by decide +kernel
theorem dX5_isWord_4 : decode cX5_isWord 4 = .ok (.iconst 1, 1) := by decide +kernel
theorem dX5_isWord_5 : decode cX5_isWord 5 = .ok (.if_icmp .ne 19, 3) := by decide +kernel
theorem dX5_isWord_8 : decode cX5_isWord 8 = .ok (.aload_n 1, 1) := by decide +kernel
theorem dX5_isWord_9 : decode cX5_isWord 9 = .ok (.invokevirtual 45, 3) := by decide +kernel
theorem dX5_isWord_12 : decode cX5_isWord 12 = .ok (.aload_n 0, 1) := by decide +kernel
theorem dX5_isWord_13 : decode cX5_isWord 13 = .ok (.getfield 25, 3) := by decide +kernel
theorem dX5_isWord_16 : decode cX5_isWord 16 = .ok (.aload_n 0, 1) := by decide +kernel
theorem dX5_isWord_17 : decode cX5_isWord 17 = .ok (.getfield 39, 3) := by decide +kernel
theorem dX5_isWord_20 : decode cX5_isWord 20 = .ok (.isub, 1) := by decide +kernel
theorem dX5_isWord_21 : decode cX5_isWord 21 = .ok (.if_icmp .eq 5, 3) := by decide +kernel
theorem dX5_isWord_24 : decode cX5_isWord 24 = .ok (.iconst 0, 1) := by decide +kernel
theorem dX5_isWord_25 : decode cX5_isWord 25 = .ok (.ireturn, 1) := by decide +kernel
theorem dX5_isWord_26 : decode cX5_isWord 26 = .ok (.iconst 0, 1) := by decide +kernel
theorem dX5_isWord_27 : decode cX5_isWord 27 = .ok (.istore_n 2, 1) := by decide +kernel
theorem dX5_isWord_28 : decode cX5_isWord 28 = .ok (.iload_n 2, 1) := by decide +kernel
theorem dX5_isWord_29 : decode cX5_isWord 29 = .ok (.aload_n 1, 1) := by decide +kernel
theorem dX5_isWord_30 : decode cX5_isWord 30 = .ok (.invokevirtual 45, 3) := by decide +kernel
theorem dX5_isWord_33 : decode cX5_isWord 33 = .ok (.if_icmp .ge 32, 3) := by decide +kernel
theorem dX5_isWord_36 : decode cX5_isWord 36 = .ok (.aload_n 1, 1) := by decide +kernel
theorem dX5_isWord_37 : decode cX5_isWord 37 = .ok (.iload_n 2, 1) := by decide +kernel
theorem dX5_isWord_38 : decode cX5_isWord 38 = .ok (.invokevirtual 50, 3) := by decide +kernel
theorem dX5_isWord_41 : decode cX5_isWord 41 = .ok (.aload_n 0, 1) := by decide +kernel
theorem dX5_isWord_42 : decode cX5_isWord 42 = .ok (.getfield 9, 3) := by decide +kernel
theorem dX5_isWord_45 : decode cX5_isWord 45 = .ok (.aload_n 0, 1) := by decide +kernel
theorem dX5_isWord_46 : decode cX5_isWord 46 = .ok (.getfield 39, 3) := by decide +kernel
theorem dX5_isWord_49 : decode cX5_isWord 49 = .ok (.iload_n 2, 1) := by decide +kernel
theorem dX5_isWord_50 : decode cX5_isWord 50 = .ok (.iadd, 1) := by decide +kernel
theorem dX5_isWord_51 : decode cX5_isWord 51 = .ok (.invokestatic 31, 3) := by decide +kernel
theorem dX5_isWord_54 : decode cX5_isWord 54 = .ok (.if_icmp .eq 5, 3) := by decide +kernel
theorem dX5_isWord_57 : decode cX5_isWord 57 = .ok (.iconst 0, 1) := by decide +kernel
theorem dX5_isWord_58 : decode cX5_isWord 58 = .ok (.ireturn, 1) := by decide +kernel
theorem dX5_isWord_59 : decode cX5_isWord 59 = .ok (.iinc 2 1, 3) := by decide +kernel
theorem dX5_isWord_62 : decode cX5_isWord 62 = .ok (.goto (-34), 3) := by decide +kernel
theorem dX5_isWord_65 : decode cX5_isWord 65 = .ok (.iconst 1, 1) := by decide +kernel
theorem dX5_isWord_66 : decode cX5_isWord 66 = .ok (.ireturn, 1) := by decide +kernel
theorem dX5_numberTold_0 : decode cX5_numberTold 0 = .ok (.iconst 0, 1) := by decide +kernel
theorem dX5_numberTold_1 : decode cX5_numberTold 1 = .ok (.istore_n 1, 1) := by decide +kernel
theorem dX5_numberTold_2 : decode cX5_numberTold 2 = .ok (.aload_n 0, 1) := by decide +kernel
theorem dX5_numberTold_3 : decode cX5_numberTold 3 = .ok (.getfield 39, 3) := by decide +kernel
theorem dX5_numberTold_6 : decode cX5_numberTold 6 = .ok (.istore_n 2, 1) := by decide +kernel
theorem dX5_numberTold_7 : decode cX5_numberTold 7 = .ok (.iload_n 2, 1) := by decide +kernel
theorem dX5_numberTold_8 : decode cX5_numberTold 8 = .ok (.aload_n 0, 1) := by decide +kernel
theorem dX5_numberTold_9 : decode cX5_numberTold 9 = .ok (.getfield 25, 3) := by decide +kernel
theorem dX5_numberTold_12 : decode cX5_numberTold 12 = .ok (.if_icmp .ge 26, 3) := by decide +kernel
theorem dX5_numberTold_15 : decode cX5_numberTold 15 = .ok (.bipush 10, 2) := by decide +kernel
theorem dX5_numberTold_17 : decode cX5_numberTold 17 = .ok (.iload_n 1, 1) := by decide +kernel
theorem dX5_numberTold_18 : decode cX5_numberTold 18 = .ok (.imul, 1) := by decide +kernel
theorem dX5_numberTold_19 : decode cX5_numberTold 19 = .ok (.aload_n 0, 1) := by decide +kernel
theorem dX5_numberTold_20 : decode cX5_numberTold 20 = .ok (.getfield 9, 3) := by decide +kernel
theorem dX5_numberTold_23 : decode cX5_numberTold 23 = .ok (.iload_n 2, 1) := by decide +kernel
theorem dX5_numberTold_24 : decode cX5_numberTold 24 = .ok (.invokestatic 31, 3) := by decide +kernel
theorem dX5_numberTold_27 : decode cX5_numberTold 27 = .ok (.iadd, 1) := by decide +kernel
theorem dX5_numberTold_28 : decode cX5_numberTold 28 = .ok (.bipush 48, 2) := by decide +kernel
theorem dX5_numberTold_30 : decode cX5_numberTold 30 = .ok (.isub, 1) := by decide +kernel
theorem dX5_numberTold_31 : decode cX5_numberTold 31 = .ok (.istore_n 1, 1) := by decide +kernel
theorem dX5_numberTold_32 : decode cX5_numberTold 32 = .ok (.iinc 2 1, 3) := by decide +kernel
theorem dX5_numberTold_35 : decode cX5_numberTold 35 = .ok (.goto (-28), 3) := by decide +kernel
theorem dX5_numberTold_38 : decode cX5_numberTold 38 = .ok (.iload_n 1, 1) := by decide +kernel
theorem dX5_numberTold_39 : decode cX5_numberTold 39 = .ok (.ireturn, 1) := by decide +kernel
theorem dX5_sortOf_0 : decode cX5_sortOf 0 = .ok (.iload_n 0, 1) := by decide +kernel
theorem dX5_sortOf_1 : decode cX5_sortOf 1 = .ok (.bipush 97, 2) := by decide +kernel
theorem dX5_sortOf_3 : decode cX5_sortOf 3 = .ok (.if_icmp .lt 11, 3) := by decide +kernel
theorem dX5_sortOf_6 : decode cX5_sortOf 6 = .ok (.iload_n 0, 1) := by decide +kernel
theorem dX5_sortOf_7 : decode cX5_sortOf 7 = .ok (.bipush 122, 2) := by decide +kernel
theorem dX5_sortOf_9 : decode cX5_sortOf 9 = .ok (.if_icmp .gt 5, 3) := by decide +kernel
theorem dX5_sortOf_12 : decode cX5_sortOf 12 = .ok (.iconst 1, 1) := by decide +kernel
theorem dX5_sortOf_13 : decode cX5_sortOf 13 = .ok (.ireturn, 1) := by decide +kernel
theorem dX5_sortOf_14 : decode cX5_sortOf 14 = .ok (.iload_n 0, 1) := by decide +kernel
theorem dX5_sortOf_15 : decode cX5_sortOf 15 = .ok (.bipush 48, 2) := by decide +kernel
theorem dX5_sortOf_17 : decode cX5_sortOf 17 = .ok (.if_icmp .lt 11, 3) := by decide +kernel
theorem dX5_sortOf_20 : decode cX5_sortOf 20 = .ok (.iload_n 0, 1) := by decide +kernel
theorem dX5_sortOf_21 : decode cX5_sortOf 21 = .ok (.bipush 57, 2) := by decide +kernel
theorem dX5_sortOf_23 : decode cX5_sortOf 23 = .ok (.if_icmp .gt 5, 3) := by decide +kernel
theorem dX5_sortOf_26 : decode cX5_sortOf 26 = .ok (.iconst 2, 1) := by decide +kernel
theorem dX5_sortOf_27 : decode cX5_sortOf 27 = .ok (.ireturn, 1) := by decide +kernel
theorem dX5_sortOf_28 : decode cX5_sortOf 28 = .ok (.iload_n 0, 1) := by decide +kernel
theorem dX5_sortOf_29 : decode cX5_sortOf 29 = .ok (.lookupswitch 50 #[(10, 47), (32, 47), (47, 45), (59, 43)], 43) := by decide +kernel
theorem dX5_sortOf_72 : decode cX5_sortOf 72 = .ok (.iconst 3, 1) := by decide +kernel
theorem dX5_sortOf_73 : decode cX5_sortOf 73 = .ok (.ireturn, 1) := by decide +kernel
theorem dX5_sortOf_74 : decode cX5_sortOf 74 = .ok (.iconst 4, 1) := by decide +kernel
theorem dX5_sortOf_75 : decode cX5_sortOf 75 = .ok (.ireturn, 1) := by decide +kernel
theorem dX5_sortOf_76 : decode cX5_sortOf 76 = .ok (.bipush 6, 2) := by decide +kernel
theorem dX5_sortOf_78 : decode cX5_sortOf 78 = .ok (.ireturn, 1) := by decide +kernel
theorem dX5_sortOf_79 : decode cX5_sortOf 79 = .ok (.iconst 5, 1) := by decide +kernel
theorem dX5_sortOf_80 : decode cX5_sortOf 80 = .ok (.ireturn, 1) := by decide +kernel
theorem dX6_init_0 : decode cX6_init 0 = .ok (.aload_n 0, 1) := by decide +kernel
theorem dX6_init_1 : decode cX6_init 1 = .ok (.invokespecial 1, 3) := by decide +kernel
theorem dX6_init_4 : decode cX6_init 4 = .ok (.aload_n 0, 1) := by decide +kernel
theorem dX6_init_5 : decode cX6_init 5 = .ok (.bipush 8, 2) := by decide +kernel
theorem dX6_init_7 : decode cX6_init 7 = .ok (.anewarray 9, 3) := by decide +kernel
theorem dX6_init_10 : decode cX6_init 10 = .ok (.putfield 11, 3) := by decide +kernel
theorem dX6_init_13 : decode cX6_init 13 = .ok (.aload_n 0, 1) := by decide +kernel
theorem dX6_init_14 : decode cX6_init 14 = .ok (.iconst 2, 1) := by decide +kernel
theorem dX6_init_15 : decode cX6_init 15 = .ok (.anewarray 15, 3) := by decide +kernel
theorem dX6_init_18 : decode cX6_init 18 = .ok (.putfield 17, 3) := by decide +kernel
theorem dX6_init_21 : decode cX6_init 21 = .ok (.aload_n 0, 1) := by decide +kernel
theorem dX6_init_22 : decode cX6_init 22 = .ok (.new 21, 3) := by decide +kernel
theorem dX6_init_25 : decode cX6_init 25 = .ok (.dup, 1) := by decide +kernel
theorem dX6_init_26 : decode cX6_init 26 = .ok (.invokespecial 23, 3) := by decide +kernel
theorem dX6_init_29 : decode cX6_init 29 = .ok (.putfield 24, 3) := by decide +kernel
theorem dX6_init_32 : decode cX6_init 32 = .ok (.aload_n 0, 1) := by decide +kernel
theorem dX6_init_33 : decode cX6_init 33 = .ok (.new 15, 3) := by decide +kernel
theorem dX6_init_36 : decode cX6_init 36 = .ok (.dup, 1) := by decide +kernel
theorem dX6_init_37 : decode cX6_init 37 = .ok (.invokespecial 28, 3) := by decide +kernel
theorem dX6_init_40 : decode cX6_init 40 = .ok (.putfield 29, 3) := by decide +kernel
theorem dX6_init_43 : decode cX6_init 43 = .ok (.aload_n 0, 1) := by decide +kernel
theorem dX6_init_44 : decode cX6_init 44 = .ok (.new 33, 3) := by decide +kernel
theorem dX6_init_47 : decode cX6_init 47 = .ok (.dup, 1) := by decide +kernel
theorem dX6_init_48 : decode cX6_init 48 = .ok (.invokespecial 35, 3) := by decide +kernel
theorem dX6_init_51 : decode cX6_init 51 = .ok (.putfield 36, 3) := by decide +kernel
theorem dX6_init_54 : decode cX6_init 54 = .ok (.aload_n 0, 1) := by decide +kernel
theorem dX6_init_55 : decode cX6_init 55 = .ok (.new 40, 3) := by decide +kernel
theorem dX6_init_58 : decode cX6_init 58 = .ok (.dup, 1) := by decide +kernel
theorem dX6_init_59 : decode cX6_init 59 = .ok (.invokespecial 42, 3) := by decide +kernel
theorem dX6_init_62 : decode cX6_init 62 = .ok (.putfield 43, 3) := by decide +kernel
theorem dX6_init_65 : decode cX6_init 65 = .ok (.iconst 0, 1) := by decide +kernel
theorem dX6_init_66 : decode cX6_init 66 = .ok (.istore_n 1, 1) := by decide +kernel
theorem dX6_init_67 : decode cX6_init 67 = .ok (.iload_n 1, 1) := by decide +kernel
theorem dX6_init_68 : decode cX6_init 68 = .ok (.aload_n 0, 1) := by decide +kernel
theorem dX6_init_69 : decode cX6_init 69 = .ok (.getfield 11, 3) := by decide +kernel
theorem dX6_init_72 : decode cX6_init 72 = .ok (.arraylength, 1) := by decide +kernel
theorem dX6_init_73 : decode cX6_init 73 = .ok (.if_icmp .ge 22, 3) := by decide +kernel
theorem dX6_init_76 : decode cX6_init 76 = .ok (.aload_n 0, 1) := by decide +kernel
theorem dX6_init_77 : decode cX6_init 77 = .ok (.getfield 11, 3) := by decide +kernel
theorem dX6_init_80 : decode cX6_init 80 = .ok (.iload_n 1, 1) := by decide +kernel
theorem dX6_init_81 : decode cX6_init 81 = .ok (.new 9, 3) := by decide +kernel
end
section
theorem dX6_init_84 : decode cX6_init 84 = .ok (.dup, 1) := by decide +kernel
theorem dX6_init_85 : decode cX6_init 85 = .ok (.invokespecial 47, 3) := by decide +kernel
theorem dX6_init_88 : decode cX6_init 88 = .ok (.aastore, 1) := by decide +kernel
theorem dX6_init_89 : decode cX6_init 89 = .ok (.iinc 1 1, 3) := by decide +kernel
theorem dX6_init_92 : decode cX6_init 92 = .ok (.goto (-25), 3) := by decide +kernel
theorem dX6_init_95 : decode cX6_init 95 = .ok (.iconst 0, 1) := by decide +kernel
theorem dX6_init_96 : decode cX6_init 96 = .ok (.istore_n 1, 1) := by decide +kernel
theorem dX6_init_97 : decode cX6_init 97 = .ok (.iload_n 1, 1) := by decide +kernel
theorem dX6_init_98 : decode cX6_init 98 = .ok (.aload_n 0, 1) := by decide +kernel
theorem dX6_init_99 : decode cX6_init 99 = .ok (.getfield 17, 3) := by decide +kernel
theorem dX6_init_102 : decode cX6_init 102 = .ok (.arraylength, 1) := by decide +kernel
theorem dX6_init_103 : decode cX6_init 103 = .ok (.if_icmp .ge 22, 3) := by decide +kernel
theorem dX6_init_106 : decode cX6_init 106 = .ok (.aload_n 0, 1) := by decide +kernel
theorem dX6_init_107 : decode cX6_init 107 = .ok (.getfield 17, 3) := by decide +kernel
theorem dX6_init_110 : decode cX6_init 110 = .ok (.iload_n 1, 1) := by decide +kernel
theorem dX6_init_111 : decode cX6_init 111 = .ok (.new 15, 3) := by decide +kernel
theorem dX6_init_114 : decode cX6_init 114 = .ok (.dup, 1) := by decide +kernel
theorem dX6_init_115 : decode cX6_init 115 = .ok (.invokespecial 28, 3) := by decide +kernel
theorem dX6_init_118 : decode cX6_init 118 = .ok (.aastore, 1) := by decide +kernel
theorem dX6_init_119 : decode cX6_init 119 = .ok (.iinc 1 1, 3) := by decide +kernel
theorem dX6_init_122 : decode cX6_init 122 = .ok (.goto (-25), 3) := by decide +kernel
theorem dX6_init_125 : decode cX6_init 125 = .ok (.return_, 1) := by decide +kernel
theorem dX6_row_0 : decode cX6_row 0 = .ok (.aload_n 0, 1) := by decide +kernel
theorem dX6_row_1 : decode cX6_row 1 = .ok (.iload_n 1, 1) := by decide +kernel
theorem dX6_row_2 : decode cX6_row 2 = .ok (.invokevirtual 48, 3) := by decide +kernel
theorem dX6_row_5 : decode cX6_row 5 = .ok (.astore 4, 2) := by decide +kernel
theorem dX6_row_7 : decode cX6_row 7 = .ok (.aload 4, 2) := by decide +kernel
theorem dX6_row_9 : decode cX6_row 9 = .ok (.ifnull 18, 3) := by decide +kernel
theorem dX6_row_12 : decode cX6_row 12 = .ok (.iload_n 2, 1) := by decide +kernel
theorem dX6_row_13 : decode cX6_row 13 = .ok (.ifCond .lt 14, 3) := by decide +kernel
theorem dX6_row_16 : decode cX6_row 16 = .ok (.iload_n 2, 1) := by decide +kernel
theorem dX6_row_17 : decode cX6_row 17 = .ok (.iconst 2, 1) := by decide +kernel
theorem dX6_row_18 : decode cX6_row 18 = .ok (.if_icmp .gt 9, 3) := by decide +kernel
theorem dX6_row_21 : decode cX6_row 21 = .ok (.iload_n 3, 1) := by decide +kernel
theorem dX6_row_22 : decode cX6_row 22 = .ok (.bipush 40, 2) := by decide +kernel
theorem dX6_row_24 : decode cX6_row 24 = .ok (.if_icmp .le 6, 3) := by decide +kernel
theorem dX6_row_27 : decode cX6_row 27 = .ok (.ldc 52, 2) := by decide +kernel
theorem dX6_row_29 : decode cX6_row 29 = .ok (.ireturn, 1) := by decide +kernel
theorem dX6_row_30 : decode cX6_row 30 = .ok (.iload_n 3, 1) := by decide +kernel
theorem dX6_row_31 : decode cX6_row 31 = .ok (.ifCond .ge 9, 3) := by decide +kernel
theorem dX6_row_34 : decode cX6_row 34 = .ok (.aload_n 0, 1) := by decide +kernel
theorem dX6_row_35 : decode cX6_row 35 = .ok (.iconst 4, 1) := by decide +kernel
theorem dX6_row_36 : decode cX6_row 36 = .ok (.invokevirtual 53, 3) := by decide +kernel
theorem dX6_row_39 : decode cX6_row 39 = .ok (.ireturn, 1) := by decide +kernel
theorem dX6_row_40 : decode cX6_row 40 = .ok (.aload 4, 2) := by decide +kernel
theorem dX6_row_42 : decode cX6_row 42 = .ok (.iload_n 2, 1) := by decide +kernel
theorem dX6_row_43 : decode cX6_row 43 = .ok (.iload_n 3, 1) := by decide +kernel
theorem dX6_row_44 : decode cX6_row 44 = .ok (.invokevirtual 57, 3) := by decide +kernel
theorem dX6_row_47 : decode cX6_row 47 = .ok (.aload_n 0, 1) := by decide +kernel
theorem dX6_row_48 : decode cX6_row 48 = .ok (.iload_n 3, 1) := by decide +kernel
theorem dX6_row_49 : decode cX6_row 49 = .ok (.invokevirtual 61, 3) := by decide +kernel
theorem dX6_row_52 : decode cX6_row 52 = .ok (.ireturn, 1) := by decide +kernel
theorem dX6_set_0 : decode cX6_set 0 = .ok (.aload_n 0, 1) := by decide +kernel
theorem dX6_set_1 : decode cX6_set 1 = .ok (.iload_n 1, 1) := by decide +kernel
theorem dX6_set_2 : decode cX6_set 2 = .ok (.invokevirtual 48, 3) := by decide +kernel
theorem dX6_set_5 : decode cX6_set 5 = .ok (.astore 4, 2) := by decide +kernel
theorem dX6_set_7 : decode cX6_set 7 = .ok (.aload 4, 2) := by decide +kernel
theorem dX6_set_9 : decode cX6_set 9 = .ok (.ifnonnull 6, 3) := by decide +kernel
theorem dX6_set_12 : decode cX6_set 12 = .ok (.ldc 52, 2) := by decide +kernel
theorem dX6_set_14 : decode cX6_set 14 = .ok (.ireturn, 1) := by decide +kernel
theorem dX6_set_15 : decode cX6_set 15 = .ok (.aload 4, 2) := by decide +kernel
theorem dX6_set_17 : decode cX6_set 17 = .ok (.invokevirtual 64, 3) := by decide +kernel
theorem dX6_set_20 : decode cX6_set 20 = .ok (.ifCond .eq 9, 3) := by decide +kernel
theorem dX6_set_23 : decode cX6_set 23 = .ok (.aload_n 0, 1) := by decide +kernel
theorem dX6_set_24 : decode cX6_set 24 = .ok (.iconst 1, 1) := by decide +kernel
theorem dX6_set_25 : decode cX6_set 25 = .ok (.invokevirtual 53, 3) := by decide +kernel
theorem dX6_set_28 : decode cX6_set 28 = .ok (.ireturn, 1) := by decide +kernel
theorem dX6_set_29 : decode cX6_set 29 = .ok (.aload 4, 2) := by decide +kernel
theorem dX6_set_31 : decode cX6_set 31 = .ok (.iload_n 2, 1) := by decide +kernel
theorem dX6_set_32 : decode cX6_set 32 = .ok (.iconst 1, 1) := by decide +kernel
theorem dX6_set_33 : decode cX6_set 33 = .ok (.invokevirtual 68, 3) := by decide +kernel
theorem dX6_set_36 : decode cX6_set 36 = .ok (.ifCond .ne 9, 3) := by decide +kernel
theorem dX6_set_39 : decode cX6_set 39 = .ok (.aload_n 0, 1) := by decide +kernel
theorem dX6_set_40 : decode cX6_set 40 = .ok (.iconst 2, 1) := by decide +kernel
theorem dX6_set_41 : decode cX6_set 41 = .ok (.invokevirtual 53, 3) := by decide +kernel
theorem dX6_set_44 : decode cX6_set 44 = .ok (.ireturn, 1) := by decide +kernel
theorem dX6_set_45 : decode cX6_set 45 = .ok (.aload 4, 2) := by decide +kernel
theorem dX6_set_47 : decode cX6_set 47 = .ok (.iload_n 2, 1) := by decide +kernel
theorem dX6_set_48 : decode cX6_set 48 = .ok (.iload_n 3, 1) := by decide +kernel
theorem dX6_set_49 : decode cX6_set 49 = .ok (.invokevirtual 72, 3) := by decide +kernel
theorem dX6_set_52 : decode cX6_set 52 = .ok (.aload_n 0, 1) := by decide +kernel
theorem dX6_set_53 : decode cX6_set 53 = .ok (.aload 4, 2) := by decide +kernel
theorem dX6_set_55 : decode cX6_set 55 = .ok (.iload_n 2, 1) := by decide +kernel
theorem dX6_set_56 : decode cX6_set 56 = .ok (.invokevirtual 75, 3) := by decide +kernel
theorem dX6_set_59 : decode cX6_set 59 = .ok (.invokevirtual 61, 3) := by decide +kernel
theorem dX6_set_62 : decode cX6_set 62 = .ok (.ireturn, 1) := by decide +kernel
theorem dX6_copy_0 : decode cX6_copy 0 = .ok (.aload_n 0, 1) := by decide +kernel
theorem dX6_copy_1 : decode cX6_copy 1 = .ok (.iload_n 1, 1) := by decide +kernel
theorem dX6_copy_2 : decode cX6_copy 2 = .ok (.invokevirtual 48, 3) := by decide +kernel
theorem dX6_copy_5 : decode cX6_copy 5 = .ok (.astore 6, 2) := by decide +kernel
theorem dX6_copy_7 : decode cX6_copy 7 = .ok (.aload_n 0, 1) := by decide +kernel
theorem dX6_copy_8 : decode cX6_copy 8 = .ok (.iload_n 3, 1) := by decide +kernel
theorem dX6_copy_9 : decode cX6_copy 9 = .ok (.invokevirtual 48, 3) := by decide +kernel
theorem dX6_copy_12 : decode cX6_copy 12 = .ok (.astore 7, 2) := by decide +kernel
theorem dX6_copy_14 : decode cX6_copy 14 = .ok (.aload 6, 2) := by decide +kernel
theorem dX6_copy_16 : decode cX6_copy 16 = .ok (.ifnull 8, 3) := by decide +kernel
theorem dX6_copy_19 : decode cX6_copy 19 = .ok (.aload 7, 2) := by decide +kernel
theorem dX6_copy_21 : decode cX6_copy 21 = .ok (.ifnonnull 6, 3) := by decide +kernel
theorem dX6_copy_24 : decode cX6_copy 24 = .ok (.ldc 52, 2) := by decide +kernel
theorem dX6_copy_26 : decode cX6_copy 26 = .ok (.ireturn, 1) := by decide +kernel
theorem dX6_copy_27 : decode cX6_copy 27 = .ok (.aload 6, 2) := by decide +kernel
theorem dX6_copy_29 : decode cX6_copy 29 = .ok (.invokevirtual 64, 3) := by decide +kernel
theorem dX6_copy_32 : decode cX6_copy 32 = .ok (.ifCond .ne 11, 3) := by decide +kernel
theorem dX6_copy_35 : decode cX6_copy 35 = .ok (.aload 7, 2) := by decide +kernel
theorem dX6_copy_37 : decode cX6_copy 37 = .ok (.invokevirtual 64, 3) := by decide +kernel
theorem dX6_copy_40 : decode cX6_copy 40 = .ok (.ifCond .eq 9, 3) := by decide +kernel
theorem dX6_copy_43 : decode cX6_copy 43 = .ok (.aload_n 0, 1) := by decide +kernel
theorem dX6_copy_44 : decode cX6_copy 44 = .ok (.iconst 1, 1) := by decide +kernel
theorem dX6_copy_45 : decode cX6_copy 45 = .ok (.invokevirtual 53, 3) := by decide +kernel
theorem dX6_copy_48 : decode cX6_copy 48 = .ok (.ireturn, 1) := by decide +kernel
theorem dX6_copy_49 : decode cX6_copy 49 = .ok (.aload 6, 2) := by decide +kernel
theorem dX6_copy_51 : decode cX6_copy 51 = .ok (.getfield 78, 3) := by decide +kernel
theorem dX6_copy_54 : decode cX6_copy 54 = .ok (.aload 7, 2) := by decide +kernel
theorem dX6_copy_56 : decode cX6_copy 56 = .ok (.getfield 78, 3) := by decide +kernel
theorem dX6_copy_59 : decode cX6_copy 59 = .ok (.if_icmp .eq 9, 3) := by decide +kernel
theorem dX6_copy_62 : decode cX6_copy 62 = .ok (.aload_n 0, 1) := by decide +kernel
theorem dX6_copy_63 : decode cX6_copy 63 = .ok (.iconst 5, 1) := by decide +kernel
theorem dX6_copy_64 : decode cX6_copy 64 = .ok (.invokevirtual 53, 3) := by decide +kernel
theorem dX6_copy_67 : decode cX6_copy 67 = .ok (.ireturn, 1) := by decide +kernel
theorem dX6_copy_68 : decode cX6_copy 68 = .ok (.aload 6, 2) := by decide +kernel
theorem dX6_copy_70 : decode cX6_copy 70 = .ok (.iload_n 2, 1) := by decide +kernel
theorem dX6_copy_71 : decode cX6_copy 71 = .ok (.iload 5, 2) := by decide +kernel
theorem dX6_copy_73 : decode cX6_copy 73 = .ok (.invokevirtual 68, 3) := by decide +kernel
theorem dX6_copy_76 : decode cX6_copy 76 = .ok (.ifCond .eq 15, 3) := by decide +kernel
theorem dX6_copy_79 : decode cX6_copy 79 = .ok (.aload 7, 2) := by decide +kernel
theorem dX6_copy_81 : decode cX6_copy 81 = .ok (.iload 4, 2) := by decide +kernel
theorem dX6_copy_83 : decode cX6_copy 83 = .ok (.iload 5, 2) := by decide +kernel
theorem dX6_copy_85 : decode cX6_copy 85 = .ok (.invokevirtual 68, 3) := by decide +kernel
theorem dX6_copy_88 : decode cX6_copy 88 = .ok (.ifCond .ne 9, 3) := by decide +kernel
theorem dX6_copy_91 : decode cX6_copy 91 = .ok (.aload_n 0, 1) := by decide +kernel
theorem dX6_copy_92 : decode cX6_copy 92 = .ok (.iconst 2, 1) := by decide +kernel
theorem dX6_copy_93 : decode cX6_copy 93 = .ok (.invokevirtual 53, 3) := by decide +kernel
theorem dX6_copy_96 : decode cX6_copy 96 = .ok (.ireturn, 1) := by decide +kernel
theorem dX6_copy_97 : decode cX6_copy 97 = .ok (.aload 7, 2) := by decide +kernel
theorem dX6_copy_99 : decode cX6_copy 99 = .ok (.aload 6, 2) := by decide +kernel
theorem dX6_copy_101 : decode cX6_copy 101 = .ok (.iload_n 2, 1) := by decide +kernel
theorem dX6_copy_102 : decode cX6_copy 102 = .ok (.iload 4, 2) := by decide +kernel
theorem dX6_copy_104 : decode cX6_copy 104 = .ok (.iload 5, 2) := by decide +kernel
theorem dX6_copy_106 : decode cX6_copy 106 = .ok (.invokevirtual 82, 3) := by decide +kernel
theorem dX6_copy_109 : decode cX6_copy 109 = .ok (.aload_n 0, 1) := by decide +kernel
theorem dX6_copy_110 : decode cX6_copy 110 = .ok (.iload 5, 2) := by decide +kernel
theorem dX6_copy_112 : decode cX6_copy 112 = .ok (.invokevirtual 61, 3) := by decide +kernel
theorem dX6_copy_115 : decode cX6_copy 115 = .ok (.ireturn, 1) := by decide +kernel
theorem dX6_drop_0 : decode cX6_drop 0 = .ok (.aload_n 0, 1) := by decide +kernel
theorem dX6_drop_1 : decode cX6_drop 1 = .ok (.iload_n 1, 1) := by decide +kernel
theorem dX6_drop_2 : decode cX6_drop 2 = .ok (.invokevirtual 48, 3) := by decide +kernel
theorem dX6_drop_5 : decode cX6_drop 5 = .ok (.astore_n 2, 1) := by decide +kernel
theorem dX6_drop_6 : decode cX6_drop 6 = .ok (.aload_n 2, 1) := by decide +kernel
theorem dX6_drop_7 : decode cX6_drop 7 = .ok (.ifnonnull 6, 3) := by decide +kernel
theorem dX6_drop_10 : decode cX6_drop 10 = .ok (.ldc 52, 2) := by decide +kernel
theorem dX6_drop_12 : decode cX6_drop 12 = .ok (.ireturn, 1) := by decide +kernel
theorem dX6_drop_13 : decode cX6_drop 13 = .ok (.aload_n 2, 1) := by decide +kernel
theorem dX6_drop_14 : decode cX6_drop 14 = .ok (.invokevirtual 64, 3) := by decide +kernel
theorem dX6_drop_17 : decode cX6_drop 17 = .ok (.ifCond .eq 9, 3) := by decide +kernel
theorem dX6_drop_20 : decode cX6_drop 20 = .ok (.aload_n 0, 1) := by decide +kernel
theorem dX6_drop_21 : decode cX6_drop 21 = .ok (.iconst 1, 1) := by decide +kernel
theorem dX6_drop_22 : decode cX6_drop 22 = .ok (.invokevirtual 53, 3) := by decide +kernel
theorem dX6_drop_25 : decode cX6_drop 25 = .ok (.ireturn, 1) := by decide +kernel
theorem dX6_drop_26 : decode cX6_drop 26 = .ok (.aload_n 2, 1) := by decide +kernel
theorem dX6_drop_27 : decode cX6_drop 27 = .ok (.getfield 86, 3) := by decide +kernel
theorem dX6_drop_30 : decode cX6_drop 30 = .ok (.istore_n 3, 1) := by decide +kernel
theorem dX6_drop_31 : decode cX6_drop 31 = .ok (.aload_n 2, 1) := by decide +kernel
theorem dX6_drop_32 : decode cX6_drop 32 = .ok (.invokevirtual 89, 3) := by decide +kernel
theorem dX6_drop_35 : decode cX6_drop 35 = .ok (.aload_n 0, 1) := by decide +kernel
theorem dX6_drop_36 : decode cX6_drop 36 = .ok (.iload_n 3, 1) := by decide +kernel
theorem dX6_drop_37 : decode cX6_drop 37 = .ok (.invokevirtual 61, 3) := by decide +kernel
theorem dX6_drop_40 : decode cX6_drop 40 = .ok (.ireturn, 1) := by decide +kernel
theorem dX6_feed_0 : decode cX6_feed 0 = .ok (.iload_n 3, 1) := by decide +kernel
theorem dX6_feed_1 : decode cX6_feed 1 = .ok (.iconst 1, 1) := by decide +kernel
theorem dX6_feed_2 : decode cX6_feed 2 = .ok (.if_icmp .lt 9, 3) := by decide +kernel
theorem dX6_feed_5 : decode cX6_feed 5 = .ok (.iload_n 3, 1) := by decide +kernel
theorem dX6_feed_6 : decode cX6_feed 6 = .ok (.bipush 8, 2) := by decide +kernel
theorem dX6_feed_8 : decode cX6_feed 8 = .ok (.if_icmp .le 6, 3) := by decide +kernel
theorem dX6_feed_11 : decode cX6_feed 11 = .ok (.ldc 52, 2) := by decide +kernel
theorem dX6_feed_13 : decode cX6_feed 13 = .ok (.ireturn, 1) := by decide +kernel
theorem dX6_feed_14 : decode cX6_feed 14 = .ok (.aload_n 0, 1) := by decide +kernel
theorem dX6_feed_15 : decode cX6_feed 15 = .ok (.getfield 24, 3) := by decide +kernel
theorem dX6_feed_18 : decode cX6_feed 18 = .ok (.getfield 92, 3) := by decide +kernel
theorem dX6_feed_21 : decode cX6_feed 21 = .ok (.lload_n 1, 1) := by decide +kernel
theorem dX6_feed_22 : decode cX6_feed 22 = .ok (.iload_n 3, 1) := by decide +kernel
theorem dX6_feed_23 : decode cX6_feed 23 = .ok (.invokevirtual 96, 3) := by decide +kernel
theorem dX6_feed_26 : decode cX6_feed 26 = .ok (.ifCond .eq 16, 3) := by decide +kernel
theorem dX6_feed_29 : decode cX6_feed 29 = .ok (.aload_n 0, 1) := by decide +kernel
theorem dX6_feed_30 : decode cX6_feed 30 = .ok (.getfield 24, 3) := by decide +kernel
theorem dX6_feed_33 : decode cX6_feed 33 = .ok (.getfield 92, 3) := by decide +kernel
theorem dX6_feed_36 : decode cX6_feed 36 = .ok (.getfield 102, 3) := by decide +kernel
theorem dX6_feed_39 : decode cX6_feed 39 = .ok (.goto 5, 3) := by decide +kernel
theorem dX6_feed_42 : decode cX6_feed 42 = .ok (.ldc 103, 2) := by decide +kernel
theorem dX6_feed_44 : decode cX6_feed 44 = .ok (.ireturn, 1) := by decide +kernel
theorem dX6_page_0 : decode cX6_page 0 = .ok (.aload_n 0, 1) := by decide +kernel
theorem dX6_page_1 : decode cX6_page 1 = .ok (.getfield 24, 3) := by decide +kernel
theorem dX6_page_4 : decode cX6_page 4 = .ok (.invokevirtual 104, 3) := by decide +kernel
theorem dX6_page_7 : decode cX6_page 7 = .ok (.ifCond .ne 14, 3) := by decide +kernel
theorem dX6_page_10 : decode cX6_page 10 = .ok (.ldc 107, 2) := by decide +kernel
theorem dX6_page_12 : decode cX6_page 12 = .ok (.aload_n 0, 1) := by decide +kernel
theorem dX6_page_13 : decode cX6_page 13 = .ok (.getfield 24, 3) := by decide +kernel
theorem dX6_page_16 : decode cX6_page 16 = .ok (.getfield 108, 3) := by decide +kernel
theorem dX6_page_19 : decode cX6_page 19 = .ok (.isub, 1) := by decide +kernel
theorem dX6_page_20 : decode cX6_page 20 = .ok (.ireturn, 1) := by decide +kernel
theorem dX6_page_21 : decode cX6_page 21 = .ok (.aload_n 0, 1) := by decide +kernel
theorem dX6_page_22 : decode cX6_page 22 = .ok (.getfield 29, 3) := by decide +kernel
theorem dX6_page_25 : decode cX6_page 25 = .ok (.aload_n 0, 1) := by decide +kernel
theorem dX6_page_26 : decode cX6_page 26 = .ok (.getfield 24, 3) := by decide +kernel
theorem dX6_page_29 : decode cX6_page 29 = .ok (.getfield 111, 3) := by decide +kernel
theorem dX6_page_32 : decode cX6_page 32 = .ok (.invokevirtual 114, 3) := by decide +kernel
theorem dX6_page_35 : decode cX6_page 35 = .ok (.aload_n 0, 1) := by decide +kernel
theorem dX6_page_36 : decode cX6_page 36 = .ok (.getfield 36, 3) := by decide +kernel
theorem dX6_page_39 : decode cX6_page 39 = .ok (.invokevirtual 118, 3) := by decide +kernel
theorem dX6_page_42 : decode cX6_page 42 = .ok (.aload_n 0, 1) := by decide +kernel
theorem dX6_page_43 : decode cX6_page 43 = .ok (.getfield 29, 3) := by decide +kernel
theorem dX6_page_46 : decode cX6_page 46 = .ok (.getfield 121, 3) := by decide +kernel
theorem dX6_page_49 : decode cX6_page 49 = .ok (.ireturn, 1) := by decide +kernel
theorem dX6_fault_0 : decode cX6_fault 0 = .ok (.aload_n 0, 1) := by decide +kernel
theorem dX6_fault_1 : decode cX6_fault 1 = .ok (.getfield 24, 3) := by decide +kernel
theorem dX6_fault_4 : decode cX6_fault 4 = .ok (.getfield 124, 3) := by decide +kernel
theorem dX6_fault_7 : decode cX6_fault 7 = .ok (.ireturn, 1) := by decide +kernel
theorem dX6_write_0 : decode cX6_write 0 = .ok (.aload_n 0, 1) := by decide +kernel
theorem dX6_write_1 : decode cX6_write 1 = .ok (.getfield 29, 3) := by decide +kernel
theorem dX6_write_4 : decode cX6_write 4 = .ok (.iload_n 1, 1) := by decide +kernel
theorem dX6_write_5 : decode cX6_write 5 = .ok (.iload_n 2, 1) := by decide +kernel
theorem dX6_write_6 : decode cX6_write 6 = .ok (.invokevirtual 127, 3) := by decide +kernel
theorem dX6_write_9 : decode cX6_write 9 = .ok (.ifCond .eq 14, 3) := by decide +kernel
theorem dX6_write_12 : decode cX6_write 12 = .ok (.aload_n 0, 1) := by decide +kernel
theorem dX6_write_13 : decode cX6_write 13 = .ok (.getfield 29, 3) := by decide +kernel
theorem dX6_write_16 : decode cX6_write 16 = .ok (.iload_n 3, 1) := by decide +kernel
theorem dX6_write_17 : decode cX6_write 17 = .ok (.invokevirtual 130, 3) := by decide +kernel
theorem dX6_write_20 : decode cX6_write 20 = .ok (.ifCond .ne 6, 3) := by decide +kernel
theorem dX6_write_23 : decode cX6_write 23 = .ok (.ldc 52, 2) := by decide +kernel
theorem dX6_write_25 : decode cX6_write 25 = .ok (.ireturn, 1) := by decide +kernel
theorem dX6_write_26 : decode cX6_write 26 = .ok (.aload_n 0, 1) := by decide +kernel
theorem dX6_write_27 : decode cX6_write 27 = .ok (.getfield 29, 3) := by decide +kernel
theorem dX6_write_30 : decode cX6_write 30 = .ok (.iload_n 1, 1) := by decide +kernel
theorem dX6_write_31 : decode cX6_write 31 = .ok (.iload_n 2, 1) := by decide +kernel
theorem dX6_write_32 : decode cX6_write 32 = .ok (.invokevirtual 134, 3) := by decide +kernel
theorem dX6_write_35 : decode cX6_write 35 = .ok (.istore 4, 2) := by decide +kernel
theorem dX6_write_37 : decode cX6_write 37 = .ok (.aload_n 0, 1) := by decide +kernel
theorem dX6_write_38 : decode cX6_write 38 = .ok (.getfield 36, 3) := by decide +kernel
theorem dX6_write_41 : decode cX6_write 41 = .ok (.iload_n 1, 1) := by decide +kernel
theorem dX6_write_42 : decode cX6_write 42 = .ok (.iload_n 2, 1) := by decide +kernel
theorem dX6_write_43 : decode cX6_write 43 = .ok (.iload 4, 2) := by decide +kernel
theorem dX6_write_45 : decode cX6_write 45 = .ok (.invokevirtual 138, 3) := by decide +kernel
theorem dX6_write_48 : decode cX6_write 48 = .ok (.aload_n 0, 1) := by decide +kernel
theorem dX6_write_49 : decode cX6_write 49 = .ok (.getfield 29, 3) := by decide +kernel
theorem dX6_write_52 : decode cX6_write 52 = .ok (.iload_n 1, 1) := by decide +kernel
theorem dX6_write_53 : decode cX6_write 53 = .ok (.iload_n 2, 1) := by decide +kernel
theorem dX6_write_54 : decode cX6_write 54 = .ok (.iload_n 3, 1) := by decide +kernel
theorem dX6_write_55 : decode cX6_write 55 = .ok (.invokevirtual 142, 3) := by decide +kernel
theorem dX6_write_58 : decode cX6_write 58 = .ok (.iload 4, 2) := by decide +kernel
theorem dX6_write_60 : decode cX6_write 60 = .ok (.ireturn, 1) := by decide +kernel
theorem dX6_turn_0 : decode cX6_turn 0 = .ok (.aload_n 0, 1) := by decide +kernel
theorem dX6_turn_1 : decode cX6_turn 1 = .ok (.getfield 29, 3) := by decide +kernel
theorem dX6_turn_4 : decode cX6_turn 4 = .ok (.invokevirtual 145, 3) := by decide +kernel
theorem dX6_turn_7 : decode cX6_turn 7 = .ok (.ifCond .ne 6, 3) := by decide +kernel
theorem dX6_turn_10 : decode cX6_turn 10 = .ok (.ldc 148, 2) := by decide +kernel
theorem dX6_turn_12 : decode cX6_turn 12 = .ok (.ireturn, 1) := by decide +kernel
theorem dX6_turn_13 : decode cX6_turn 13 = .ok (.aload_n 0, 1) := by decide +kernel
theorem dX6_turn_14 : decode cX6_turn 14 = .ok (.getfield 36, 3) := by decide +kernel
theorem dX6_turn_17 : decode cX6_turn 17 = .ok (.iconst (-1), 1) := by decide +kernel
theorem dX6_turn_18 : decode cX6_turn 18 = .ok (.iconst 0, 1) := by decide +kernel
theorem dX6_turn_19 : decode cX6_turn 19 = .ok (.iconst 0, 1) := by decide +kernel
theorem dX6_turn_20 : decode cX6_turn 20 = .ok (.invokevirtual 138, 3) := by decide +kernel
theorem dX6_turn_23 : decode cX6_turn 23 = .ok (.aload_n 0, 1) := by decide +kernel
theorem dX6_turn_24 : decode cX6_turn 24 = .ok (.getfield 29, 3) := by decide +kernel
theorem dX6_turn_27 : decode cX6_turn 27 = .ok (.invokevirtual 149, 3) := by decide +kernel
theorem dX6_turn_30 : decode cX6_turn 30 = .ok (.aload_n 0, 1) := by decide +kernel
theorem dX6_turn_31 : decode cX6_turn 31 = .ok (.getfield 29, 3) := by decide +kernel
theorem dX6_turn_34 : decode cX6_turn 34 = .ok (.getfield 121, 3) := by decide +kernel
theorem dX6_turn_37 : decode cX6_turn 37 = .ok (.ireturn, 1) := by decide +kernel
theorem dX6_undo_0 : decode cX6_undo 0 = .ok (.aload_n 0, 1) := by decide +kernel
theorem dX6_undo_1 : decode cX6_undo 1 = .ok (.getfield 36, 3) := by decide +kernel
theorem dX6_undo_4 : decode cX6_undo 4 = .ok (.getfield 152, 3) := by decide +kernel
theorem dX6_undo_7 : decode cX6_undo 7 = .ok (.ifCond .ne 6, 3) := by decide +kernel
theorem dX6_undo_10 : decode cX6_undo 10 = .ok (.ldc 148, 2) := by decide +kernel
theorem dX6_undo_12 : decode cX6_undo 12 = .ok (.ireturn, 1) := by decide +kernel
theorem dX6_undo_13 : decode cX6_undo 13 = .ok (.aload_n 0, 1) := by decide +kernel
theorem dX6_undo_14 : decode cX6_undo 14 = .ok (.getfield 36, 3) := by decide +kernel
theorem dX6_undo_17 : decode cX6_undo 17 = .ok (.invokevirtual 155, 3) := by decide +kernel
theorem dX6_undo_20 : decode cX6_undo 20 = .ok (.iconst (-1), 1) := by decide +kernel
theorem dX6_undo_21 : decode cX6_undo 21 = .ok (.if_icmp .ne 13, 3) := by decide +kernel
theorem dX6_undo_24 : decode cX6_undo 24 = .ok (.aload_n 0, 1) := by decide +kernel
theorem dX6_undo_25 : decode cX6_undo 25 = .ok (.getfield 29, 3) := by decide +kernel
theorem dX6_undo_28 : decode cX6_undo 28 = .ok (.invokevirtual 149, 3) := by decide +kernel
theorem dX6_undo_31 : decode cX6_undo 31 = .ok (.goto 31, 3) := by decide +kernel
theorem dX6_undo_34 : decode cX6_undo 34 = .ok (.aload_n 0, 1) := by decide +kernel
theorem dX6_undo_35 : decode cX6_undo 35 = .ok (.getfield 29, 3) := by decide +kernel
theorem dX6_undo_38 : decode cX6_undo 38 = .ok (.aload_n 0, 1) := by decide +kernel
theorem dX6_undo_39 : decode cX6_undo 39 = .ok (.getfield 36, 3) := by decide +kernel
theorem dX6_undo_42 : decode cX6_undo 42 = .ok (.invokevirtual 155, 3) := by decide +kernel
theorem dX6_undo_45 : decode cX6_undo 45 = .ok (.aload_n 0, 1) := by decide +kernel
theorem dX6_undo_46 : decode cX6_undo 46 = .ok (.getfield 36, 3) := by decide +kernel
theorem dX6_undo_49 : decode cX6_undo 49 = .ok (.invokevirtual 159, 3) := by decide +kernel
theorem dX6_undo_52 : decode cX6_undo 52 = .ok (.aload_n 0, 1) := by decide +kernel
theorem dX6_undo_53 : decode cX6_undo 53 = .ok (.getfield 36, 3) := by decide +kernel
theorem dX6_undo_56 : decode cX6_undo 56 = .ok (.invokevirtual 162, 3) := by decide +kernel
theorem dX6_undo_59 : decode cX6_undo 59 = .ok (.invokevirtual 142, 3) := by decide +kernel
theorem dX6_undo_62 : decode cX6_undo 62 = .ok (.aload_n 0, 1) := by decide +kernel
theorem dX6_undo_63 : decode cX6_undo 63 = .ok (.getfield 36, 3) := by decide +kernel
theorem dX6_undo_66 : decode cX6_undo 66 = .ok (.invokevirtual 165, 3) := by decide +kernel
theorem dX6_undo_69 : decode cX6_undo 69 = .ok (.aload_n 0, 1) := by decide +kernel
theorem dX6_undo_70 : decode cX6_undo 70 = .ok (.getfield 36, 3) := by decide +kernel
theorem dX6_undo_73 : decode cX6_undo 73 = .ok (.getfield 152, 3) := by decide +kernel
theorem dX6_undo_76 : decode cX6_undo 76 = .ok (.ireturn, 1) := by decide +kernel
theorem dX6_at_0 : decode cX6_at 0 = .ok (.aload_n 0, 1) := by decide +kernel
theorem dX6_at_1 : decode cX6_at 1 = .ok (.getfield 29, 3) := by decide +kernel
theorem dX6_at_4 : decode cX6_at 4 = .ok (.iload_n 1, 1) := by decide +kernel
theorem dX6_at_5 : decode cX6_at 5 = .ok (.iload_n 2, 1) := by decide +kernel
theorem dX6_at_6 : decode cX6_at 6 = .ok (.invokevirtual 127, 3) := by decide +kernel
theorem dX6_at_9 : decode cX6_at 9 = .ok (.ifCond .eq 15, 3) := by decide +kernel
theorem dX6_at_12 : decode cX6_at 12 = .ok (.aload_n 0, 1) := by decide +kernel
theorem dX6_at_13 : decode cX6_at 13 = .ok (.getfield 29, 3) := by decide +kernel
theorem dX6_at_16 : decode cX6_at 16 = .ok (.iload_n 1, 1) := by decide +kernel
theorem dX6_at_17 : decode cX6_at 17 = .ok (.iload_n 2, 1) := by decide +kernel
theorem dX6_at_18 : decode cX6_at 18 = .ok (.invokevirtual 134, 3) := by decide +kernel
theorem dX6_at_21 : decode cX6_at 21 = .ok (.goto 5, 3) := by decide +kernel
theorem dX6_at_24 : decode cX6_at 24 = .ok (.ldc 52, 2) := by decide +kernel
theorem dX6_at_26 : decode cX6_at 26 = .ok (.ireturn, 1) := by decide +kernel
theorem dX6_letter_0 : decode cX6_letter 0 = .ok (.aload_n 0, 1) := by decide +kernel
theorem dX6_letter_1 : decode cX6_letter 1 = .ok (.getfield 29, 3) := by decide +kernel
theorem dX6_letter_4 : decode cX6_letter 4 = .ok (.iload_n 1, 1) := by decide +kernel
theorem dX6_letter_5 : decode cX6_letter 5 = .ok (.invokevirtual 130, 3) := by decide +kernel
theorem dX6_letter_8 : decode cX6_letter 8 = .ok (.ifCond .ne 6, 3) := by decide +kernel
theorem dX6_letter_11 : decode cX6_letter 11 = .ok (.ldc 52, 2) := by decide +kernel
theorem dX6_letter_13 : decode cX6_letter 13 = .ok (.ireturn, 1) := by decide +kernel
theorem dX6_letter_14 : decode cX6_letter 14 = .ok (.iload_n 2, 1) := by decide +kernel
theorem dX6_letter_15 : decode cX6_letter 15 = .ok (.tableswitch 55 0 2 #[25, 34, 46], 25) := by decide +kernel
theorem dX6_letter_40 : decode cX6_letter 40 = .ok (.aload_n 0, 1) := by decide +kernel
theorem dX6_letter_41 : decode cX6_letter 41 = .ok (.getfield 29, 3) := by decide +kernel
theorem dX6_letter_44 : decode cX6_letter 44 = .ok (.iload_n 1, 1) := by decide +kernel
theorem dX6_letter_45 : decode cX6_letter 45 = .ok (.invokevirtual 168, 3) := by decide +kernel
theorem dX6_letter_48 : decode cX6_letter 48 = .ok (.ireturn, 1) := by decide +kernel
theorem dX6_letter_49 : decode cX6_letter 49 = .ok (.aload_n 0, 1) := by decide +kernel
theorem dX6_letter_50 : decode cX6_letter 50 = .ok (.getfield 29, 3) := by decide +kernel
theorem dX6_letter_53 : decode cX6_letter 53 = .ok (.iload_n 1, 1) := by decide +kernel
theorem dX6_letter_54 : decode cX6_letter 54 = .ok (.invokevirtual 168, 3) := by decide +kernel
theorem dX6_letter_57 : decode cX6_letter 57 = .ok (.invokestatic 171, 3) := by decide +kernel
theorem dX6_letter_60 : decode cX6_letter 60 = .ok (.ireturn, 1) := by decide +kernel
theorem dX6_letter_61 : decode cX6_letter 61 = .ok (.aload_n 0, 1) := by decide +kernel
theorem dX6_letter_62 : decode cX6_letter 62 = .ok (.getfield 29, 3) := by decide +kernel
theorem dX6_letter_65 : decode cX6_letter 65 = .ok (.iload_n 1, 1) := by decide +kernel
theorem dX6_letter_66 : decode cX6_letter 66 = .ok (.invokevirtual 174, 3) := by decide +kernel
theorem dX6_letter_69 : decode cX6_letter 69 = .ok (.ireturn, 1) := by decide +kernel
theorem dX6_letter_70 : decode cX6_letter 70 = .ok (.ldc 52, 2) := by decide +kernel
theorem dX6_letter_72 : decode cX6_letter 72 = .ok (.ireturn, 1) := by decide +kernel
theorem dX6_light_0 : decode cX6_light 0 = .ok (.aload_n 0, 1) := by decide +kernel
theorem dX6_light_1 : decode cX6_light 1 = .ok (.getfield 29, 3) := by decide +kernel
theorem dX6_light_4 : decode cX6_light 4 = .ok (.iload_n 1, 1) := by decide +kernel
theorem dX6_light_5 : decode cX6_light 5 = .ok (.iload_n 2, 1) := by decide +kernel
theorem dX6_light_6 : decode cX6_light 6 = .ok (.invokevirtual 127, 3) := by decide +kernel
theorem dX6_light_9 : decode cX6_light 9 = .ok (.ifCond .ne 6, 3) := by decide +kernel
theorem dX6_light_12 : decode cX6_light 12 = .ok (.ldc 52, 2) := by decide +kernel
theorem dX6_light_14 : decode cX6_light 14 = .ok (.ireturn, 1) := by decide +kernel
theorem dX6_light_15 : decode cX6_light 15 = .ok (.aload_n 0, 1) := by decide +kernel
theorem dX6_light_16 : decode cX6_light 16 = .ok (.getfield 29, 3) := by decide +kernel
theorem dX6_light_19 : decode cX6_light 19 = .ok (.iload_n 1, 1) := by decide +kernel
theorem dX6_light_20 : decode cX6_light 20 = .ok (.iload_n 2, 1) := by decide +kernel
theorem dX6_light_21 : decode cX6_light 21 = .ok (.invokevirtual 177, 3) := by decide +kernel
theorem dX6_light_24 : decode cX6_light 24 = .ok (.istore 4, 2) := by decide +kernel
theorem dX6_light_26 : decode cX6_light 26 = .ok (.iload_n 3, 1) := by decide +kernel
theorem dX6_light_27 : decode cX6_light 27 = .ok (.ifCond .ne 8, 3) := by decide +kernel
theorem dX6_light_30 : decode cX6_light 30 = .ok (.iload 4, 2) := by decide +kernel
theorem dX6_light_32 : decode cX6_light 32 = .ok (.goto 12, 3) := by decide +kernel
theorem dX6_light_35 : decode cX6_light 35 = .ok (.aload_n 0, 1) := by decide +kernel
theorem dX6_light_36 : decode cX6_light 36 = .ok (.iload 4, 2) := by decide +kernel
theorem dX6_light_38 : decode cX6_light 38 = .ok (.iload_n 3, 1) := by decide +kernel
theorem dX6_light_39 : decode cX6_light 39 = .ok (.iconst 1, 1) := by decide +kernel
theorem dX6_light_40 : decode cX6_light 40 = .ok (.isub, 1) := by decide +kernel
theorem dX6_light_41 : decode cX6_light 41 = .ok (.invokevirtual 180, 3) := by decide +kernel
theorem dX6_light_44 : decode cX6_light 44 = .ok (.ireturn, 1) := by decide +kernel
theorem dX6_damp_0 : decode cX6_damp 0 = .ok (.aload_n 0, 1) := by decide +kernel
theorem dX6_damp_1 : decode cX6_damp 1 = .ok (.getfield 29, 3) := by decide +kernel
theorem dX6_damp_4 : decode cX6_damp 4 = .ok (.iload_n 1, 1) := by decide +kernel
theorem dX6_damp_5 : decode cX6_damp 5 = .ok (.iload_n 2, 1) := by decide +kernel
theorem dX6_damp_6 : decode cX6_damp 6 = .ok (.invokevirtual 127, 3) := by decide +kernel
theorem dX6_damp_9 : decode cX6_damp 9 = .ok (.ifCond .eq 13, 3) := by decide +kernel
theorem dX6_damp_12 : decode cX6_damp 12 = .ok (.iload_n 3, 1) := by decide +kernel
theorem dX6_damp_13 : decode cX6_damp 13 = .ok (.ifCond .lt 9, 3) := by decide +kernel
theorem dX6_damp_16 : decode cX6_damp 16 = .ok (.iload_n 3, 1) := by decide +kernel
theorem dX6_damp_17 : decode cX6_damp 17 = .ok (.bipush 30, 2) := by decide +kernel
theorem dX6_damp_19 : decode cX6_damp 19 = .ok (.if_icmp .le 6, 3) := by decide +kernel
theorem dX6_damp_22 : decode cX6_damp 22 = .ok (.ldc 52, 2) := by decide +kernel
theorem dX6_damp_24 : decode cX6_damp 24 = .ok (.ireturn, 1) := by decide +kernel
theorem dX6_damp_25 : decode cX6_damp 25 = .ok (.aload_n 0, 1) := by decide +kernel
theorem dX6_damp_26 : decode cX6_damp 26 = .ok (.aload_n 0, 1) := by decide +kernel
theorem dX6_damp_27 : decode cX6_damp 27 = .ok (.getfield 29, 3) := by decide +kernel
theorem dX6_damp_30 : decode cX6_damp 30 = .ok (.iload_n 1, 1) := by decide +kernel
theorem dX6_damp_31 : decode cX6_damp 31 = .ok (.iload_n 2, 1) := by decide +kernel
theorem dX6_damp_32 : decode cX6_damp 32 = .ok (.iload_n 3, 1) := by decide +kernel
theorem dX6_damp_33 : decode cX6_damp 33 = .ok (.invokevirtual 183, 3) := by decide +kernel
theorem dX6_damp_36 : decode cX6_damp 36 = .ok (.iload 4, 2) := by decide +kernel
theorem dX6_damp_38 : decode cX6_damp 38 = .ok (.invokevirtual 187, 3) := by decide +kernel
theorem dX6_damp_41 : decode cX6_damp 41 = .ok (.ireturn, 1) := by decide +kernel
theorem dX6_read_0 : decode cX6_read 0 = .ok (.aload_n 0, 1) := by decide +kernel
theorem dX6_read_1 : decode cX6_read 1 = .ok (.getfield 29, 3) := by decide +kernel
theorem dX6_read_4 : decode cX6_read 4 = .ok (.invokevirtual 145, 3) := by decide +kernel
theorem dX6_read_7 : decode cX6_read 7 = .ok (.ifCond .ne 6, 3) := by decide +kernel
theorem dX6_read_10 : decode cX6_read 10 = .ok (.ldc 148, 2) := by decide +kernel
theorem dX6_read_12 : decode cX6_read 12 = .ok (.ireturn, 1) := by decide +kernel
theorem dX6_read_13 : decode cX6_read 13 = .ok (.iload_n 1, 1) := by decide +kernel
theorem dX6_read_14 : decode cX6_read 14 = .ok (.invokestatic 190, 3) := by decide +kernel
theorem dX6_read_17 : decode cX6_read 17 = .ok (.ifCond .eq 12, 3) := by decide +kernel
theorem dX6_read_20 : decode cX6_read 20 = .ok (.aload_n 0, 1) := by decide +kernel
theorem dX6_read_21 : decode cX6_read 21 = .ok (.iload_n 1, 1) := by decide +kernel
theorem dX6_read_22 : decode cX6_read 22 = .ok (.iload_n 2, 1) := by decide +kernel
theorem dX6_read_23 : decode cX6_read 23 = .ok (.invokevirtual 180, 3) := by decide +kernel
theorem dX6_read_26 : decode cX6_read 26 = .ok (.goto 5, 3) := by decide +kernel
theorem dX6_read_29 : decode cX6_read 29 = .ok (.ldc 52, 2) := by decide +kernel
theorem dX6_read_31 : decode cX6_read 31 = .ok (.ireturn, 1) := by decide +kernel
theorem dX6_behind_0 : decode cX6_behind 0 = .ok (.aload_n 0, 1) := by decide +kernel
theorem dX6_behind_1 : decode cX6_behind 1 = .ok (.getfield 29, 3) := by decide +kernel
theorem dX6_behind_4 : decode cX6_behind 4 = .ok (.invokevirtual 145, 3) := by decide +kernel
theorem dX6_behind_7 : decode cX6_behind 7 = .ok (.ifCond .eq 18, 3) := by decide +kernel
theorem dX6_behind_10 : decode cX6_behind 10 = .ok (.aload_n 0, 1) := by decide +kernel
theorem dX6_behind_11 : decode cX6_behind 11 = .ok (.getfield 29, 3) := by decide +kernel
theorem dX6_behind_14 : decode cX6_behind 14 = .ok (.iconst 0, 1) := by decide +kernel
theorem dX6_behind_15 : decode cX6_behind 15 = .ok (.iload_n 2, 1) := by decide +kernel
theorem dX6_behind_16 : decode cX6_behind 16 = .ok (.invokevirtual 127, 3) := by decide +kernel
theorem dX6_behind_19 : decode cX6_behind 19 = .ok (.ifCond .ne 6, 3) := by decide +kernel
theorem dX6_behind_22 : decode cX6_behind 22 = .ok (.ldc 52, 2) := by decide +kernel
theorem dX6_behind_24 : decode cX6_behind 24 = .ok (.ireturn, 1) := by decide +kernel
theorem dX6_behind_25 : decode cX6_behind 25 = .ok (.aload_n 0, 1) := by decide +kernel
theorem dX6_behind_26 : decode cX6_behind 26 = .ok (.iload_n 1, 1) := by decide +kernel
theorem dX6_behind_27 : decode cX6_behind 27 = .ok (.invokevirtual 48, 3) := by decide +kernel
theorem dX6_behind_30 : decode cX6_behind 30 = .ok (.astore_n 3, 1) := by decide +kernel
theorem dX6_behind_31 : decode cX6_behind 31 = .ok (.aload_n 0, 1) := by decide +kernel
theorem dX6_behind_32 : decode cX6_behind 32 = .ok (.aload_n 3, 1) := by decide +kernel
theorem dX6_behind_33 : decode cX6_behind 33 = .ok (.invokevirtual 193, 3) := by decide +kernel
theorem dX6_behind_36 : decode cX6_behind 36 = .ok (.istore 4, 2) := by decide +kernel
theorem dX6_behind_38 : decode cX6_behind 38 = .ok (.aload_n 3, 1) := by decide +kernel
theorem dX6_behind_39 : decode cX6_behind 39 = .ok (.ifnull 8, 3) := by decide +kernel
theorem dX6_behind_42 : decode cX6_behind 42 = .ok (.iload 4, 2) := by decide +kernel
theorem dX6_behind_44 : decode cX6_behind 44 = .ok (.ifCond .eq 6, 3) := by decide +kernel
theorem dX6_behind_47 : decode cX6_behind 47 = .ok (.iload 4, 2) := by decide +kernel
theorem dX6_behind_49 : decode cX6_behind 49 = .ok (.ireturn, 1) := by decide +kernel
theorem dX6_behind_50 : decode cX6_behind 50 = .ok (.aload_n 0, 1) := by decide +kernel
theorem dX6_behind_51 : decode cX6_behind 51 = .ok (.aload_n 0, 1) := by decide +kernel
theorem dX6_behind_52 : decode cX6_behind 52 = .ok (.getfield 29, 3) := by decide +kernel
theorem dX6_behind_55 : decode cX6_behind 55 = .ok (.iload_n 2, 1) := by decide +kernel
theorem dX6_behind_56 : decode cX6_behind 56 = .ok (.aload_n 3, 1) := by decide +kernel
theorem dX6_behind_57 : decode cX6_behind 57 = .ok (.iload_n 2, 1) := by decide +kernel
theorem dX6_behind_58 : decode cX6_behind 58 = .ok (.invokevirtual 75, 3) := by decide +kernel
theorem dX6_behind_61 : decode cX6_behind 61 = .ok (.invokevirtual 197, 3) := by decide +kernel
theorem dX6_behind_64 : decode cX6_behind 64 = .ok (.invokevirtual 61, 3) := by decide +kernel
theorem dX6_behind_67 : decode cX6_behind 67 = .ok (.ireturn, 1) := by decide +kernel
theorem dX6_ways_0 : decode cX6_ways 0 = .ok (.aload_n 0, 1) := by decide +kernel
theorem dX6_ways_1 : decode cX6_ways 1 = .ok (.iload_n 1, 1) := by decide +kernel
theorem dX6_ways_2 : decode cX6_ways 2 = .ok (.invokevirtual 48, 3) := by decide +kernel
theorem dX6_ways_5 : decode cX6_ways 5 = .ok (.astore_n 2, 1) := by decide +kernel
theorem dX6_ways_6 : decode cX6_ways 6 = .ok (.aload_n 0, 1) := by decide +kernel
theorem dX6_ways_7 : decode cX6_ways 7 = .ok (.aload_n 2, 1) := by decide +kernel
theorem dX6_ways_8 : decode cX6_ways 8 = .ok (.invokevirtual 193, 3) := by decide +kernel
theorem dX6_ways_11 : decode cX6_ways 11 = .ok (.istore_n 3, 1) := by decide +kernel
theorem dX6_ways_12 : decode cX6_ways 12 = .ok (.aload_n 2, 1) := by decide +kernel
theorem dX6_ways_13 : decode cX6_ways 13 = .ok (.ifnull 7, 3) := by decide +kernel
theorem dX6_ways_16 : decode cX6_ways 16 = .ok (.iload_n 3, 1) := by decide +kernel
theorem dX6_ways_17 : decode cX6_ways 17 = .ok (.ifCond .eq 5, 3) := by decide +kernel
theorem dX6_ways_20 : decode cX6_ways 20 = .ok (.iload_n 3, 1) := by decide +kernel
theorem dX6_ways_21 : decode cX6_ways 21 = .ok (.ireturn, 1) := by decide +kernel
theorem dX6_ways_22 : decode cX6_ways 22 = .ok (.iconst 1, 1) := by decide +kernel
theorem dX6_ways_23 : decode cX6_ways 23 = .ok (.istore 4, 2) := by decide +kernel
theorem dX6_ways_25 : decode cX6_ways 25 = .ok (.iconst 0, 1) := by decide +kernel
theorem dX6_ways_26 : decode cX6_ways 26 = .ok (.istore 5, 2) := by decide +kernel
theorem dX6_ways_28 : decode cX6_ways 28 = .ok (.iload 5, 2) := by decide +kernel
theorem dX6_ways_30 : decode cX6_ways 30 = .ok (.aload_n 0, 1) := by decide +kernel
theorem dX6_ways_31 : decode cX6_ways 31 = .ok (.getfield 29, 3) := by decide +kernel
theorem dX6_ways_34 : decode cX6_ways 34 = .ok (.getfield 121, 3) := by decide +kernel
theorem dX6_ways_37 : decode cX6_ways 37 = .ok (.if_icmp .ge 32, 3) := by decide +kernel
theorem dX6_ways_40 : decode cX6_ways 40 = .ok (.iload 4, 2) := by decide +kernel
theorem dX6_ways_42 : decode cX6_ways 42 = .ok (.aload_n 0, 1) := by decide +kernel
theorem dX6_ways_43 : decode cX6_ways 43 = .ok (.getfield 29, 3) := by decide +kernel
theorem dX6_ways_46 : decode cX6_ways 46 = .ok (.iload 5, 2) := by decide +kernel
theorem dX6_ways_48 : decode cX6_ways 48 = .ok (.aload_n 2, 1) := by decide +kernel
theorem dX6_ways_49 : decode cX6_ways 49 = .ok (.iload 5, 2) := by decide +kernel
theorem dX6_ways_51 : decode cX6_ways 51 = .ok (.invokevirtual 75, 3) := by decide +kernel
theorem dX6_ways_54 : decode cX6_ways 54 = .ok (.invokevirtual 197, 3) := by decide +kernel
theorem dX6_ways_57 : decode cX6_ways 57 = .ok (.invokestatic 200, 3) := by decide +kernel
theorem dX6_ways_60 : decode cX6_ways 60 = .ok (.imul, 1) := by decide +kernel
theorem dX6_ways_61 : decode cX6_ways 61 = .ok (.istore 4, 2) := by decide +kernel
theorem dX6_ways_63 : decode cX6_ways 63 = .ok (.iinc 5 1, 3) := by decide +kernel
theorem dX6_ways_66 : decode cX6_ways 66 = .ok (.goto (-38), 3) := by decide +kernel
theorem dX6_ways_69 : decode cX6_ways 69 = .ok (.aload_n 0, 1) := by decide +kernel
theorem dX6_ways_70 : decode cX6_ways 70 = .ok (.iload 4, 2) := by decide +kernel
theorem dX6_ways_72 : decode cX6_ways 72 = .ok (.invokevirtual 61, 3) := by decide +kernel
theorem dX6_ways_75 : decode cX6_ways 75 = .ok (.ireturn, 1) := by decide +kernel
theorem dX6_anew_0 : decode cX6_anew 0 = .ok (.aload_n 0, 1) := by decide +kernel
theorem dX6_anew_1 : decode cX6_anew 1 = .ok (.iload_n 1, 1) := by decide +kernel
theorem dX6_anew_2 : decode cX6_anew 2 = .ok (.invokevirtual 48, 3) := by decide +kernel
theorem dX6_anew_5 : decode cX6_anew 5 = .ok (.astore_n 2, 1) := by decide +kernel
theorem dX6_anew_6 : decode cX6_anew 6 = .ok (.aload_n 0, 1) := by decide +kernel
theorem dX6_anew_7 : decode cX6_anew 7 = .ok (.aload_n 2, 1) := by decide +kernel
theorem dX6_anew_8 : decode cX6_anew 8 = .ok (.invokevirtual 193, 3) := by decide +kernel
theorem dX6_anew_11 : decode cX6_anew 11 = .ok (.istore_n 3, 1) := by decide +kernel
theorem dX6_anew_12 : decode cX6_anew 12 = .ok (.aload_n 2, 1) := by decide +kernel
theorem dX6_anew_13 : decode cX6_anew 13 = .ok (.ifnull 7, 3) := by decide +kernel
theorem dX6_anew_16 : decode cX6_anew 16 = .ok (.iload_n 3, 1) := by decide +kernel
theorem dX6_anew_17 : decode cX6_anew 17 = .ok (.ifCond .eq 5, 3) := by decide +kernel
theorem dX6_anew_20 : decode cX6_anew 20 = .ok (.iload_n 3, 1) := by decide +kernel
theorem dX6_anew_21 : decode cX6_anew 21 = .ok (.ireturn, 1) := by decide +kernel
theorem dX6_anew_22 : decode cX6_anew 22 = .ok (.iconst 0, 1) := by decide +kernel
theorem dX6_anew_23 : decode cX6_anew 23 = .ok (.istore 4, 2) := by decide +kernel
theorem dX6_anew_25 : decode cX6_anew 25 = .ok (.iconst 0, 1) := by decide +kernel
theorem dX6_anew_26 : decode cX6_anew 26 = .ok (.istore 5, 2) := by decide +kernel
theorem dX6_anew_28 : decode cX6_anew 28 = .ok (.iload 5, 2) := by decide +kernel
theorem dX6_anew_30 : decode cX6_anew 30 = .ok (.aload_n 0, 1) := by decide +kernel
theorem dX6_anew_31 : decode cX6_anew 31 = .ok (.getfield 29, 3) := by decide +kernel
theorem dX6_anew_34 : decode cX6_anew 34 = .ok (.getfield 121, 3) := by decide +kernel
theorem dX6_anew_37 : decode cX6_anew 37 = .ok (.if_icmp .ge 47, 3) := by decide +kernel
theorem dX6_anew_40 : decode cX6_anew 40 = .ok (.aload_n 0, 1) := by decide +kernel
theorem dX6_anew_41 : decode cX6_anew 41 = .ok (.getfield 29, 3) := by decide +kernel
theorem dX6_anew_44 : decode cX6_anew 44 = .ok (.iload 5, 2) := by decide +kernel
theorem dX6_anew_46 : decode cX6_anew 46 = .ok (.aload_n 2, 1) := by decide +kernel
theorem dX6_anew_47 : decode cX6_anew 47 = .ok (.iload 5, 2) := by decide +kernel
theorem dX6_anew_49 : decode cX6_anew 49 = .ok (.invokevirtual 75, 3) := by decide +kernel
theorem dX6_anew_52 : decode cX6_anew 52 = .ok (.invokevirtual 205, 3) := by decide +kernel
theorem dX6_anew_55 : decode cX6_anew 55 = .ok (.istore 6, 2) := by decide +kernel
theorem dX6_anew_57 : decode cX6_anew 57 = .ok (.iload 6, 2) := by decide +kernel
theorem dX6_anew_59 : decode cX6_anew 59 = .ok (.ldc 208, 2) := by decide +kernel
theorem dX6_anew_61 : decode cX6_anew 61 = .ok (.if_icmp .ne 10, 3) := by decide +kernel
theorem dX6_anew_64 : decode cX6_anew 64 = .ok (.aload_n 0, 1) := by decide +kernel
theorem dX6_anew_65 : decode cX6_anew 65 = .ok (.ldc 208, 2) := by decide +kernel
theorem dX6_anew_67 : decode cX6_anew 67 = .ok (.invokevirtual 61, 3) := by decide +kernel
theorem dX6_anew_70 : decode cX6_anew 70 = .ok (.ireturn, 1) := by decide +kernel
theorem dX6_anew_71 : decode cX6_anew 71 = .ok (.iload 4, 2) := by decide +kernel
theorem dX6_anew_73 : decode cX6_anew 73 = .ok (.iload 6, 2) := by decide +kernel
theorem dX6_anew_75 : decode cX6_anew 75 = .ok (.iadd, 1) := by decide +kernel
theorem dX6_anew_76 : decode cX6_anew 76 = .ok (.istore 4, 2) := by decide +kernel
theorem dX6_anew_78 : decode cX6_anew 78 = .ok (.iinc 5 1, 3) := by decide +kernel
theorem dX6_anew_81 : decode cX6_anew 81 = .ok (.goto (-53), 3) := by decide +kernel
theorem dX6_anew_84 : decode cX6_anew 84 = .ok (.aload_n 0, 1) := by decide +kernel
theorem dX6_anew_85 : decode cX6_anew 85 = .ok (.iload 4, 2) := by decide +kernel
theorem dX6_anew_87 : decode cX6_anew 87 = .ok (.invokevirtual 61, 3) := by decide +kernel
theorem dX6_anew_90 : decode cX6_anew 90 = .ok (.ireturn, 1) := by decide +kernel
theorem dX6_fits_0 : decode cX6_fits 0 = .ok (.aload_n 0, 1) := by decide +kernel
theorem dX6_fits_1 : decode cX6_fits 1 = .ok (.getfield 29, 3) := by decide +kernel
theorem dX6_fits_4 : decode cX6_fits 4 = .ok (.iconst 0, 1) := by decide +kernel
theorem dX6_fits_5 : decode cX6_fits 5 = .ok (.iload_n 1, 1) := by decide +kernel
theorem dX6_fits_6 : decode cX6_fits 6 = .ok (.invokevirtual 127, 3) := by decide +kernel
theorem dX6_fits_9 : decode cX6_fits 9 = .ok (.ifCond .eq 22, 3) := by decide +kernel
theorem dX6_fits_12 : decode cX6_fits 12 = .ok (.iload_n 2, 1) := by decide +kernel
theorem dX6_fits_13 : decode cX6_fits 13 = .ok (.invokestatic 190, 3) := by decide +kernel
theorem dX6_fits_16 : decode cX6_fits 16 = .ok (.ifCond .eq 15, 3) := by decide +kernel
theorem dX6_fits_19 : decode cX6_fits 19 = .ok (.aload_n 0, 1) := by decide +kernel
theorem dX6_fits_20 : decode cX6_fits 20 = .ok (.getfield 29, 3) := by decide +kernel
theorem dX6_fits_23 : decode cX6_fits 23 = .ok (.iload_n 1, 1) := by decide +kernel
theorem dX6_fits_24 : decode cX6_fits 24 = .ok (.iload_n 2, 1) := by decide +kernel
theorem dX6_fits_25 : decode cX6_fits 25 = .ok (.invokevirtual 209, 3) := by decide +kernel
theorem dX6_fits_28 : decode cX6_fits 28 = .ok (.goto 5, 3) := by decide +kernel
theorem dX6_fits_31 : decode cX6_fits 31 = .ok (.ldc 52, 2) := by decide +kernel
theorem dX6_fits_33 : decode cX6_fits 33 = .ok (.ireturn, 1) := by decide +kernel
theorem dX6_harm_0 : decode cX6_harm 0 = .ok (.aload_n 0, 1) := by decide +kernel
theorem dX6_harm_1 : decode cX6_harm 1 = .ok (.iload_n 1, 1) := by decide +kernel
theorem dX6_harm_2 : decode cX6_harm 2 = .ok (.invokevirtual 48, 3) := by decide +kernel
theorem dX6_harm_5 : decode cX6_harm 5 = .ok (.astore_n 2, 1) := by decide +kernel
theorem dX6_harm_6 : decode cX6_harm 6 = .ok (.aload_n 0, 1) := by decide +kernel
theorem dX6_harm_7 : decode cX6_harm 7 = .ok (.aload_n 2, 1) := by decide +kernel
theorem dX6_harm_8 : decode cX6_harm 8 = .ok (.invokevirtual 193, 3) := by decide +kernel
theorem dX6_harm_11 : decode cX6_harm 11 = .ok (.istore_n 3, 1) := by decide +kernel
theorem dX6_harm_12 : decode cX6_harm 12 = .ok (.aload_n 2, 1) := by decide +kernel
theorem dX6_harm_13 : decode cX6_harm 13 = .ok (.ifnull 7, 3) := by decide +kernel
theorem dX6_harm_16 : decode cX6_harm 16 = .ok (.iload_n 3, 1) := by decide +kernel
theorem dX6_harm_17 : decode cX6_harm 17 = .ok (.ifCond .eq 5, 3) := by decide +kernel
theorem dX6_harm_20 : decode cX6_harm 20 = .ok (.iload_n 3, 1) := by decide +kernel
theorem dX6_harm_21 : decode cX6_harm 21 = .ok (.ireturn, 1) := by decide +kernel
theorem dX6_harm_22 : decode cX6_harm 22 = .ok (.aload_n 0, 1) := by decide +kernel
theorem dX6_harm_23 : decode cX6_harm 23 = .ok (.aload_n 0, 1) := by decide +kernel
theorem dX6_harm_24 : decode cX6_harm 24 = .ok (.getfield 29, 3) := by decide +kernel
theorem dX6_harm_27 : decode cX6_harm 27 = .ok (.aload_n 2, 1) := by decide +kernel
theorem dX6_harm_28 : decode cX6_harm 28 = .ok (.invokevirtual 212, 3) := by decide +kernel
theorem dX6_harm_31 : decode cX6_harm 31 = .ok (.invokevirtual 61, 3) := by decide +kernel
theorem dX6_harm_34 : decode cX6_harm 34 = .ok (.ireturn, 1) := by decide +kernel
theorem dX6_leastHarm_0 : decode cX6_leastHarm 0 = .ok (.aload_n 0, 1) := by decide +kernel
theorem dX6_leastHarm_1 : decode cX6_leastHarm 1 = .ok (.getfield 29, 3) := by decide +kernel
theorem dX6_leastHarm_4 : decode cX6_leastHarm 4 = .ok (.invokevirtual 145, 3) := by decide +kernel
theorem dX6_leastHarm_7 : decode cX6_leastHarm 7 = .ok (.ifCond .ne 6, 3) := by decide +kernel
theorem dX6_leastHarm_10 : decode cX6_leastHarm 10 = .ok (.ldc 148, 2) := by decide +kernel
theorem dX6_leastHarm_12 : decode cX6_leastHarm 12 = .ok (.ireturn, 1) := by decide +kernel
theorem dX6_leastHarm_13 : decode cX6_leastHarm 13 = .ok (.iload_n 1, 1) := by decide +kernel
theorem dX6_leastHarm_14 : decode cX6_leastHarm 14 = .ok (.ifCond .lt 10, 3) := by decide +kernel
theorem dX6_leastHarm_17 : decode cX6_leastHarm 17 = .ok (.iload_n 1, 1) := by decide +kernel
theorem dX6_leastHarm_18 : decode cX6_leastHarm 18 = .ok (.sipush 255, 3) := by decide +kernel
theorem dX6_leastHarm_21 : decode cX6_leastHarm 21 = .ok (.if_icmp .le 6, 3) := by decide +kernel
theorem dX6_leastHarm_24 : decode cX6_leastHarm 24 = .ok (.ldc 52, 2) := by decide +kernel
theorem dX6_leastHarm_26 : decode cX6_leastHarm 26 = .ok (.ireturn, 1) := by decide +kernel
theorem dX6_leastHarm_27 : decode cX6_leastHarm 27 = .ok (.ldc 208, 2) := by decide +kernel
theorem dX6_leastHarm_29 : decode cX6_leastHarm 29 = .ok (.istore_n 2, 1) := by decide +kernel
theorem dX6_leastHarm_30 : decode cX6_leastHarm 30 = .ok (.bipush 10, 2) := by decide +kernel
theorem dX6_leastHarm_32 : decode cX6_leastHarm 32 = .ok (.istore_n 3, 1) := by decide +kernel
theorem dX6_leastHarm_33 : decode cX6_leastHarm 33 = .ok (.iconst 0, 1) := by decide +kernel
theorem dX6_leastHarm_34 : decode cX6_leastHarm 34 = .ok (.istore 4, 2) := by decide +kernel
theorem dX6_leastHarm_36 : decode cX6_leastHarm 36 = .ok (.iload 4, 2) := by decide +kernel
theorem dX6_leastHarm_38 : decode cX6_leastHarm 38 = .ok (.bipush 8, 2) := by decide +kernel
theorem dX6_leastHarm_40 : decode cX6_leastHarm 40 = .ok (.if_icmp .ge 69, 3) := by decide +kernel
theorem dX6_leastHarm_43 : decode cX6_leastHarm 43 = .ok (.aload_n 0, 1) := by decide +kernel
theorem dX6_leastHarm_44 : decode cX6_leastHarm 44 = .ok (.iload 4, 2) := by decide +kernel
theorem dX6_leastHarm_46 : decode cX6_leastHarm 46 = .ok (.invokevirtual 48, 3) := by decide +kernel
theorem dX6_leastHarm_49 : decode cX6_leastHarm 49 = .ok (.astore 5, 2) := by decide +kernel
theorem dX6_leastHarm_51 : decode cX6_leastHarm 51 = .ok (.iload_n 1, 1) := by decide +kernel
theorem dX6_leastHarm_52 : decode cX6_leastHarm 52 = .ok (.iload 4, 2) := by decide +kernel
theorem dX6_leastHarm_54 : decode cX6_leastHarm 54 = .ok (.invokestatic 215, 3) := by decide +kernel
theorem dX6_leastHarm_57 : decode cX6_leastHarm 57 = .ok (.ifCond .eq 46, 3) := by decide +kernel
theorem dX6_leastHarm_60 : decode cX6_leastHarm 60 = .ok (.aload 5, 2) := by decide +kernel
theorem dX6_leastHarm_62 : decode cX6_leastHarm 62 = .ok (.ifnull 41, 3) := by decide +kernel
theorem dX6_leastHarm_65 : decode cX6_leastHarm 65 = .ok (.aload_n 0, 1) := by decide +kernel
theorem dX6_leastHarm_66 : decode cX6_leastHarm 66 = .ok (.getfield 29, 3) := by decide +kernel
theorem dX6_leastHarm_69 : decode cX6_leastHarm 69 = .ok (.aload 5, 2) := by decide +kernel
theorem dX6_leastHarm_71 : decode cX6_leastHarm 71 = .ok (.invokevirtual 218, 3) := by decide +kernel
theorem dX6_leastHarm_74 : decode cX6_leastHarm 74 = .ok (.ifCond .eq 29, 3) := by decide +kernel
theorem dX6_leastHarm_77 : decode cX6_leastHarm 77 = .ok (.aload_n 0, 1) := by decide +kernel
theorem dX6_leastHarm_78 : decode cX6_leastHarm 78 = .ok (.getfield 29, 3) := by decide +kernel
theorem dX6_leastHarm_81 : decode cX6_leastHarm 81 = .ok (.aload 5, 2) := by decide +kernel
theorem dX6_leastHarm_83 : decode cX6_leastHarm 83 = .ok (.invokevirtual 212, 3) := by decide +kernel
theorem dX6_leastHarm_86 : decode cX6_leastHarm 86 = .ok (.iload_n 3, 1) := by decide +kernel
theorem dX6_leastHarm_87 : decode cX6_leastHarm 87 = .ok (.if_icmp .ge 16, 3) := by decide +kernel
theorem dX6_leastHarm_90 : decode cX6_leastHarm 90 = .ok (.iload 4, 2) := by decide +kernel
theorem dX6_leastHarm_92 : decode cX6_leastHarm 92 = .ok (.istore_n 2, 1) := by decide +kernel
theorem dX6_leastHarm_93 : decode cX6_leastHarm 93 = .ok (.aload_n 0, 1) := by decide +kernel
theorem dX6_leastHarm_94 : decode cX6_leastHarm 94 = .ok (.getfield 29, 3) := by decide +kernel
theorem dX6_leastHarm_97 : decode cX6_leastHarm 97 = .ok (.aload 5, 2) := by decide +kernel
theorem dX6_leastHarm_99 : decode cX6_leastHarm 99 = .ok (.invokevirtual 212, 3) := by decide +kernel
theorem dX6_leastHarm_102 : decode cX6_leastHarm 102 = .ok (.istore_n 3, 1) := by decide +kernel
theorem dX6_leastHarm_103 : decode cX6_leastHarm 103 = .ok (.iinc 4 1, 3) := by decide +kernel
theorem dX6_leastHarm_106 : decode cX6_leastHarm 106 = .ok (.goto (-70), 3) := by decide +kernel
theorem dX6_leastHarm_109 : decode cX6_leastHarm 109 = .ok (.iload_n 2, 1) := by decide +kernel
theorem dX6_leastHarm_110 : decode cX6_leastHarm 110 = .ok (.ireturn, 1) := by decide +kernel
theorem dX6_safe_0 : decode cX6_safe 0 = .ok (.aload_n 0, 1) := by decide +kernel
theorem dX6_safe_1 : decode cX6_safe 1 = .ok (.getfield 29, 3) := by decide +kernel
theorem dX6_safe_4 : decode cX6_safe 4 = .ok (.iload_n 1, 1) := by decide +kernel
theorem dX6_safe_5 : decode cX6_safe 5 = .ok (.invokevirtual 130, 3) := by decide +kernel
theorem dX6_safe_8 : decode cX6_safe 8 = .ok (.ifCond .eq 15, 3) := by decide +kernel
theorem dX6_safe_11 : decode cX6_safe 11 = .ok (.aload_n 0, 1) := by decide +kernel
theorem dX6_safe_12 : decode cX6_safe 12 = .ok (.getfield 29, 3) := by decide +kernel
theorem dX6_safe_15 : decode cX6_safe 15 = .ok (.iload_n 1, 1) := by decide +kernel
theorem dX6_safe_16 : decode cX6_safe 16 = .ok (.iload_n 1, 1) := by decide +kernel
theorem dX6_safe_17 : decode cX6_safe 17 = .ok (.invokevirtual 222, 3) := by decide +kernel
theorem dX6_safe_20 : decode cX6_safe 20 = .ok (.goto 5, 3) := by decide +kernel
theorem dX6_safe_23 : decode cX6_safe 23 = .ok (.ldc 52, 2) := by decide +kernel
theorem dX6_safe_25 : decode cX6_safe 25 = .ok (.ireturn, 1) := by decide +kernel
theorem dX6_over_0 : decode cX6_over 0 = .ok (.aload_n 0, 1) := by decide +kernel
theorem dX6_over_1 : decode cX6_over 1 = .ok (.getfield 29, 3) := by decide +kernel
theorem dX6_over_4 : decode cX6_over 4 = .ok (.iload_n 1, 1) := by decide +kernel
theorem dX6_over_5 : decode cX6_over 5 = .ok (.invokevirtual 130, 3) := by decide +kernel
theorem dX6_over_8 : decode cX6_over 8 = .ok (.ifCond .eq 14, 3) := by decide +kernel
theorem dX6_over_11 : decode cX6_over 11 = .ok (.aload_n 0, 1) := by decide +kernel
theorem dX6_over_12 : decode cX6_over 12 = .ok (.getfield 29, 3) := by decide +kernel
theorem dX6_over_15 : decode cX6_over 15 = .ok (.iload_n 2, 1) := by decide +kernel
theorem dX6_over_16 : decode cX6_over 16 = .ok (.invokevirtual 130, 3) := by decide +kernel
theorem dX6_over_19 : decode cX6_over 19 = .ok (.ifCond .ne 6, 3) := by decide +kernel
theorem dX6_over_22 : decode cX6_over 22 = .ok (.ldc 52, 2) := by decide +kernel
theorem dX6_over_24 : decode cX6_over 24 = .ok (.ireturn, 1) := by decide +kernel
theorem dX6_over_25 : decode cX6_over 25 = .ok (.aload_n 0, 1) := by decide +kernel
theorem dX6_over_26 : decode cX6_over 26 = .ok (.aload_n 0, 1) := by decide +kernel
theorem dX6_over_27 : decode cX6_over 27 = .ok (.getfield 29, 3) := by decide +kernel
theorem dX6_over_30 : decode cX6_over 30 = .ok (.iload_n 1, 1) := by decide +kernel
theorem dX6_over_31 : decode cX6_over 31 = .ok (.invokevirtual 168, 3) := by decide +kernel
theorem dX6_over_34 : decode cX6_over 34 = .ok (.aload_n 0, 1) := by decide +kernel
theorem dX6_over_35 : decode cX6_over 35 = .ok (.getfield 29, 3) := by decide +kernel
theorem dX6_over_38 : decode cX6_over 38 = .ok (.iload_n 2, 1) := by decide +kernel
theorem dX6_over_39 : decode cX6_over 39 = .ok (.invokevirtual 168, 3) := by decide +kernel
theorem dX6_over_42 : decode cX6_over 42 = .ok (.ior, 1) := by decide +kernel
theorem dX6_over_43 : decode cX6_over 43 = .ok (.iload_n 3, 1) := by decide +kernel
theorem dX6_over_44 : decode cX6_over 44 = .ok (.invokevirtual 187, 3) := by decide +kernel
theorem dX6_over_47 : decode cX6_over 47 = .ok (.ireturn, 1) := by decide +kernel
theorem dX6_image_0 : decode cX6_image 0 = .ok (.aload_n 0, 1) := by decide +kernel
theorem dX6_image_1 : decode cX6_image 1 = .ok (.iload_n 1, 1) := by decide +kernel
theorem dX6_image_2 : decode cX6_image 2 = .ok (.invokevirtual 225, 3) := by decide +kernel
theorem dX6_image_5 : decode cX6_image 5 = .ok (.astore_n 2, 1) := by decide +kernel
theorem dX6_image_6 : decode cX6_image 6 = .ok (.aload_n 2, 1) := by decide +kernel
theorem dX6_image_7 : decode cX6_image 7 = .ok (.ifnonnull 6, 3) := by decide +kernel
theorem dX6_image_10 : decode cX6_image 10 = .ok (.ldc 52, 2) := by decide +kernel
theorem dX6_image_12 : decode cX6_image 12 = .ok (.ireturn, 1) := by decide +kernel
theorem dX6_image_13 : decode cX6_image 13 = .ok (.aload_n 0, 1) := by decide +kernel
theorem dX6_image_14 : decode cX6_image 14 = .ok (.getfield 29, 3) := by decide +kernel
theorem dX6_image_17 : decode cX6_image 17 = .ok (.invokevirtual 145, 3) := by decide +kernel
theorem dX6_image_20 : decode cX6_image 20 = .ok (.ifCond .ne 6, 3) := by decide +kernel
theorem dX6_image_23 : decode cX6_image 23 = .ok (.ldc 148, 2) := by decide +kernel
theorem dX6_image_25 : decode cX6_image 25 = .ok (.ireturn, 1) := by decide +kernel
theorem dX6_image_26 : decode cX6_image 26 = .ok (.aload_n 2, 1) := by decide +kernel
theorem dX6_image_27 : decode cX6_image 27 = .ok (.aload_n 0, 1) := by decide +kernel
theorem dX6_image_28 : decode cX6_image 28 = .ok (.getfield 29, 3) := by decide +kernel
theorem dX6_image_31 : decode cX6_image 31 = .ok (.invokevirtual 114, 3) := by decide +kernel
theorem dX6_image_34 : decode cX6_image 34 = .ok (.iconst 1, 1) := by decide +kernel
theorem dX6_image_35 : decode cX6_image 35 = .ok (.ireturn, 1) := by decide +kernel
theorem dX6_restore_0 : decode cX6_restore 0 = .ok (.aload_n 0, 1) := by decide +kernel
theorem dX6_restore_1 : decode cX6_restore 1 = .ok (.iload_n 1, 1) := by decide +kernel
theorem dX6_restore_2 : decode cX6_restore 2 = .ok (.invokevirtual 225, 3) := by decide +kernel
theorem dX6_restore_5 : decode cX6_restore 5 = .ok (.astore_n 2, 1) := by decide +kernel
theorem dX6_restore_6 : decode cX6_restore 6 = .ok (.aload_n 2, 1) := by decide +kernel
theorem dX6_restore_7 : decode cX6_restore 7 = .ok (.ifnonnull 6, 3) := by decide +kernel
theorem dX6_restore_10 : decode cX6_restore 10 = .ok (.ldc 52, 2) := by decide +kernel
theorem dX6_restore_12 : decode cX6_restore 12 = .ok (.ireturn, 1) := by decide +kernel
theorem dX6_restore_13 : decode cX6_restore 13 = .ok (.aload_n 2, 1) := by decide +kernel
theorem dX6_restore_14 : decode cX6_restore 14 = .ok (.invokevirtual 145, 3) := by decide +kernel
theorem dX6_restore_17 : decode cX6_restore 17 = .ok (.ifCond .ne 6, 3) := by decide +kernel
theorem dX6_restore_20 : decode cX6_restore 20 = .ok (.ldc 148, 2) := by decide +kernel
theorem dX6_restore_22 : decode cX6_restore 22 = .ok (.ireturn, 1) := by decide +kernel
theorem dX6_restore_23 : decode cX6_restore 23 = .ok (.aload_n 0, 1) := by decide +kernel
theorem dX6_restore_24 : decode cX6_restore 24 = .ok (.getfield 29, 3) := by decide +kernel
theorem dX6_restore_27 : decode cX6_restore 27 = .ok (.aload_n 2, 1) := by decide +kernel
theorem dX6_restore_28 : decode cX6_restore 28 = .ok (.invokevirtual 114, 3) := by decide +kernel
theorem dX6_restore_31 : decode cX6_restore 31 = .ok (.aload_n 0, 1) := by decide +kernel
theorem dX6_restore_32 : decode cX6_restore 32 = .ok (.getfield 36, 3) := by decide +kernel
theorem dX6_restore_35 : decode cX6_restore 35 = .ok (.invokevirtual 118, 3) := by decide +kernel
theorem dX6_restore_38 : decode cX6_restore 38 = .ok (.iconst 1, 1) := by decide +kernel
theorem dX6_restore_39 : decode cX6_restore 39 = .ok (.ireturn, 1) := by decide +kernel
theorem dX6_kind_0 : decode cX6_kind 0 = .ok (.aload_n 0, 1) := by decide +kernel
theorem dX6_kind_1 : decode cX6_kind 1 = .ok (.getfield 29, 3) := by decide +kernel
theorem dX6_kind_4 : decode cX6_kind 4 = .ok (.iload_n 1, 1) := by decide +kernel
theorem dX6_kind_5 : decode cX6_kind 5 = .ok (.invokevirtual 130, 3) := by decide +kernel
theorem dX6_kind_8 : decode cX6_kind 8 = .ok (.ifCond .eq 14, 3) := by decide +kernel
theorem dX6_kind_11 : decode cX6_kind 11 = .ok (.aload_n 0, 1) := by decide +kernel
theorem dX6_kind_12 : decode cX6_kind 12 = .ok (.getfield 29, 3) := by decide +kernel
theorem dX6_kind_15 : decode cX6_kind 15 = .ok (.iload_n 1, 1) := by decide +kernel
theorem dX6_kind_16 : decode cX6_kind 16 = .ok (.invokevirtual 229, 3) := by decide +kernel
theorem dX6_kind_19 : decode cX6_kind 19 = .ok (.goto 5, 3) := by decide +kernel
theorem dX6_kind_22 : decode cX6_kind 22 = .ok (.ldc 52, 2) := by decide +kernel
theorem dX6_kind_24 : decode cX6_kind 24 = .ok (.ireturn, 1) := by decide +kernel
theorem dX6_as_0 : decode cX6_as 0 = .ok (.aload_n 0, 1) := by decide +kernel
theorem dX6_as_1 : decode cX6_as 1 = .ok (.getfield 29, 3) := by decide +kernel
theorem dX6_as_4 : decode cX6_as 4 = .ok (.iload_n 1, 1) := by decide +kernel
theorem dX6_as_5 : decode cX6_as 5 = .ok (.invokevirtual 130, 3) := by decide +kernel
theorem dX6_as_8 : decode cX6_as 8 = .ok (.ifCond .eq 12, 3) := by decide +kernel
theorem dX6_as_11 : decode cX6_as 11 = .ok (.iload_n 2, 1) := by decide +kernel
theorem dX6_as_12 : decode cX6_as 12 = .ok (.ifCond .lt 8, 3) := by decide +kernel
theorem dX6_as_15 : decode cX6_as 15 = .ok (.iload_n 2, 1) := by decide +kernel
theorem dX6_as_16 : decode cX6_as 16 = .ok (.iconst 5, 1) := by decide +kernel
theorem dX6_as_17 : decode cX6_as 17 = .ok (.if_icmp .le 6, 3) := by decide +kernel
theorem dX6_as_20 : decode cX6_as 20 = .ok (.ldc 52, 2) := by decide +kernel
theorem dX6_as_22 : decode cX6_as 22 = .ok (.ireturn, 1) := by decide +kernel
theorem dX6_as_23 : decode cX6_as 23 = .ok (.aload_n 0, 1) := by decide +kernel
theorem dX6_as_24 : decode cX6_as 24 = .ok (.getfield 29, 3) := by decide +kernel
theorem dX6_as_27 : decode cX6_as 27 = .ok (.iload_n 1, 1) := by decide +kernel
theorem dX6_as_28 : decode cX6_as 28 = .ok (.invokevirtual 229, 3) := by decide +kernel
theorem dX6_as_31 : decode cX6_as 31 = .ok (.iload_n 2, 1) := by decide +kernel
theorem dX6_as_32 : decode cX6_as 32 = .ok (.invokestatic 232, 3) := by decide +kernel
theorem dX6_as_35 : decode cX6_as 35 = .ok (.ifCond .eq 11, 3) := by decide +kernel
theorem dX6_as_38 : decode cX6_as 38 = .ok (.aload_n 0, 1) := by decide +kernel
theorem dX6_as_39 : decode cX6_as 39 = .ok (.iload_n 1, 1) := by decide +kernel
theorem dX6_as_40 : decode cX6_as 40 = .ok (.invokevirtual 61, 3) := by decide +kernel
theorem dX6_as_43 : decode cX6_as 43 = .ok (.goto 8, 3) := by decide +kernel
theorem dX6_as_46 : decode cX6_as 46 = .ok (.aload_n 0, 1) := by decide +kernel
theorem dX6_as_47 : decode cX6_as 47 = .ok (.iconst 3, 1) := by decide +kernel
theorem dX6_as_48 : decode cX6_as 48 = .ok (.invokevirtual 53, 3) := by decide +kernel
theorem dX6_as_51 : decode cX6_as 51 = .ok (.ireturn, 1) := by decide +kernel
theorem dX6_ask_0 : decode cX6_ask 0 = .ok (.aload_n 0, 1) := by decide +kernel
theorem dX6_ask_1 : decode cX6_ask 1 = .ok (.getfield 29, 3) := by decide +kernel
theorem dX6_ask_4 : decode cX6_ask 4 = .ok (.iload_n 1, 1) := by decide +kernel
theorem dX6_ask_5 : decode cX6_ask 5 = .ok (.invokevirtual 130, 3) := by decide +kernel
theorem dX6_ask_8 : decode cX6_ask 8 = .ok (.ifCond .eq 12, 3) := by decide +kernel
theorem dX6_ask_11 : decode cX6_ask 11 = .ok (.iload_n 2, 1) := by decide +kernel
theorem dX6_ask_12 : decode cX6_ask 12 = .ok (.ifCond .lt 8, 3) := by decide +kernel
theorem dX6_ask_15 : decode cX6_ask 15 = .ok (.iload_n 2, 1) := by decide +kernel
theorem dX6_ask_16 : decode cX6_ask 16 = .ok (.iconst 1, 1) := by decide +kernel
theorem dX6_ask_17 : decode cX6_ask 17 = .ok (.if_icmp .le 6, 3) := by decide +kernel
theorem dX6_ask_20 : decode cX6_ask 20 = .ok (.ldc 52, 2) := by decide +kernel
theorem dX6_ask_22 : decode cX6_ask 22 = .ok (.ireturn, 1) := by decide +kernel
theorem dX6_ask_23 : decode cX6_ask 23 = .ok (.aload_n 0, 1) := by decide +kernel
theorem dX6_ask_24 : decode cX6_ask 24 = .ok (.getfield 43, 3) := by decide +kernel
theorem dX6_ask_27 : decode cX6_ask 27 = .ok (.aload_n 0, 1) := by decide +kernel
theorem dX6_ask_28 : decode cX6_ask 28 = .ok (.getfield 29, 3) := by decide +kernel
theorem dX6_ask_31 : decode cX6_ask 31 = .ok (.iload_n 1, 1) := by decide +kernel
theorem dX6_ask_32 : decode cX6_ask 32 = .ok (.iload_n 2, 1) := by decide +kernel
theorem dX6_ask_33 : decode cX6_ask 33 = .ok (.invokevirtual 235, 3) := by decide +kernel
theorem dX6_ask_36 : decode cX6_ask 36 = .ok (.ireturn, 1) := by decide +kernel
theorem dX6_trace_0 : decode cX6_trace 0 = .ok (.aload_n 0, 1) := by decide +kernel
theorem dX6_trace_1 : decode cX6_trace 1 = .ok (.getfield 43, 3) := by decide +kernel
theorem dX6_trace_4 : decode cX6_trace 4 = .ok (.iload_n 1, 1) := by decide +kernel
theorem dX6_trace_5 : decode cX6_trace 5 = .ok (.invokevirtual 239, 3) := by decide +kernel
theorem dX6_trace_8 : decode cX6_trace 8 = .ok (.ireturn, 1) := by decide +kernel
theorem dX6_count_0 : decode cX6_count 0 = .ok (.iload_n 1, 1) := by decide +kernel
theorem dX6_count_1 : decode cX6_count 1 = .ok (.tableswitch 87 0 5 #[39, 44, 52, 60, 68, 76], 39) := by decide +kernel
theorem dX6_count_40 : decode cX6_count 40 = .ok (.aload_n 0, 1) := by decide +kernel
theorem dX6_count_41 : decode cX6_count 41 = .ok (.invokevirtual 242, 3) := by decide +kernel
theorem dX6_count_44 : decode cX6_count 44 = .ok (.ireturn, 1) := by decide +kernel
theorem dX6_count_45 : decode cX6_count 45 = .ok (.aload_n 0, 1) := by decide +kernel
theorem dX6_count_46 : decode cX6_count 46 = .ok (.getfield 29, 3) := by decide +kernel
theorem dX6_count_49 : decode cX6_count 49 = .ok (.getfield 245, 3) := by decide +kernel
theorem dX6_count_52 : decode cX6_count 52 = .ok (.ireturn, 1) := by decide +kernel
theorem dX6_count_53 : decode cX6_count 53 = .ok (.aload_n 0, 1) := by decide +kernel
theorem dX6_count_54 : decode cX6_count 54 = .ok (.getfield 29, 3) := by decide +kernel
theorem dX6_count_57 : decode cX6_count 57 = .ok (.getfield 121, 3) := by decide +kernel
theorem dX6_count_60 : decode cX6_count 60 = .ok (.ireturn, 1) := by decide +kernel
theorem dX6_count_61 : decode cX6_count 61 = .ok (.aload_n 0, 1) := by decide +kernel
theorem dX6_count_62 : decode cX6_count 62 = .ok (.getfield 29, 3) := by decide +kernel
theorem dX6_count_65 : decode cX6_count 65 = .ok (.invokevirtual 248, 3) := by decide +kernel
theorem dX6_count_68 : decode cX6_count 68 = .ok (.ireturn, 1) := by decide +kernel
theorem dX6_count_69 : decode cX6_count 69 = .ok (.aload_n 0, 1) := by decide +kernel
theorem dX6_count_70 : decode cX6_count 70 = .ok (.getfield 36, 3) := by decide +kernel
theorem dX6_count_73 : decode cX6_count 73 = .ok (.getfield 152, 3) := by decide +kernel
theorem dX6_count_76 : decode cX6_count 76 = .ok (.ireturn, 1) := by decide +kernel
theorem dX6_count_77 : decode cX6_count 77 = .ok (.aload_n 0, 1) := by decide +kernel
theorem dX6_count_78 : decode cX6_count 78 = .ok (.getfield 24, 3) := by decide +kernel
theorem dX6_count_81 : decode cX6_count 81 = .ok (.getfield 92, 3) := by decide +kernel
theorem dX6_count_84 : decode cX6_count 84 = .ok (.getfield 102, 3) := by decide +kernel
theorem dX6_count_87 : decode cX6_count 87 = .ok (.ireturn, 1) := by decide +kernel
theorem dX6_count_88 : decode cX6_count 88 = .ok (.ldc 52, 2) := by decide +kernel
theorem dX6_count_90 : decode cX6_count 90 = .ok (.ireturn, 1) := by decide +kernel
theorem dX6_status_0 : decode cX6_status 0 = .ok (.aload_n 0, 1) := by decide +kernel
theorem dX6_status_1 : decode cX6_status 1 = .ok (.getfield 251, 3) := by decide +kernel
theorem dX6_status_4 : decode cX6_status 4 = .ok (.ireturn, 1) := by decide +kernel
theorem dX6_rowOf_0 : decode cX6_rowOf 0 = .ok (.iload_n 1, 1) := by decide +kernel
theorem dX6_rowOf_1 : decode cX6_rowOf 1 = .ok (.ifCond .lt 21, 3) := by decide +kernel
theorem dX6_rowOf_4 : decode cX6_rowOf 4 = .ok (.iload_n 1, 1) := by decide +kernel
theorem dX6_rowOf_5 : decode cX6_rowOf 5 = .ok (.aload_n 0, 1) := by decide +kernel
theorem dX6_rowOf_6 : decode cX6_rowOf 6 = .ok (.getfield 11, 3) := by decide +kernel
theorem dX6_rowOf_9 : decode cX6_rowOf 9 = .ok (.arraylength, 1) := by decide +kernel
theorem dX6_rowOf_10 : decode cX6_rowOf 10 = .ok (.if_icmp .ge 12, 3) := by decide +kernel
theorem dX6_rowOf_13 : decode cX6_rowOf 13 = .ok (.aload_n 0, 1) := by decide +kernel
theorem dX6_rowOf_14 : decode cX6_rowOf 14 = .ok (.getfield 11, 3) := by decide +kernel
theorem dX6_rowOf_17 : decode cX6_rowOf 17 = .ok (.iload_n 1, 1) := by decide +kernel
theorem dX6_rowOf_18 : decode cX6_rowOf 18 = .ok (.aaload, 1) := by decide +kernel
theorem dX6_rowOf_19 : decode cX6_rowOf 19 = .ok (.goto 4, 3) := by decide +kernel
theorem dX6_rowOf_22 : decode cX6_rowOf 22 = .ok (.aconst_null, 1) := by decide +kernel
theorem dX6_rowOf_23 : decode cX6_rowOf 23 = .ok (.areturn, 1) := by decide +kernel
theorem dX6_imageOf_0 : decode cX6_imageOf 0 = .ok (.iload_n 1, 1) := by decide +kernel
theorem dX6_imageOf_1 : decode cX6_imageOf 1 = .ok (.ifCond .lt 21, 3) := by decide +kernel
theorem dX6_imageOf_4 : decode cX6_imageOf 4 = .ok (.iload_n 1, 1) := by decide +kernel
theorem dX6_imageOf_5 : decode cX6_imageOf 5 = .ok (.aload_n 0, 1) := by decide +kernel
theorem dX6_imageOf_6 : decode cX6_imageOf 6 = .ok (.getfield 17, 3) := by decide +kernel
theorem dX6_imageOf_9 : decode cX6_imageOf 9 = .ok (.arraylength, 1) := by decide +kernel
theorem dX6_imageOf_10 : decode cX6_imageOf 10 = .ok (.if_icmp .ge 12, 3) := by decide +kernel
theorem dX6_imageOf_13 : decode cX6_imageOf 13 = .ok (.aload_n 0, 1) := by decide +kernel
theorem dX6_imageOf_14 : decode cX6_imageOf 14 = .ok (.getfield 17, 3) := by decide +kernel
theorem dX6_imageOf_17 : decode cX6_imageOf 17 = .ok (.iload_n 1, 1) := by decide +kernel
theorem dX6_imageOf_18 : decode cX6_imageOf 18 = .ok (.aaload, 1) := by decide +kernel
theorem dX6_imageOf_19 : decode cX6_imageOf 19 = .ok (.goto 4, 3) := by decide +kernel
theorem dX6_imageOf_22 : decode cX6_imageOf 22 = .ok (.aconst_null, 1) := by decide +kernel
theorem dX6_imageOf_23 : decode cX6_imageOf 23 = .ok (.areturn, 1) := by decide +kernel
theorem dX6_rowsThere_0 : decode cX6_rowsThere 0 = .ok (.iconst 0, 1) := by decide +kernel
theorem dX6_rowsThere_1 : decode cX6_rowsThere 1 = .ok (.istore_n 1, 1) := by decide +kernel
theorem dX6_rowsThere_2 : decode cX6_rowsThere 2 = .ok (.iconst 0, 1) := by decide +kernel
theorem dX6_rowsThere_3 : decode cX6_rowsThere 3 = .ok (.istore_n 2, 1) := by decide +kernel
theorem dX6_rowsThere_4 : decode cX6_rowsThere 4 = .ok (.iload_n 2, 1) := by decide +kernel
theorem dX6_rowsThere_5 : decode cX6_rowsThere 5 = .ok (.bipush 8, 2) := by decide +kernel
theorem dX6_rowsThere_7 : decode cX6_rowsThere 7 = .ok (.if_icmp .ge 29, 3) := by decide +kernel
theorem dX6_rowsThere_10 : decode cX6_rowsThere 10 = .ok (.aload_n 0, 1) := by decide +kernel
theorem dX6_rowsThere_11 : decode cX6_rowsThere 11 = .ok (.iload_n 2, 1) := by decide +kernel
theorem dX6_rowsThere_12 : decode cX6_rowsThere 12 = .ok (.invokevirtual 48, 3) := by decide +kernel
theorem dX6_rowsThere_15 : decode cX6_rowsThere 15 = .ok (.astore_n 3, 1) := by decide +kernel
theorem dX6_rowsThere_16 : decode cX6_rowsThere 16 = .ok (.aload_n 3, 1) := by decide +kernel
theorem dX6_rowsThere_17 : decode cX6_rowsThere 17 = .ok (.ifnull 13, 3) := by decide +kernel
theorem dX6_rowsThere_20 : decode cX6_rowsThere 20 = .ok (.aload_n 3, 1) := by decide +kernel
theorem dX6_rowsThere_21 : decode cX6_rowsThere 21 = .ok (.invokevirtual 64, 3) := by decide +kernel
theorem dX6_rowsThere_24 : decode cX6_rowsThere 24 = .ok (.ifCond .ne 6, 3) := by decide +kernel
theorem dX6_rowsThere_27 : decode cX6_rowsThere 27 = .ok (.iinc 1 1, 3) := by decide +kernel
theorem dX6_rowsThere_30 : decode cX6_rowsThere 30 = .ok (.iinc 2 1, 3) := by decide +kernel
theorem dX6_rowsThere_33 : decode cX6_rowsThere 33 = .ok (.goto (-29), 3) := by decide +kernel
theorem dX6_rowsThere_36 : decode cX6_rowsThere 36 = .ok (.iload_n 1, 1) := by decide +kernel
theorem dX6_rowsThere_37 : decode cX6_rowsThere 37 = .ok (.ireturn, 1) := by decide +kernel
theorem dX6_found_0 : decode cX6_found 0 = .ok (.aload_n 0, 1) := by decide +kernel
theorem dX6_found_1 : decode cX6_found 1 = .ok (.iload_n 1, 1) := by decide +kernel
theorem dX6_found_2 : decode cX6_found 2 = .ok (.putfield 251, 3) := by decide +kernel
theorem dX6_found_5 : decode cX6_found 5 = .ok (.ldc 254, 2) := by decide +kernel
theorem dX6_found_7 : decode cX6_found 7 = .ok (.iload_n 1, 1) := by decide +kernel
theorem dX6_found_8 : decode cX6_found 8 = .ok (.isub, 1) := by decide +kernel
theorem dX6_found_9 : decode cX6_found 9 = .ok (.ireturn, 1) := by decide +kernel
theorem dX6_unfound_0 : decode cX6_unfound 0 = .ok (.aload_n 0, 1) := by decide +kernel
theorem dX6_unfound_1 : decode cX6_unfound 1 = .ok (.iconst 0, 1) := by decide +kernel
theorem dX6_unfound_2 : decode cX6_unfound 2 = .ok (.putfield 251, 3) := by decide +kernel
theorem dX6_unfound_5 : decode cX6_unfound 5 = .ok (.iload_n 1, 1) := by decide +kernel
theorem dX6_unfound_6 : decode cX6_unfound 6 = .ok (.ireturn, 1) := by decide +kernel
theorem dX6_refusalOfLetters_0 : decode cX6_refusalOfLetters 0 = .ok (.aload_n 0, 1) := by decide +kernel
theorem dX6_refusalOfLetters_1 : decode cX6_refusalOfLetters 1 = .ok (.getfield 29, 3) := by decide +kernel
theorem dX6_refusalOfLetters_4 : decode cX6_refusalOfLetters 4 = .ok (.invokevirtual 145, 3) := by decide +kernel
theorem dX6_refusalOfLetters_7 : decode cX6_refusalOfLetters 7 = .ok (.ifCond .ne 6, 3) := by decide +kernel
theorem dX6_refusalOfLetters_10 : decode cX6_refusalOfLetters 10 = .ok (.ldc 148, 2) := by decide +kernel
theorem dX6_refusalOfLetters_12 : decode cX6_refusalOfLetters 12 = .ok (.ireturn, 1) := by decide +kernel
theorem dX6_refusalOfLetters_13 : decode cX6_refusalOfLetters 13 = .ok (.aload_n 1, 1) := by decide +kernel
theorem dX6_refusalOfLetters_14 : decode cX6_refusalOfLetters 14 = .ok (.ifnonnull 6, 3) := by decide +kernel
theorem dX6_refusalOfLetters_17 : decode cX6_refusalOfLetters 17 = .ok (.ldc 52, 2) := by decide +kernel
theorem dX6_refusalOfLetters_19 : decode cX6_refusalOfLetters 19 = .ok (.ireturn, 1) := by decide +kernel
theorem dX6_refusalOfLetters_20 : decode cX6_refusalOfLetters 20 = .ok (.aload_n 1, 1) := by decide +kernel
theorem dX6_refusalOfLetters_21 : decode cX6_refusalOfLetters 21 = .ok (.invokevirtual 64, 3) := by decide +kernel
theorem dX6_refusalOfLetters_24 : decode cX6_refusalOfLetters 24 = .ok (.ifCond .eq 9, 3) := by decide +kernel
theorem dX6_refusalOfLetters_27 : decode cX6_refusalOfLetters 27 = .ok (.aload_n 0, 1) := by decide +kernel
theorem dX6_refusalOfLetters_28 : decode cX6_refusalOfLetters 28 = .ok (.iconst 1, 1) := by decide +kernel
theorem dX6_refusalOfLetters_29 : decode cX6_refusalOfLetters 29 = .ok (.invokevirtual 53, 3) := by decide +kernel
theorem dX6_refusalOfLetters_32 : decode cX6_refusalOfLetters 32 = .ok (.ireturn, 1) := by decide +kernel
theorem dX6_refusalOfLetters_33 : decode cX6_refusalOfLetters 33 = .ok (.aload_n 1, 1) := by decide +kernel
theorem dX6_refusalOfLetters_34 : decode cX6_refusalOfLetters 34 = .ok (.getfield 86, 3) := by decide +kernel
theorem dX6_refusalOfLetters_37 : decode cX6_refusalOfLetters 37 = .ok (.aload_n 0, 1) := by decide +kernel
theorem dX6_refusalOfLetters_38 : decode cX6_refusalOfLetters 38 = .ok (.getfield 29, 3) := by decide +kernel
theorem dX6_refusalOfLetters_41 : decode cX6_refusalOfLetters 41 = .ok (.getfield 121, 3) := by decide +kernel
theorem dX6_refusalOfLetters_44 : decode cX6_refusalOfLetters 44 = .ok (.if_icmp .ge 9, 3) := by decide +kernel
theorem dX6_refusalOfLetters_47 : decode cX6_refusalOfLetters 47 = .ok (.aload_n 0, 1) := by decide +kernel
theorem dX6_refusalOfLetters_48 : decode cX6_refusalOfLetters 48 = .ok (.iconst 2, 1) := by decide +kernel
theorem dX6_refusalOfLetters_49 : decode cX6_refusalOfLetters 49 = .ok (.invokevirtual 53, 3) := by decide +kernel
theorem dX6_refusalOfLetters_52 : decode cX6_refusalOfLetters 52 = .ok (.ireturn, 1) := by decide +kernel
theorem dX6_refusalOfLetters_53 : decode cX6_refusalOfLetters 53 = .ok (.aload_n 0, 1) := by decide +kernel
theorem dX6_refusalOfLetters_54 : decode cX6_refusalOfLetters 54 = .ok (.getfield 29, 3) := by decide +kernel
theorem dX6_refusalOfLetters_57 : decode cX6_refusalOfLetters 57 = .ok (.aload_n 1, 1) := by decide +kernel
theorem dX6_refusalOfLetters_58 : decode cX6_refusalOfLetters 58 = .ok (.invokevirtual 218, 3) := by decide +kernel
theorem dX6_refusalOfLetters_61 : decode cX6_refusalOfLetters 61 = .ok (.ifCond .eq 7, 3) := by decide +kernel
theorem dX6_refusalOfLetters_64 : decode cX6_refusalOfLetters 64 = .ok (.iconst 0, 1) := by decide +kernel
theorem dX6_refusalOfLetters_65 : decode cX6_refusalOfLetters 65 = .ok (.goto 5, 3) := by decide +kernel
theorem dX6_refusalOfLetters_68 : decode cX6_refusalOfLetters 68 = .ok (.ldc 52, 2) := by decide +kernel
theorem dX6_refusalOfLetters_70 : decode cX6_refusalOfLetters 70 = .ok (.ireturn, 1) := by decide +kernel
theorem dX6_cellsOrReading_0 : decode cX6_cellsOrReading 0 = .ok (.iload_n 2, 1) := by decide +kernel
theorem dX6_cellsOrReading_1 : decode cX6_cellsOrReading 1 = .ok (.lookupswitch 38 #[(0, 27), (1, 29)], 27) := by decide +kernel
theorem dX6_cellsOrReading_28 : decode cX6_cellsOrReading 28 = .ok (.iload_n 1, 1) := by decide +kernel
theorem dX6_cellsOrReading_29 : decode cX6_cellsOrReading 29 = .ok (.ireturn, 1) := by decide +kernel
theorem dX6_cellsOrReading_30 : decode cX6_cellsOrReading 30 = .ok (.aload_n 0, 1) := by decide +kernel
theorem dX6_cellsOrReading_31 : decode cX6_cellsOrReading 31 = .ok (.getfield 29, 3) := by decide +kernel
theorem dX6_cellsOrReading_34 : decode cX6_cellsOrReading 34 = .ok (.iload_n 1, 1) := by decide +kernel
theorem dX6_cellsOrReading_35 : decode cX6_cellsOrReading 35 = .ok (.invokevirtual 255, 3) := by decide +kernel
theorem dX6_cellsOrReading_38 : decode cX6_cellsOrReading 38 = .ok (.ireturn, 1) := by decide +kernel
theorem dX6_cellsOrReading_39 : decode cX6_cellsOrReading 39 = .ok (.ldc 52, 2) := by decide +kernel
theorem dX6_cellsOrReading_41 : decode cX6_cellsOrReading 41 = .ok (.ireturn, 1) := by decide +kernel
theorem dX6_answerOfReading_0 : decode cX6_answerOfReading 0 = .ok (.iload_n 2, 1) := by decide +kernel
theorem dX6_answerOfReading_1 : decode cX6_answerOfReading 1 = .ok (.tableswitch 62 0 2 #[27, 36, 45], 27) := by decide +kernel
theorem dX6_answerOfReading_28 : decode cX6_answerOfReading 28 = .ok (.aload_n 0, 1) := by decide +kernel
theorem dX6_answerOfReading_29 : decode cX6_answerOfReading 29 = .ok (.getfield 29, 3) := by decide +kernel
theorem dX6_answerOfReading_32 : decode cX6_answerOfReading 32 = .ok (.iload_n 1, 1) := by decide +kernel
theorem dX6_answerOfReading_33 : decode cX6_answerOfReading 33 = .ok (.invokevirtual 255, 3) := by decide +kernel
theorem dX6_answerOfReading_36 : decode cX6_answerOfReading 36 = .ok (.ireturn, 1) := by decide +kernel
theorem dX6_answerOfReading_37 : decode cX6_answerOfReading 37 = .ok (.aload_n 0, 1) := by decide +kernel
theorem dX6_answerOfReading_38 : decode cX6_answerOfReading 38 = .ok (.getfield 29, 3) := by decide +kernel
theorem dX6_answerOfReading_41 : decode cX6_answerOfReading 41 = .ok (.iload_n 1, 1) := by decide +kernel
theorem dX6_answerOfReading_42 : decode cX6_answerOfReading 42 = .ok (.invokevirtual 258, 3) := by decide +kernel
theorem dX6_answerOfReading_45 : decode cX6_answerOfReading 45 = .ok (.ireturn, 1) := by decide +kernel
theorem dX6_answerOfReading_46 : decode cX6_answerOfReading 46 = .ok (.aload_n 0, 1) := by decide +kernel
theorem dX6_answerOfReading_47 : decode cX6_answerOfReading 47 = .ok (.getfield 29, 3) := by decide +kernel
theorem dX6_answerOfReading_50 : decode cX6_answerOfReading 50 = .ok (.iload_n 1, 1) := by decide +kernel
theorem dX6_answerOfReading_51 : decode cX6_answerOfReading 51 = .ok (.invokevirtual 261, 3) := by decide +kernel
theorem dX6_answerOfReading_54 : decode cX6_answerOfReading 54 = .ok (.ifCond .eq 7, 3) := by decide +kernel
theorem dX6_answerOfReading_57 : decode cX6_answerOfReading 57 = .ok (.iconst 1, 1) := by decide +kernel
theorem dX6_answerOfReading_58 : decode cX6_answerOfReading 58 = .ok (.goto 4, 3) := by decide +kernel
theorem dX6_answerOfReading_61 : decode cX6_answerOfReading 61 = .ok (.iconst 0, 1) := by decide +kernel
theorem dX6_answerOfReading_62 : decode cX6_answerOfReading 62 = .ok (.ireturn, 1) := by decide +kernel
theorem dX6_answerOfReading_63 : decode cX6_answerOfReading 63 = .ok (.ldc 52, 2) := by decide +kernel
theorem dX6_answerOfReading_65 : decode cX6_answerOfReading 65 = .ok (.ireturn, 1) := by decide +kernel
theorem dX6_areCells_0 : decode cX6_areCells 0 = .ok (.iload_n 0, 1) := by decide +kernel
theorem dX6_areCells_1 : decode cX6_areCells 1 = .ok (.ifCond .lt 14, 3) := by decide +kernel
theorem dX6_areCells_4 : decode cX6_areCells 4 = .ok (.iload_n 0, 1) := by decide +kernel
theorem dX6_areCells_5 : decode cX6_areCells 5 = .ok (.sipush 511, 3) := by decide +kernel
theorem dX6_areCells_8 : decode cX6_areCells 8 = .ok (.if_icmp .gt 7, 3) := by decide +kernel
theorem dX6_areCells_11 : decode cX6_areCells 11 = .ok (.iconst 1, 1) := by decide +kernel
theorem dX6_areCells_12 : decode cX6_areCells 12 = .ok (.goto 4, 3) := by decide +kernel
theorem dX6_areCells_15 : decode cX6_areCells 15 = .ok (.iconst 0, 1) := by decide +kernel
theorem dX6_areCells_16 : decode cX6_areCells 16 = .ok (.ireturn, 1) := by decide +kernel
theorem dX6_hasBit_0 : decode cX6_hasBit 0 = .ok (.iload_n 0, 1) := by decide +kernel
theorem dX6_hasBit_1 : decode cX6_hasBit 1 = .ok (.iload_n 1, 1) := by decide +kernel
theorem dX6_hasBit_2 : decode cX6_hasBit 2 = .ok (.ishr, 1) := by decide +kernel
theorem dX6_hasBit_3 : decode cX6_hasBit 3 = .ok (.iconst 1, 1) := by decide +kernel
theorem dX6_hasBit_4 : decode cX6_hasBit 4 = .ok (.iand, 1) := by decide +kernel
theorem dX6_hasBit_5 : decode cX6_hasBit 5 = .ok (.iconst 1, 1) := by decide +kernel
theorem dX6_hasBit_6 : decode cX6_hasBit 6 = .ok (.if_icmp .ne 7, 3) := by decide +kernel
theorem dX6_hasBit_9 : decode cX6_hasBit 9 = .ok (.iconst 1, 1) := by decide +kernel
theorem dX6_hasBit_10 : decode cX6_hasBit 10 = .ok (.goto 4, 3) := by decide +kernel
theorem dX6_hasBit_13 : decode cX6_hasBit 13 = .ok (.iconst 0, 1) := by decide +kernel
theorem dX6_hasBit_14 : decode cX6_hasBit 14 = .ok (.ireturn, 1) := by decide +kernel
theorem dX6_turned_0 : decode cX6_turned 0 = .ok (.iload_n 0, 1) := by decide +kernel
theorem dX6_turned_1 : decode cX6_turned 1 = .ok (.bipush 73, 2) := by decide +kernel
theorem dX6_turned_3 : decode cX6_turned 3 = .ok (.iand, 1) := by decide +kernel
theorem dX6_turned_4 : decode cX6_turned 4 = .ok (.iconst 2, 1) := by decide +kernel
theorem dX6_turned_5 : decode cX6_turned 5 = .ok (.ishl, 1) := by decide +kernel
theorem dX6_turned_6 : decode cX6_turned 6 = .ok (.iload_n 0, 1) := by decide +kernel
theorem dX6_turned_7 : decode cX6_turned 7 = .ok (.sipush 146, 3) := by decide +kernel
theorem dX6_turned_10 : decode cX6_turned 10 = .ok (.iand, 1) := by decide +kernel
theorem dX6_turned_11 : decode cX6_turned 11 = .ok (.ior, 1) := by decide +kernel
theorem dX6_turned_12 : decode cX6_turned 12 = .ok (.iload_n 0, 1) := by decide +kernel
theorem dX6_turned_13 : decode cX6_turned 13 = .ok (.sipush 292, 3) := by decide +kernel
theorem dX6_turned_16 : decode cX6_turned 16 = .ok (.iand, 1) := by decide +kernel
theorem dX6_turned_17 : decode cX6_turned 17 = .ok (.iconst 2, 1) := by decide +kernel
theorem dX6_turned_18 : decode cX6_turned 18 = .ok (.ishr, 1) := by decide +kernel
theorem dX6_turned_19 : decode cX6_turned 19 = .ok (.ior, 1) := by decide +kernel
theorem dX6_turned_20 : decode cX6_turned 20 = .ok (.ireturn, 1) := by decide +kernel
theorem dX6_isOfKind_0 : decode cX6_isOfKind 0 = .ok (.iload_n 0, 1) := by decide +kernel
theorem dX6_isOfKind_1 : decode cX6_isOfKind 1 = .ok (.iconst 1, 1) := by decide +kernel
theorem dX6_isOfKind_2 : decode cX6_isOfKind 2 = .ok (.if_icmp .eq 13, 3) := by decide +kernel
theorem dX6_isOfKind_5 : decode cX6_isOfKind 5 = .ok (.iload_n 0, 1) := by decide +kernel
theorem dX6_isOfKind_6 : decode cX6_isOfKind 6 = .ok (.iconst 2, 1) := by decide +kernel
theorem dX6_isOfKind_7 : decode cX6_isOfKind 7 = .ok (.if_icmp .eq 8, 3) := by decide +kernel
theorem dX6_isOfKind_10 : decode cX6_isOfKind 10 = .ok (.iload_n 0, 1) := by decide +kernel
theorem dX6_isOfKind_11 : decode cX6_isOfKind 11 = .ok (.iconst 3, 1) := by decide +kernel
theorem dX6_isOfKind_12 : decode cX6_isOfKind 12 = .ok (.if_icmp .ne 7, 3) := by decide +kernel
theorem dX6_isOfKind_15 : decode cX6_isOfKind 15 = .ok (.iconst 1, 1) := by decide +kernel
theorem dX6_isOfKind_16 : decode cX6_isOfKind 16 = .ok (.goto 4, 3) := by decide +kernel
theorem dX6_isOfKind_19 : decode cX6_isOfKind 19 = .ok (.iconst 0, 1) := by decide +kernel
theorem dX6_isOfKind_20 : decode cX6_isOfKind 20 = .ok (.istore_n 2, 1) := by decide +kernel
theorem dX6_isOfKind_21 : decode cX6_isOfKind 21 = .ok (.iload_n 0, 1) := by decide +kernel
theorem dX6_isOfKind_22 : decode cX6_isOfKind 22 = .ok (.iconst 4, 1) := by decide +kernel
theorem dX6_isOfKind_23 : decode cX6_isOfKind 23 = .ok (.if_icmp .eq 8, 3) := by decide +kernel
theorem dX6_isOfKind_26 : decode cX6_isOfKind 26 = .ok (.iload_n 0, 1) := by decide +kernel
theorem dX6_isOfKind_27 : decode cX6_isOfKind 27 = .ok (.iconst 5, 1) := by decide +kernel
theorem dX6_isOfKind_28 : decode cX6_isOfKind 28 = .ok (.if_icmp .ne 7, 3) := by decide +kernel
theorem dX6_isOfKind_31 : decode cX6_isOfKind 31 = .ok (.iconst 1, 1) := by decide +kernel
theorem dX6_isOfKind_32 : decode cX6_isOfKind 32 = .ok (.goto 4, 3) := by decide +kernel
theorem dX6_isOfKind_35 : decode cX6_isOfKind 35 = .ok (.iconst 0, 1) := by decide +kernel
theorem dX6_isOfKind_36 : decode cX6_isOfKind 36 = .ok (.istore_n 3, 1) := by decide +kernel
theorem dX6_isOfKind_37 : decode cX6_isOfKind 37 = .ok (.iload_n 1, 1) := by decide +kernel
theorem dX6_isOfKind_38 : decode cX6_isOfKind 38 = .ok (.ifCond .eq 26, 3) := by decide +kernel
theorem dX6_isOfKind_41 : decode cX6_isOfKind 41 = .ok (.iload_n 1, 1) := by decide +kernel
theorem dX6_isOfKind_42 : decode cX6_isOfKind 42 = .ok (.iload_n 0, 1) := by decide +kernel
theorem dX6_isOfKind_43 : decode cX6_isOfKind 43 = .ok (.if_icmp .eq 21, 3) := by decide +kernel
theorem dX6_isOfKind_46 : decode cX6_isOfKind 46 = .ok (.iload_n 1, 1) := by decide +kernel
theorem dX6_isOfKind_47 : decode cX6_isOfKind 47 = .ok (.iconst 1, 1) := by decide +kernel
theorem dX6_isOfKind_48 : decode cX6_isOfKind 48 = .ok (.if_icmp .ne 7, 3) := by decide +kernel
theorem dX6_isOfKind_51 : decode cX6_isOfKind 51 = .ok (.iload_n 2, 1) := by decide +kernel
theorem dX6_isOfKind_52 : decode cX6_isOfKind 52 = .ok (.ifCond .ne 12, 3) := by decide +kernel
theorem dX6_isOfKind_55 : decode cX6_isOfKind 55 = .ok (.iload_n 1, 1) := by decide +kernel
theorem dX6_isOfKind_56 : decode cX6_isOfKind 56 = .ok (.iconst 4, 1) := by decide +kernel
theorem dX6_isOfKind_57 : decode cX6_isOfKind 57 = .ok (.if_icmp .ne 11, 3) := by decide +kernel
theorem dX6_isOfKind_60 : decode cX6_isOfKind 60 = .ok (.iload_n 3, 1) := by decide +kernel
theorem dX6_isOfKind_61 : decode cX6_isOfKind 61 = .ok (.ifCond .eq 7, 3) := by decide +kernel
theorem dX6_isOfKind_64 : decode cX6_isOfKind 64 = .ok (.iconst 1, 1) := by decide +kernel
theorem dX6_isOfKind_65 : decode cX6_isOfKind 65 = .ok (.goto 4, 3) := by decide +kernel
theorem dX6_isOfKind_68 : decode cX6_isOfKind 68 = .ok (.iconst 0, 1) := by decide +kernel
theorem dX6_isOfKind_69 : decode cX6_isOfKind 69 = .ok (.ireturn, 1) := by decide +kernel
theorem dX6_itemOf_0 : decode cX6_itemOf 0 = .ok (.aload_n 0, 1) := by decide +kernel
theorem dX6_itemOf_1 : decode cX6_itemOf 1 = .ok (.ifnull 19, 3) := by decide +kernel
theorem dX6_itemOf_4 : decode cX6_itemOf 4 = .ok (.iload_n 1, 1) := by decide +kernel
theorem dX6_itemOf_5 : decode cX6_itemOf 5 = .ok (.ifCond .lt 15, 3) := by decide +kernel
theorem dX6_itemOf_8 : decode cX6_itemOf 8 = .ok (.iload_n 1, 1) := by decide +kernel
theorem dX6_itemOf_9 : decode cX6_itemOf 9 = .ok (.aload_n 0, 1) := by decide +kernel
theorem dX6_itemOf_10 : decode cX6_itemOf 10 = .ok (.arraylength, 1) := by decide +kernel
theorem dX6_itemOf_11 : decode cX6_itemOf 11 = .ok (.if_icmp .ge 9, 3) := by decide +kernel
theorem dX6_itemOf_14 : decode cX6_itemOf 14 = .ok (.aload_n 0, 1) := by decide +kernel
theorem dX6_itemOf_15 : decode cX6_itemOf 15 = .ok (.iload_n 1, 1) := by decide +kernel
theorem dX6_itemOf_16 : decode cX6_itemOf 16 = .ok (.iaload, 1) := by decide +kernel
theorem dX6_itemOf_17 : decode cX6_itemOf 17 = .ok (.goto 4, 3) := by decide +kernel
theorem dX6_itemOf_20 : decode cX6_itemOf 20 = .ok (.iconst 0, 1) := by decide +kernel
theorem dX6_itemOf_21 : decode cX6_itemOf 21 = .ok (.ireturn, 1) := by decide +kernel
theorem dX6_putItem_0 : decode cX6_putItem 0 = .ok (.aload_n 0, 1) := by decide +kernel
theorem dX6_putItem_1 : decode cX6_putItem 1 = .ok (.ifnull 17, 3) := by decide +kernel
theorem dX6_putItem_4 : decode cX6_putItem 4 = .ok (.iload_n 1, 1) := by decide +kernel
theorem dX6_putItem_5 : decode cX6_putItem 5 = .ok (.ifCond .lt 13, 3) := by decide +kernel
theorem dX6_putItem_8 : decode cX6_putItem 8 = .ok (.iload_n 1, 1) := by decide +kernel
theorem dX6_putItem_9 : decode cX6_putItem 9 = .ok (.aload_n 0, 1) := by decide +kernel
theorem dX6_putItem_10 : decode cX6_putItem 10 = .ok (.arraylength, 1) := by decide +kernel
theorem dX6_putItem_11 : decode cX6_putItem 11 = .ok (.if_icmp .ge 7, 3) := by decide +kernel
theorem dX6_putItem_14 : decode cX6_putItem 14 = .ok (.aload_n 0, 1) := by decide +kernel
theorem dX6_putItem_15 : decode cX6_putItem 15 = .ok (.iload_n 1, 1) := by decide +kernel
theorem dX6_putItem_16 : decode cX6_putItem 16 = .ok (.iload_n 2, 1) := by decide +kernel
theorem dX6_putItem_17 : decode cX6_putItem 17 = .ok (.iastore, 1) := by decide +kernel
theorem dX6_putItem_18 : decode cX6_putItem 18 = .ok (.return_, 1) := by decide +kernel
theorem dX6_copyItems_0 : decode cX6_copyItems 0 = .ok (.aload_n 0, 1) := by decide +kernel
theorem dX6_copyItems_1 : decode cX6_copyItems 1 = .ok (.ifnull 20, 3) := by decide +kernel
theorem dX6_copyItems_4 : decode cX6_copyItems 4 = .ok (.aload_n 2, 1) := by decide +kernel
theorem dX6_copyItems_5 : decode cX6_copyItems 5 = .ok (.ifnull 16, 3) := by decide +kernel
theorem dX6_copyItems_8 : decode cX6_copyItems 8 = .ok (.iload_n 1, 1) := by decide +kernel
theorem dX6_copyItems_9 : decode cX6_copyItems 9 = .ok (.ifCond .lt 12, 3) := by decide +kernel
theorem dX6_copyItems_12 : decode cX6_copyItems 12 = .ok (.iload_n 3, 1) := by decide +kernel
theorem dX6_copyItems_13 : decode cX6_copyItems 13 = .ok (.ifCond .lt 8, 3) := by decide +kernel
theorem dX6_copyItems_16 : decode cX6_copyItems 16 = .ok (.iload 4, 2) := by decide +kernel
theorem dX6_copyItems_18 : decode cX6_copyItems 18 = .ok (.ifCond .ge 4, 3) := by decide +kernel
theorem dX6_copyItems_21 : decode cX6_copyItems 21 = .ok (.return_, 1) := by decide +kernel
theorem dX6_copyItems_22 : decode cX6_copyItems 22 = .ok (.iload 4, 2) := by decide +kernel
theorem dX6_copyItems_24 : decode cX6_copyItems 24 = .ok (.aload_n 0, 1) := by decide +kernel
theorem dX6_copyItems_25 : decode cX6_copyItems 25 = .ok (.arraylength, 1) := by decide +kernel
theorem dX6_copyItems_26 : decode cX6_copyItems 26 = .ok (.iload_n 1, 1) := by decide +kernel
theorem dX6_copyItems_27 : decode cX6_copyItems 27 = .ok (.isub, 1) := by decide +kernel
theorem dX6_copyItems_28 : decode cX6_copyItems 28 = .ok (.if_icmp .gt 21, 3) := by decide +kernel
theorem dX6_copyItems_31 : decode cX6_copyItems 31 = .ok (.iload 4, 2) := by decide +kernel
theorem dX6_copyItems_33 : decode cX6_copyItems 33 = .ok (.aload_n 2, 1) := by decide +kernel
theorem dX6_copyItems_34 : decode cX6_copyItems 34 = .ok (.arraylength, 1) := by decide +kernel
theorem dX6_copyItems_35 : decode cX6_copyItems 35 = .ok (.iload_n 3, 1) := by decide +kernel
theorem dX6_copyItems_36 : decode cX6_copyItems 36 = .ok (.isub, 1) := by decide +kernel
theorem dX6_copyItems_37 : decode cX6_copyItems 37 = .ok (.if_icmp .gt 12, 3) := by decide +kernel
theorem dX6_copyItems_40 : decode cX6_copyItems 40 = .ok (.aload_n 0, 1) := by decide +kernel
theorem dX6_copyItems_41 : decode cX6_copyItems 41 = .ok (.iload_n 1, 1) := by decide +kernel
theorem dX6_copyItems_42 : decode cX6_copyItems 42 = .ok (.aload_n 2, 1) := by decide +kernel
theorem dX6_copyItems_43 : decode cX6_copyItems 43 = .ok (.iload_n 3, 1) := by decide +kernel
theorem dX6_copyItems_44 : decode cX6_copyItems 44 = .ok (.iload 4, 2) := by decide +kernel
theorem dX6_copyItems_46 : decode cX6_copyItems 46 = .ok (.invokestatic 264, 3) := by decide +kernel
theorem dX6_copyItems_49 : decode cX6_copyItems 49 = .ok (.return_, 1) := by decide +kernel
theorem dX7_init_0 : decode cX7_init 0 = .ok (.aload_n 0, 1) := by decide +kernel
theorem dX7_init_1 : decode cX7_init 1 = .ok (.invokespecial 1, 3) := by decide +kernel
theorem dX7_init_4 : decode cX7_init 4 = .ok (.aload_n 0, 1) := by decide +kernel
theorem dX7_init_5 : decode cX7_init 5 = .ok (.bipush 8, 2) := by decide +kernel
theorem dX7_init_7 : decode cX7_init 7 = .ok (.newarray .int, 2) := by decide +kernel
theorem dX7_init_9 : decode cX7_init 9 = .ok (.dup, 1) := by decide +kernel
theorem dX7_init_10 : decode cX7_init 10 = .ok (.iconst 0, 1) := by decide +kernel
theorem dX7_init_11 : decode cX7_init 11 = .ok (.iconst (-1), 1) := by decide +kernel
theorem dX7_init_12 : decode cX7_init 12 = .ok (.iastore, 1) := by decide +kernel
theorem dX7_init_13 : decode cX7_init 13 = .ok (.dup, 1) := by decide +kernel
theorem dX7_init_14 : decode cX7_init 14 = .ok (.iconst 1, 1) := by decide +kernel
theorem dX7_init_15 : decode cX7_init 15 = .ok (.iconst (-1), 1) := by decide +kernel
theorem dX7_init_16 : decode cX7_init 16 = .ok (.iastore, 1) := by decide +kernel
theorem dX7_init_17 : decode cX7_init 17 = .ok (.dup, 1) := by decide +kernel
theorem dX7_init_18 : decode cX7_init 18 = .ok (.iconst 2, 1) := by decide +kernel
theorem dX7_init_19 : decode cX7_init 19 = .ok (.iconst (-1), 1) := by decide +kernel
theorem dX7_init_20 : decode cX7_init 20 = .ok (.iastore, 1) := by decide +kernel
theorem dX7_init_21 : decode cX7_init 21 = .ok (.dup, 1) := by decide +kernel
theorem dX7_init_22 : decode cX7_init 22 = .ok (.iconst 3, 1) := by decide +kernel
theorem dX7_init_23 : decode cX7_init 23 = .ok (.iconst (-1), 1) := by decide +kernel
theorem dX7_init_24 : decode cX7_init 24 = .ok (.iastore, 1) := by decide +kernel
theorem dX7_init_25 : decode cX7_init 25 = .ok (.dup, 1) := by decide +kernel
theorem dX7_init_26 : decode cX7_init 26 = .ok (.iconst 4, 1) := by decide +kernel
theorem dX7_init_27 : decode cX7_init 27 = .ok (.iconst (-1), 1) := by decide +kernel
theorem dX7_init_28 : decode cX7_init 28 = .ok (.iastore, 1) := by decide +kernel
theorem dX7_init_29 : decode cX7_init 29 = .ok (.dup, 1) := by decide +kernel
theorem dX7_init_30 : decode cX7_init 30 = .ok (.iconst 5, 1) := by decide +kernel
theorem dX7_init_31 : decode cX7_init 31 = .ok (.iconst (-1), 1) := by decide +kernel
theorem dX7_init_32 : decode cX7_init 32 = .ok (.iastore, 1) := by decide +kernel
theorem dX7_init_33 : decode cX7_init 33 = .ok (.dup, 1) := by decide +kernel
theorem dX7_init_34 : decode cX7_init 34 = .ok (.bipush 6, 2) := by decide +kernel
theorem dX7_init_36 : decode cX7_init 36 = .ok (.iconst (-1), 1) := by decide +kernel
theorem dX7_init_37 : decode cX7_init 37 = .ok (.iastore, 1) := by decide +kernel
theorem dX7_init_38 : decode cX7_init 38 = .ok (.dup, 1) := by decide +kernel
theorem dX7_init_39 : decode cX7_init 39 = .ok (.bipush 7, 2) := by decide +kernel
theorem dX7_init_41 : decode cX7_init 41 = .ok (.iconst (-1), 1) := by decide +kernel
theorem dX7_init_42 : decode cX7_init 42 = .ok (.iastore, 1) := by decide +kernel
theorem dX7_init_43 : decode cX7_init 43 = .ok (.putfield 7, 3) := by decide +kernel
theorem dX7_init_46 : decode cX7_init 46 = .ok (.aload_n 0, 1) := by decide +kernel
theorem dX7_init_47 : decode cX7_init 47 = .ok (.bipush 8, 2) := by decide +kernel
theorem dX7_init_49 : decode cX7_init 49 = .ok (.newarray .int, 2) := by decide +kernel
theorem dX7_init_51 : decode cX7_init 51 = .ok (.putfield 13, 3) := by decide +kernel
theorem dX7_init_54 : decode cX7_init 54 = .ok (.aload_n 0, 1) := by decide +kernel
theorem dX7_init_55 : decode cX7_init 55 = .ok (.sipush 320, 3) := by decide +kernel
theorem dX7_init_58 : decode cX7_init 58 = .ok (.newarray .int, 2) := by decide +kernel
theorem dX7_init_60 : decode cX7_init 60 = .ok (.putfield 16, 3) := by decide +kernel
theorem dX7_init_63 : decode cX7_init 63 = .ok (.aload_n 0, 1) := by decide +kernel
theorem dX7_init_64 : decode cX7_init 64 = .ok (.bipush 37, 2) := by decide +kernel
theorem dX7_init_66 : decode cX7_init 66 = .ok (.newarray .int, 2) := by decide +kernel
theorem dX7_init_68 : decode cX7_init 68 = .ok (.putfield 19, 3) := by decide +kernel
theorem dX7_init_71 : decode cX7_init 71 = .ok (.aload_n 0, 1) := by decide +kernel
theorem dX7_init_72 : decode cX7_init 72 = .ok (.bipush 37, 2) := by decide +kernel
theorem dX7_init_74 : decode cX7_init 74 = .ok (.newarray .int, 2) := by decide +kernel
theorem dX7_init_76 : decode cX7_init 76 = .ok (.putfield 22, 3) := by decide +kernel
theorem dX7_init_79 : decode cX7_init 79 = .ok (.aload_n 0, 1) := by decide +kernel
theorem dX7_init_80 : decode cX7_init 80 = .ok (.sipush 888, 3) := by decide +kernel
theorem dX7_init_83 : decode cX7_init 83 = .ok (.newarray .int, 2) := by decide +kernel
theorem dX7_init_85 : decode cX7_init 85 = .ok (.putfield 25, 3) := by decide +kernel
theorem dX7_init_88 : decode cX7_init 88 = .ok (.aload_n 0, 1) := by decide +kernel
theorem dX7_init_89 : decode cX7_init 89 = .ok (.sipush 400, 3) := by decide +kernel
theorem dX7_init_92 : decode cX7_init 92 = .ok (.newarray .int, 2) := by decide +kernel
theorem dX7_init_94 : decode cX7_init 94 = .ok (.putfield 28, 3) := by decide +kernel
theorem dX7_init_97 : decode cX7_init 97 = .ok (.aload_n 0, 1) := by decide +kernel
theorem dX7_init_98 : decode cX7_init 98 = .ok (.iconst 2, 1) := by decide +kernel
theorem dX7_init_99 : decode cX7_init 99 = .ok (.newarray .boolean, 2) := by decide +kernel
theorem dX7_init_101 : decode cX7_init 101 = .ok (.putfield 31, 3) := by decide +kernel
theorem dX7_init_104 : decode cX7_init 104 = .ok (.aload_n 0, 1) := by decide +kernel
theorem dX7_init_105 : decode cX7_init 105 = .ok (.bipush 74, 2) := by decide +kernel
theorem dX7_init_107 : decode cX7_init 107 = .ok (.newarray .int, 2) := by decide +kernel
theorem dX7_init_109 : decode cX7_init 109 = .ok (.putfield 35, 3) := by decide +kernel
theorem dX7_init_112 : decode cX7_init 112 = .ok (.aload_n 0, 1) := by decide +kernel
theorem dX7_init_113 : decode cX7_init 113 = .ok (.bipush 16, 2) := by decide +kernel
theorem dX7_init_115 : decode cX7_init 115 = .ok (.newarray .int, 2) := by decide +kernel
theorem dX7_init_117 : decode cX7_init 117 = .ok (.putfield 38, 3) := by decide +kernel
theorem dX7_init_120 : decode cX7_init 120 = .ok (.return_, 1) := by decide +kernel
theorem dX7_in_0 : decode cX7_in 0 = .ok (.lload_n 0, 1) := by decide +kernel
theorem dX7_in_1 : decode cX7_in 1 = .ok (.lload_n 2, 1) := by decide +kernel
theorem dX7_in_2 : decode cX7_in 2 = .ok (.lcmp, 1) := by decide +kernel
theorem dX7_in_3 : decode cX7_in 3 = .ok (.ifCond .lt 14, 3) := by decide +kernel
theorem dX7_in_6 : decode cX7_in 6 = .ok (.lload_n 0, 1) := by decide +kernel
theorem dX7_in_7 : decode cX7_in 7 = .ok (.lload 4, 2) := by decide +kernel
theorem dX7_in_9 : decode cX7_in 9 = .ok (.lcmp, 1) := by decide +kernel
theorem dX7_in_10 : decode cX7_in 10 = .ok (.ifCond .gt 7, 3) := by decide +kernel
theorem dX7_in_13 : decode cX7_in 13 = .ok (.iconst 1, 1) := by decide +kernel
theorem dX7_in_14 : decode cX7_in 14 = .ok (.goto 4, 3) := by decide +kernel
theorem dX7_in_17 : decode cX7_in 17 = .ok (.iconst 0, 1) := by decide +kernel
theorem dX7_in_18 : decode cX7_in 18 = .ok (.ireturn, 1) := by decide +kernel
theorem dX7_finding_0 : decode cX7_finding 0 = .ok (.aload_n 0, 1) := by decide +kernel
theorem dX7_finding_1 : decode cX7_finding 1 = .ok (.iload_n 1, 1) := by decide +kernel
theorem dX7_finding_2 : decode cX7_finding 2 = .ok (.putfield 45, 3) := by decide +kernel
theorem dX7_finding_5 : decode cX7_finding 5 = .ok (.ldc 48, 2) := by decide +kernel
theorem dX7_finding_7 : decode cX7_finding 7 = .ok (.iload_n 1, 1) := by decide +kernel
theorem dX7_finding_8 : decode cX7_finding 8 = .ok (.isub, 1) := by decide +kernel
theorem dX7_finding_9 : decode cX7_finding 9 = .ok (.ireturn, 1) := by decide +kernel
theorem dX7_isRow_0 : decode cX7_isRow 0 = .ok (.iload_n 0, 1) := by decide +kernel
theorem dX7_isRow_1 : decode cX7_isRow 1 = .ok (.i2l, 1) := by decide +kernel
theorem dX7_isRow_2 : decode cX7_isRow 2 = .ok (.lconst 0, 1) := by decide +kernel
theorem dX7_isRow_3 : decode cX7_isRow 3 = .ok (.ldc2_w 49, 3) := by decide +kernel
theorem dX7_isRow_6 : decode cX7_isRow 6 = .ok (.invokestatic 51, 3) := by decide +kernel
theorem dX7_isRow_9 : decode cX7_isRow 9 = .ok (.ireturn, 1) := by decide +kernel
theorem dX7_row_0 : decode cX7_row 0 = .ok (.aload_n 0, 1) := by decide +kernel
theorem dX7_row_1 : decode cX7_row 1 = .ok (.iconst 0, 1) := by decide +kernel
theorem dX7_row_2 : decode cX7_row 2 = .ok (.putfield 41, 3) := by decide +kernel
theorem dX7_row_5 : decode cX7_row 5 = .ok (.iload_n 1, 1) := by decide +kernel
theorem dX7_row_6 : decode cX7_row 6 = .ok (.invokestatic 55, 3) := by decide +kernel
theorem dX7_row_9 : decode cX7_row 9 = .ok (.ifCond .eq 21, 3) := by decide +kernel
theorem dX7_row_12 : decode cX7_row 12 = .ok (.iload_n 2, 1) := by decide +kernel
theorem dX7_row_13 : decode cX7_row 13 = .ok (.i2l, 1) := by decide +kernel
theorem dX7_row_14 : decode cX7_row 14 = .ok (.lconst 0, 1) := by decide +kernel
theorem dX7_row_15 : decode cX7_row 15 = .ok (.ldc2_w 59, 3) := by decide +kernel
theorem dX7_row_18 : decode cX7_row 18 = .ok (.invokestatic 51, 3) := by decide +kernel
theorem dX7_row_21 : decode cX7_row 21 = .ok (.ifCond .eq 9, 3) := by decide +kernel
theorem dX7_row_24 : decode cX7_row 24 = .ok (.iload_n 3, 1) := by decide +kernel
theorem dX7_row_25 : decode cX7_row 25 = .ok (.bipush 40, 2) := by decide +kernel
theorem dX7_row_27 : decode cX7_row 27 = .ok (.if_icmp .le 6, 3) := by decide +kernel
theorem dX7_row_30 : decode cX7_row 30 = .ok (.ldc 61, 2) := by decide +kernel
theorem dX7_row_32 : decode cX7_row 32 = .ok (.ireturn, 1) := by decide +kernel
theorem dX7_row_33 : decode cX7_row 33 = .ok (.aload_n 0, 1) := by decide +kernel
theorem dX7_row_34 : decode cX7_row 34 = .ok (.iconst 0, 1) := by decide +kernel
theorem dX7_row_35 : decode cX7_row 35 = .ok (.putfield 45, 3) := by decide +kernel
theorem dX7_row_38 : decode cX7_row 38 = .ok (.iload_n 3, 1) := by decide +kernel
theorem dX7_row_39 : decode cX7_row 39 = .ok (.ifCond .ge 9, 3) := by decide +kernel
theorem dX7_row_42 : decode cX7_row 42 = .ok (.aload_n 0, 1) := by decide +kernel
theorem dX7_row_43 : decode cX7_row 43 = .ok (.iconst 4, 1) := by decide +kernel
theorem dX7_row_44 : decode cX7_row 44 = .ok (.invokevirtual 62, 3) := by decide +kernel
theorem dX7_row_47 : decode cX7_row 47 = .ok (.ireturn, 1) := by decide +kernel
theorem dX7_row_48 : decode cX7_row 48 = .ok (.aload_n 0, 1) := by decide +kernel
theorem dX7_row_49 : decode cX7_row 49 = .ok (.getfield 7, 3) := by decide +kernel
theorem dX7_row_52 : decode cX7_row 52 = .ok (.iload_n 1, 1) := by decide +kernel
theorem dX7_row_53 : decode cX7_row 53 = .ok (.iload_n 2, 1) := by decide +kernel
theorem dX7_row_54 : decode cX7_row 54 = .ok (.iastore, 1) := by decide +kernel
theorem dX7_row_55 : decode cX7_row 55 = .ok (.aload_n 0, 1) := by decide +kernel
theorem dX7_row_56 : decode cX7_row 56 = .ok (.getfield 13, 3) := by decide +kernel
theorem dX7_row_59 : decode cX7_row 59 = .ok (.iload_n 1, 1) := by decide +kernel
theorem dX7_row_60 : decode cX7_row 60 = .ok (.iload_n 3, 1) := by decide +kernel
theorem dX7_row_61 : decode cX7_row 61 = .ok (.iastore, 1) := by decide +kernel
theorem dX7_row_62 : decode cX7_row 62 = .ok (.iconst 0, 1) := by decide +kernel
theorem dX7_row_63 : decode cX7_row 63 = .ok (.istore 4, 2) := by decide +kernel
theorem dX7_row_65 : decode cX7_row 65 = .ok (.iload 4, 2) := by decide +kernel
theorem dX7_row_67 : decode cX7_row 67 = .ok (.bipush 40, 2) := by decide +kernel
theorem dX7_row_69 : decode cX7_row 69 = .ok (.if_icmp .ge 22, 3) := by decide +kernel
theorem dX7_row_72 : decode cX7_row 72 = .ok (.aload_n 0, 1) := by decide +kernel
theorem dX7_row_73 : decode cX7_row 73 = .ok (.getfield 16, 3) := by decide +kernel
theorem dX7_row_76 : decode cX7_row 76 = .ok (.bipush 40, 2) := by decide +kernel
theorem dX7_row_78 : decode cX7_row 78 = .ok (.iload_n 1, 1) := by decide +kernel
theorem dX7_row_79 : decode cX7_row 79 = .ok (.imul, 1) := by decide +kernel
theorem dX7_row_80 : decode cX7_row 80 = .ok (.iload 4, 2) := by decide +kernel
theorem dX7_row_82 : decode cX7_row 82 = .ok (.iadd, 1) := by decide +kernel
theorem dX7_row_83 : decode cX7_row 83 = .ok (.iconst 0, 1) := by decide +kernel
theorem dX7_row_84 : decode cX7_row 84 = .ok (.iastore, 1) := by decide +kernel
theorem dX7_row_85 : decode cX7_row 85 = .ok (.iinc 4 1, 3) := by decide +kernel
theorem dX7_row_88 : decode cX7_row 88 = .ok (.goto (-23), 3) := by decide +kernel
theorem dX7_row_91 : decode cX7_row 91 = .ok (.iload_n 3, 1) := by decide +kernel
theorem dX7_row_92 : decode cX7_row 92 = .ok (.ireturn, 1) := by decide +kernel
theorem dX7_set_0 : decode cX7_set 0 = .ok (.aload_n 0, 1) := by decide +kernel
theorem dX7_set_1 : decode cX7_set 1 = .ok (.iconst 0, 1) := by decide +kernel
theorem dX7_set_2 : decode cX7_set 2 = .ok (.putfield 41, 3) := by decide +kernel
theorem dX7_set_5 : decode cX7_set 5 = .ok (.iload_n 1, 1) := by decide +kernel
theorem dX7_set_6 : decode cX7_set 6 = .ok (.invokestatic 55, 3) := by decide +kernel
theorem dX7_set_9 : decode cX7_set 9 = .ok (.ifCond .ne 6, 3) := by decide +kernel
theorem dX7_set_12 : decode cX7_set 12 = .ok (.ldc 61, 2) := by decide +kernel
theorem dX7_set_14 : decode cX7_set 14 = .ok (.ireturn, 1) := by decide +kernel
theorem dX7_set_15 : decode cX7_set 15 = .ok (.aload_n 0, 1) := by decide +kernel
theorem dX7_set_16 : decode cX7_set 16 = .ok (.iconst 0, 1) := by decide +kernel
theorem dX7_set_17 : decode cX7_set 17 = .ok (.putfield 45, 3) := by decide +kernel
theorem dX7_set_20 : decode cX7_set 20 = .ok (.aload_n 0, 1) := by decide +kernel
theorem dX7_set_21 : decode cX7_set 21 = .ok (.getfield 7, 3) := by decide +kernel
theorem dX7_set_24 : decode cX7_set 24 = .ok (.iload_n 1, 1) := by decide +kernel
theorem dX7_set_25 : decode cX7_set 25 = .ok (.iaload, 1) := by decide +kernel
theorem dX7_set_26 : decode cX7_set 26 = .ok (.ifCond .ge 9, 3) := by decide +kernel
theorem dX7_set_29 : decode cX7_set 29 = .ok (.aload_n 0, 1) := by decide +kernel
theorem dX7_set_30 : decode cX7_set 30 = .ok (.iconst 1, 1) := by decide +kernel
theorem dX7_set_31 : decode cX7_set 31 = .ok (.invokevirtual 62, 3) := by decide +kernel
theorem dX7_set_34 : decode cX7_set 34 = .ok (.ireturn, 1) := by decide +kernel
theorem dX7_set_35 : decode cX7_set 35 = .ok (.iload_n 2, 1) := by decide +kernel
theorem dX7_set_36 : decode cX7_set 36 = .ok (.i2l, 1) := by decide +kernel
theorem dX7_set_37 : decode cX7_set 37 = .ok (.lconst 0, 1) := by decide +kernel
theorem dX7_set_38 : decode cX7_set 38 = .ok (.aload_n 0, 1) := by decide +kernel
theorem dX7_set_39 : decode cX7_set 39 = .ok (.getfield 13, 3) := by decide +kernel
theorem dX7_set_42 : decode cX7_set 42 = .ok (.iload_n 1, 1) := by decide +kernel
theorem dX7_set_43 : decode cX7_set 43 = .ok (.iaload, 1) := by decide +kernel
theorem dX7_set_44 : decode cX7_set 44 = .ok (.iconst 1, 1) := by decide +kernel
theorem dX7_set_45 : decode cX7_set 45 = .ok (.isub, 1) := by decide +kernel
theorem dX7_set_46 : decode cX7_set 46 = .ok (.i2l, 1) := by decide +kernel
theorem dX7_set_47 : decode cX7_set 47 = .ok (.invokestatic 51, 3) := by decide +kernel
theorem dX7_set_50 : decode cX7_set 50 = .ok (.ifCond .ne 9, 3) := by decide +kernel
theorem dX7_set_53 : decode cX7_set 53 = .ok (.aload_n 0, 1) := by decide +kernel
theorem dX7_set_54 : decode cX7_set 54 = .ok (.iconst 2, 1) := by decide +kernel
theorem dX7_set_55 : decode cX7_set 55 = .ok (.invokevirtual 62, 3) := by decide +kernel
theorem dX7_set_58 : decode cX7_set 58 = .ok (.ireturn, 1) := by decide +kernel
theorem dX7_set_59 : decode cX7_set 59 = .ok (.aload_n 0, 1) := by decide +kernel
theorem dX7_set_60 : decode cX7_set 60 = .ok (.getfield 16, 3) := by decide +kernel
theorem dX7_set_63 : decode cX7_set 63 = .ok (.bipush 40, 2) := by decide +kernel
theorem dX7_set_65 : decode cX7_set 65 = .ok (.iload_n 1, 1) := by decide +kernel
theorem dX7_set_66 : decode cX7_set 66 = .ok (.imul, 1) := by decide +kernel
theorem dX7_set_67 : decode cX7_set 67 = .ok (.iload_n 2, 1) := by decide +kernel
theorem dX7_set_68 : decode cX7_set 68 = .ok (.iadd, 1) := by decide +kernel
theorem dX7_set_69 : decode cX7_set 69 = .ok (.aload_n 0, 1) := by decide +kernel
theorem dX7_set_70 : decode cX7_set 70 = .ok (.getfield 7, 3) := by decide +kernel
theorem dX7_set_73 : decode cX7_set 73 = .ok (.iload_n 1, 1) := by decide +kernel
theorem dX7_set_74 : decode cX7_set 74 = .ok (.iaload, 1) := by decide +kernel
theorem dX7_set_75 : decode cX7_set 75 = .ok (.ifCond .ne 8, 3) := by decide +kernel
theorem dX7_set_78 : decode cX7_set 78 = .ok (.iload_n 3, 1) := by decide +kernel
theorem dX7_set_79 : decode cX7_set 79 = .ok (.i2b, 1) := by decide +kernel
theorem dX7_set_80 : decode cX7_set 80 = .ok (.goto 19, 3) := by decide +kernel
theorem dX7_set_83 : decode cX7_set 83 = .ok (.aload_n 0, 1) := by decide +kernel
theorem dX7_set_84 : decode cX7_set 84 = .ok (.getfield 7, 3) := by decide +kernel
theorem dX7_set_87 : decode cX7_set 87 = .ok (.iload_n 1, 1) := by decide +kernel
theorem dX7_set_88 : decode cX7_set 88 = .ok (.iaload, 1) := by decide +kernel
theorem dX7_set_89 : decode cX7_set 89 = .ok (.iconst 1, 1) := by decide +kernel
theorem dX7_set_90 : decode cX7_set 90 = .ok (.if_icmp .ne 8, 3) := by decide +kernel
theorem dX7_set_93 : decode cX7_set 93 = .ok (.iload_n 3, 1) := by decide +kernel
theorem dX7_set_94 : decode cX7_set 94 = .ok (.i2s, 1) := by decide +kernel
theorem dX7_set_95 : decode cX7_set 95 = .ok (.goto 4, 3) := by decide +kernel
theorem dX7_set_98 : decode cX7_set 98 = .ok (.iload_n 3, 1) := by decide +kernel
theorem dX7_set_99 : decode cX7_set 99 = .ok (.iastore, 1) := by decide +kernel
theorem dX7_set_100 : decode cX7_set 100 = .ok (.aload_n 0, 1) := by decide +kernel
theorem dX7_set_101 : decode cX7_set 101 = .ok (.getfield 16, 3) := by decide +kernel
theorem dX7_set_104 : decode cX7_set 104 = .ok (.bipush 40, 2) := by decide +kernel
theorem dX7_set_106 : decode cX7_set 106 = .ok (.iload_n 1, 1) := by decide +kernel
theorem dX7_set_107 : decode cX7_set 107 = .ok (.imul, 1) := by decide +kernel
theorem dX7_set_108 : decode cX7_set 108 = .ok (.iload_n 2, 1) := by decide +kernel
theorem dX7_set_109 : decode cX7_set 109 = .ok (.iadd, 1) := by decide +kernel
theorem dX7_set_110 : decode cX7_set 110 = .ok (.iaload, 1) := by decide +kernel
theorem dX7_set_111 : decode cX7_set 111 = .ok (.ireturn, 1) := by decide +kernel
theorem dX7_copy_0 : decode cX7_copy 0 = .ok (.aload_n 0, 1) := by decide +kernel
theorem dX7_copy_1 : decode cX7_copy 1 = .ok (.iconst 0, 1) := by decide +kernel
theorem dX7_copy_2 : decode cX7_copy 2 = .ok (.putfield 41, 3) := by decide +kernel
theorem dX7_copy_5 : decode cX7_copy 5 = .ok (.iload_n 1, 1) := by decide +kernel
theorem dX7_copy_6 : decode cX7_copy 6 = .ok (.invokestatic 55, 3) := by decide +kernel
theorem dX7_copy_9 : decode cX7_copy 9 = .ok (.ifCond .eq 10, 3) := by decide +kernel
theorem dX7_copy_12 : decode cX7_copy 12 = .ok (.iload_n 3, 1) := by decide +kernel
theorem dX7_copy_13 : decode cX7_copy 13 = .ok (.invokestatic 55, 3) := by decide +kernel
theorem dX7_copy_16 : decode cX7_copy 16 = .ok (.ifCond .ne 6, 3) := by decide +kernel
theorem dX7_copy_19 : decode cX7_copy 19 = .ok (.ldc 61, 2) := by decide +kernel
theorem dX7_copy_21 : decode cX7_copy 21 = .ok (.ireturn, 1) := by decide +kernel
theorem dX7_copy_22 : decode cX7_copy 22 = .ok (.aload_n 0, 1) := by decide +kernel
theorem dX7_copy_23 : decode cX7_copy 23 = .ok (.iconst 0, 1) := by decide +kernel
theorem dX7_copy_24 : decode cX7_copy 24 = .ok (.putfield 45, 3) := by decide +kernel
theorem dX7_copy_27 : decode cX7_copy 27 = .ok (.aload_n 0, 1) := by decide +kernel
theorem dX7_copy_28 : decode cX7_copy 28 = .ok (.getfield 7, 3) := by decide +kernel
theorem dX7_copy_31 : decode cX7_copy 31 = .ok (.iload_n 1, 1) := by decide +kernel
theorem dX7_copy_32 : decode cX7_copy 32 = .ok (.iaload, 1) := by decide +kernel
theorem dX7_copy_33 : decode cX7_copy 33 = .ok (.ifCond .lt 12, 3) := by decide +kernel
theorem dX7_copy_36 : decode cX7_copy 36 = .ok (.aload_n 0, 1) := by decide +kernel
theorem dX7_copy_37 : decode cX7_copy 37 = .ok (.getfield 7, 3) := by decide +kernel
theorem dX7_copy_40 : decode cX7_copy 40 = .ok (.iload_n 3, 1) := by decide +kernel
theorem dX7_copy_41 : decode cX7_copy 41 = .ok (.iaload, 1) := by decide +kernel
theorem dX7_copy_42 : decode cX7_copy 42 = .ok (.ifCond .ge 9, 3) := by decide +kernel
theorem dX7_copy_45 : decode cX7_copy 45 = .ok (.aload_n 0, 1) := by decide +kernel
theorem dX7_copy_46 : decode cX7_copy 46 = .ok (.iconst 1, 1) := by decide +kernel
theorem dX7_copy_47 : decode cX7_copy 47 = .ok (.invokevirtual 62, 3) := by decide +kernel
theorem dX7_copy_50 : decode cX7_copy 50 = .ok (.ireturn, 1) := by decide +kernel
theorem dX7_copy_51 : decode cX7_copy 51 = .ok (.aload_n 0, 1) := by decide +kernel
theorem dX7_copy_52 : decode cX7_copy 52 = .ok (.getfield 7, 3) := by decide +kernel
theorem dX7_copy_55 : decode cX7_copy 55 = .ok (.iload_n 1, 1) := by decide +kernel
theorem dX7_copy_56 : decode cX7_copy 56 = .ok (.iaload, 1) := by decide +kernel
theorem dX7_copy_57 : decode cX7_copy 57 = .ok (.aload_n 0, 1) := by decide +kernel
theorem dX7_copy_58 : decode cX7_copy 58 = .ok (.getfield 7, 3) := by decide +kernel
theorem dX7_copy_61 : decode cX7_copy 61 = .ok (.iload_n 3, 1) := by decide +kernel
theorem dX7_copy_62 : decode cX7_copy 62 = .ok (.iaload, 1) := by decide +kernel
theorem dX7_copy_63 : decode cX7_copy 63 = .ok (.if_icmp .eq 9, 3) := by decide +kernel
theorem dX7_copy_66 : decode cX7_copy 66 = .ok (.aload_n 0, 1) := by decide +kernel
theorem dX7_copy_67 : decode cX7_copy 67 = .ok (.iconst 5, 1) := by decide +kernel
theorem dX7_copy_68 : decode cX7_copy 68 = .ok (.invokevirtual 62, 3) := by decide +kernel
theorem dX7_copy_71 : decode cX7_copy 71 = .ok (.ireturn, 1) := by decide +kernel
theorem dX7_copy_72 : decode cX7_copy 72 = .ok (.iload_n 2, 1) := by decide +kernel
theorem dX7_copy_73 : decode cX7_copy 73 = .ok (.ifCond .lt 48, 3) := by decide +kernel
theorem dX7_copy_76 : decode cX7_copy 76 = .ok (.iload 4, 2) := by decide +kernel
theorem dX7_copy_78 : decode cX7_copy 78 = .ok (.ifCond .lt 43, 3) := by decide +kernel
theorem dX7_copy_81 : decode cX7_copy 81 = .ok (.iload 5, 2) := by decide +kernel
theorem dX7_copy_83 : decode cX7_copy 83 = .ok (.ifCond .lt 38, 3) := by decide +kernel
theorem dX7_copy_86 : decode cX7_copy 86 = .ok (.iload_n 2, 1) := by decide +kernel
theorem dX7_copy_87 : decode cX7_copy 87 = .ok (.i2l, 1) := by decide +kernel
theorem dX7_copy_88 : decode cX7_copy 88 = .ok (.iload 5, 2) := by decide +kernel
theorem dX7_copy_90 : decode cX7_copy 90 = .ok (.i2l, 1) := by decide +kernel
theorem dX7_copy_91 : decode cX7_copy 91 = .ok (.ladd, 1) := by decide +kernel
theorem dX7_copy_92 : decode cX7_copy 92 = .ok (.aload_n 0, 1) := by decide +kernel
theorem dX7_copy_93 : decode cX7_copy 93 = .ok (.getfield 13, 3) := by decide +kernel
theorem dX7_copy_96 : decode cX7_copy 96 = .ok (.iload_n 1, 1) := by decide +kernel
theorem dX7_copy_97 : decode cX7_copy 97 = .ok (.iaload, 1) := by decide +kernel
theorem dX7_copy_98 : decode cX7_copy 98 = .ok (.i2l, 1) := by decide +kernel
theorem dX7_copy_99 : decode cX7_copy 99 = .ok (.lcmp, 1) := by decide +kernel
theorem dX7_copy_100 : decode cX7_copy 100 = .ok (.ifCond .gt 21, 3) := by decide +kernel
theorem dX7_copy_103 : decode cX7_copy 103 = .ok (.iload 4, 2) := by decide +kernel
theorem dX7_copy_105 : decode cX7_copy 105 = .ok (.i2l, 1) := by decide +kernel
theorem dX7_copy_106 : decode cX7_copy 106 = .ok (.iload 5, 2) := by decide +kernel
theorem dX7_copy_108 : decode cX7_copy 108 = .ok (.i2l, 1) := by decide +kernel
theorem dX7_copy_109 : decode cX7_copy 109 = .ok (.ladd, 1) := by decide +kernel
theorem dX7_copy_110 : decode cX7_copy 110 = .ok (.aload_n 0, 1) := by decide +kernel
theorem dX7_copy_111 : decode cX7_copy 111 = .ok (.getfield 13, 3) := by decide +kernel
theorem dX7_copy_114 : decode cX7_copy 114 = .ok (.iload_n 3, 1) := by decide +kernel
theorem dX7_copy_115 : decode cX7_copy 115 = .ok (.iaload, 1) := by decide +kernel
theorem dX7_copy_116 : decode cX7_copy 116 = .ok (.i2l, 1) := by decide +kernel
theorem dX7_copy_117 : decode cX7_copy 117 = .ok (.lcmp, 1) := by decide +kernel
theorem dX7_copy_118 : decode cX7_copy 118 = .ok (.ifCond .le 9, 3) := by decide +kernel
theorem dX7_copy_121 : decode cX7_copy 121 = .ok (.aload_n 0, 1) := by decide +kernel
theorem dX7_copy_122 : decode cX7_copy 122 = .ok (.iconst 2, 1) := by decide +kernel
theorem dX7_copy_123 : decode cX7_copy 123 = .ok (.invokevirtual 62, 3) := by decide +kernel
theorem dX7_copy_126 : decode cX7_copy 126 = .ok (.ireturn, 1) := by decide +kernel
theorem dX7_copy_127 : decode cX7_copy 127 = .ok (.iload_n 2, 1) := by decide +kernel
theorem dX7_copy_128 : decode cX7_copy 128 = .ok (.iload 4, 2) := by decide +kernel
theorem dX7_copy_130 : decode cX7_copy 130 = .ok (.if_icmp .lt 7, 3) := by decide +kernel
theorem dX7_copy_133 : decode cX7_copy 133 = .ok (.iconst 1, 1) := by decide +kernel
theorem dX7_copy_134 : decode cX7_copy 134 = .ok (.goto 4, 3) := by decide +kernel
theorem dX7_copy_137 : decode cX7_copy 137 = .ok (.iconst 0, 1) := by decide +kernel
theorem dX7_copy_138 : decode cX7_copy 138 = .ok (.istore 6, 2) := by decide +kernel
theorem dX7_copy_140 : decode cX7_copy 140 = .ok (.iconst 0, 1) := by decide +kernel
theorem dX7_copy_141 : decode cX7_copy 141 = .ok (.istore 7, 2) := by decide +kernel
theorem dX7_copy_143 : decode cX7_copy 143 = .ok (.iload 7, 2) := by decide +kernel
theorem dX7_copy_145 : decode cX7_copy 145 = .ok (.iload 5, 2) := by decide +kernel
theorem dX7_copy_147 : decode cX7_copy 147 = .ok (.if_icmp .ge 57, 3) := by decide +kernel
theorem dX7_copy_150 : decode cX7_copy 150 = .ok (.iload 6, 2) := by decide +kernel
theorem dX7_copy_152 : decode cX7_copy 152 = .ok (.ifCond .eq 8, 3) := by decide +kernel
theorem dX7_copy_155 : decode cX7_copy 155 = .ok (.iload 7, 2) := by decide +kernel
theorem dX7_copy_157 : decode cX7_copy 157 = .ok (.goto 10, 3) := by decide +kernel
theorem dX7_copy_160 : decode cX7_copy 160 = .ok (.iload 5, 2) := by decide +kernel
theorem dX7_copy_162 : decode cX7_copy 162 = .ok (.iconst 1, 1) := by decide +kernel
theorem dX7_copy_163 : decode cX7_copy 163 = .ok (.isub, 1) := by decide +kernel
theorem dX7_copy_164 : decode cX7_copy 164 = .ok (.iload 7, 2) := by decide +kernel
theorem dX7_copy_166 : decode cX7_copy 166 = .ok (.isub, 1) := by decide +kernel
theorem dX7_copy_167 : decode cX7_copy 167 = .ok (.istore 8, 2) := by decide +kernel
theorem dX7_copy_169 : decode cX7_copy 169 = .ok (.aload_n 0, 1) := by decide +kernel
theorem dX7_copy_170 : decode cX7_copy 170 = .ok (.getfield 16, 3) := by decide +kernel
theorem dX7_copy_173 : decode cX7_copy 173 = .ok (.bipush 40, 2) := by decide +kernel
theorem dX7_copy_175 : decode cX7_copy 175 = .ok (.iload_n 3, 1) := by decide +kernel
theorem dX7_copy_176 : decode cX7_copy 176 = .ok (.imul, 1) := by decide +kernel
theorem dX7_copy_177 : decode cX7_copy 177 = .ok (.iload 4, 2) := by decide +kernel
theorem dX7_copy_179 : decode cX7_copy 179 = .ok (.iadd, 1) := by decide +kernel
theorem dX7_copy_180 : decode cX7_copy 180 = .ok (.iload 8, 2) := by decide +kernel
theorem dX7_copy_182 : decode cX7_copy 182 = .ok (.iadd, 1) := by decide +kernel
theorem dX7_copy_183 : decode cX7_copy 183 = .ok (.aload_n 0, 1) := by decide +kernel
theorem dX7_copy_184 : decode cX7_copy 184 = .ok (.getfield 16, 3) := by decide +kernel
theorem dX7_copy_187 : decode cX7_copy 187 = .ok (.bipush 40, 2) := by decide +kernel
theorem dX7_copy_189 : decode cX7_copy 189 = .ok (.iload_n 1, 1) := by decide +kernel
theorem dX7_copy_190 : decode cX7_copy 190 = .ok (.imul, 1) := by decide +kernel
theorem dX7_copy_191 : decode cX7_copy 191 = .ok (.iload_n 2, 1) := by decide +kernel
theorem dX7_copy_192 : decode cX7_copy 192 = .ok (.iadd, 1) := by decide +kernel
theorem dX7_copy_193 : decode cX7_copy 193 = .ok (.iload 8, 2) := by decide +kernel
theorem dX7_copy_195 : decode cX7_copy 195 = .ok (.iadd, 1) := by decide +kernel
theorem dX7_copy_196 : decode cX7_copy 196 = .ok (.iaload, 1) := by decide +kernel
theorem dX7_copy_197 : decode cX7_copy 197 = .ok (.iastore, 1) := by decide +kernel
theorem dX7_copy_198 : decode cX7_copy 198 = .ok (.iinc 7 1, 3) := by decide +kernel
theorem dX7_copy_201 : decode cX7_copy 201 = .ok (.goto (-58), 3) := by decide +kernel
theorem dX7_copy_204 : decode cX7_copy 204 = .ok (.iload 5, 2) := by decide +kernel
theorem dX7_copy_206 : decode cX7_copy 206 = .ok (.ireturn, 1) := by decide +kernel
theorem dX7_drop_0 : decode cX7_drop 0 = .ok (.aload_n 0, 1) := by decide +kernel
theorem dX7_drop_1 : decode cX7_drop 1 = .ok (.iconst 0, 1) := by decide +kernel
theorem dX7_drop_2 : decode cX7_drop 2 = .ok (.putfield 41, 3) := by decide +kernel
theorem dX7_drop_5 : decode cX7_drop 5 = .ok (.iload_n 1, 1) := by decide +kernel
theorem dX7_drop_6 : decode cX7_drop 6 = .ok (.invokestatic 55, 3) := by decide +kernel
theorem dX7_drop_9 : decode cX7_drop 9 = .ok (.ifCond .ne 6, 3) := by decide +kernel
theorem dX7_drop_12 : decode cX7_drop 12 = .ok (.ldc 61, 2) := by decide +kernel
theorem dX7_drop_14 : decode cX7_drop 14 = .ok (.ireturn, 1) := by decide +kernel
theorem dX7_drop_15 : decode cX7_drop 15 = .ok (.aload_n 0, 1) := by decide +kernel
theorem dX7_drop_16 : decode cX7_drop 16 = .ok (.iconst 0, 1) := by decide +kernel
theorem dX7_drop_17 : decode cX7_drop 17 = .ok (.putfield 45, 3) := by decide +kernel
theorem dX7_drop_20 : decode cX7_drop 20 = .ok (.aload_n 0, 1) := by decide +kernel
theorem dX7_drop_21 : decode cX7_drop 21 = .ok (.getfield 7, 3) := by decide +kernel
theorem dX7_drop_24 : decode cX7_drop 24 = .ok (.iload_n 1, 1) := by decide +kernel
theorem dX7_drop_25 : decode cX7_drop 25 = .ok (.iaload, 1) := by decide +kernel
theorem dX7_drop_26 : decode cX7_drop 26 = .ok (.ifCond .ge 9, 3) := by decide +kernel
theorem dX7_drop_29 : decode cX7_drop 29 = .ok (.aload_n 0, 1) := by decide +kernel
theorem dX7_drop_30 : decode cX7_drop 30 = .ok (.iconst 1, 1) := by decide +kernel
theorem dX7_drop_31 : decode cX7_drop 31 = .ok (.invokevirtual 62, 3) := by decide +kernel
theorem dX7_drop_34 : decode cX7_drop 34 = .ok (.ireturn, 1) := by decide +kernel
theorem dX7_drop_35 : decode cX7_drop 35 = .ok (.aload_n 0, 1) := by decide +kernel
theorem dX7_drop_36 : decode cX7_drop 36 = .ok (.getfield 7, 3) := by decide +kernel
theorem dX7_drop_39 : decode cX7_drop 39 = .ok (.iload_n 1, 1) := by decide +kernel
theorem dX7_drop_40 : decode cX7_drop 40 = .ok (.iconst (-1), 1) := by decide +kernel
theorem dX7_drop_41 : decode cX7_drop 41 = .ok (.iastore, 1) := by decide +kernel
theorem dX7_drop_42 : decode cX7_drop 42 = .ok (.aload_n 0, 1) := by decide +kernel
theorem dX7_drop_43 : decode cX7_drop 43 = .ok (.getfield 13, 3) := by decide +kernel
theorem dX7_drop_46 : decode cX7_drop 46 = .ok (.iload_n 1, 1) := by decide +kernel
theorem dX7_drop_47 : decode cX7_drop 47 = .ok (.iaload, 1) := by decide +kernel
theorem dX7_drop_48 : decode cX7_drop 48 = .ok (.ireturn, 1) := by decide +kernel
theorem dX7_feed_0 : decode cX7_feed 0 = .ok (.aload_n 0, 1) := by decide +kernel
theorem dX7_feed_1 : decode cX7_feed 1 = .ok (.iconst 0, 1) := by decide +kernel
theorem dX7_feed_2 : decode cX7_feed 2 = .ok (.putfield 41, 3) := by decide +kernel
theorem dX7_feed_5 : decode cX7_feed 5 = .ok (.iload_n 3, 1) := by decide +kernel
theorem dX7_feed_6 : decode cX7_feed 6 = .ok (.i2l, 1) := by decide +kernel
theorem dX7_feed_7 : decode cX7_feed 7 = .ok (.lconst 1, 1) := by decide +kernel
theorem dX7_feed_8 : decode cX7_feed 8 = .ok (.ldc2_w 66, 3) := by decide +kernel
theorem dX7_feed_11 : decode cX7_feed 11 = .ok (.invokestatic 51, 3) := by decide +kernel
theorem dX7_feed_14 : decode cX7_feed 14 = .ok (.ifCond .ne 6, 3) := by decide +kernel
theorem dX7_feed_17 : decode cX7_feed 17 = .ok (.ldc 61, 2) := by decide +kernel
theorem dX7_feed_19 : decode cX7_feed 19 = .ok (.ireturn, 1) := by decide +kernel
theorem dX7_feed_20 : decode cX7_feed 20 = .ok (.aload_n 0, 1) := by decide +kernel
theorem dX7_feed_21 : decode cX7_feed 21 = .ok (.getfield 68, 3) := by decide +kernel
theorem dX7_feed_24 : decode cX7_feed 24 = .ok (.iload_n 3, 1) := by decide +kernel
theorem dX7_feed_25 : decode cX7_feed 25 = .ok (.iadd, 1) := by decide +kernel
theorem dX7_feed_26 : decode cX7_feed 26 = .ok (.sipush 400, 3) := by decide +kernel
theorem dX7_feed_29 : decode cX7_feed 29 = .ok (.if_icmp .le 6, 3) := by decide +kernel
theorem dX7_feed_32 : decode cX7_feed 32 = .ok (.ldc 71, 2) := by decide +kernel
theorem dX7_feed_34 : decode cX7_feed 34 = .ok (.ireturn, 1) := by decide +kernel
theorem dX7_feed_35 : decode cX7_feed 35 = .ok (.iload_n 3, 1) := by decide +kernel
theorem dX7_feed_36 : decode cX7_feed 36 = .ok (.iconst 1, 1) := by decide +kernel
theorem dX7_feed_37 : decode cX7_feed 37 = .ok (.isub, 1) := by decide +kernel
theorem dX7_feed_38 : decode cX7_feed 38 = .ok (.istore 4, 2) := by decide +kernel
theorem dX7_feed_40 : decode cX7_feed 40 = .ok (.iload 4, 2) := by decide +kernel
theorem dX7_feed_42 : decode cX7_feed 42 = .ok (.ifCond .lt 40, 3) := by decide +kernel
theorem dX7_feed_45 : decode cX7_feed 45 = .ok (.aload_n 0, 1) := by decide +kernel
theorem dX7_feed_46 : decode cX7_feed 46 = .ok (.getfield 28, 3) := by decide +kernel
theorem dX7_feed_49 : decode cX7_feed 49 = .ok (.aload_n 0, 1) := by decide +kernel
theorem dX7_feed_50 : decode cX7_feed 50 = .ok (.getfield 68, 3) := by decide +kernel
theorem dX7_feed_53 : decode cX7_feed 53 = .ok (.lload_n 1, 1) := by decide +kernel
theorem dX7_feed_54 : decode cX7_feed 54 = .ok (.bipush 8, 2) := by decide +kernel
theorem dX7_feed_56 : decode cX7_feed 56 = .ok (.iload 4, 2) := by decide +kernel
theorem dX7_feed_58 : decode cX7_feed 58 = .ok (.imul, 1) := by decide +kernel
theorem dX7_feed_59 : decode cX7_feed 59 = .ok (.lshr, 1) := by decide +kernel
theorem dX7_feed_60 : decode cX7_feed 60 = .ok (.ldc2_w 72, 3) := by decide +kernel
theorem dX7_feed_63 : decode cX7_feed 63 = .ok (.land, 1) := by decide +kernel
theorem dX7_feed_64 : decode cX7_feed 64 = .ok (.l2i, 1) := by decide +kernel
theorem dX7_feed_65 : decode cX7_feed 65 = .ok (.iastore, 1) := by decide +kernel
theorem dX7_feed_66 : decode cX7_feed 66 = .ok (.aload_n 0, 1) := by decide +kernel
theorem dX7_feed_67 : decode cX7_feed 67 = .ok (.dup, 1) := by decide +kernel
theorem dX7_feed_68 : decode cX7_feed 68 = .ok (.getfield 68, 3) := by decide +kernel
theorem dX7_feed_71 : decode cX7_feed 71 = .ok (.iconst 1, 1) := by decide +kernel
theorem dX7_feed_72 : decode cX7_feed 72 = .ok (.iadd, 1) := by decide +kernel
theorem dX7_feed_73 : decode cX7_feed 73 = .ok (.putfield 68, 3) := by decide +kernel
theorem dX7_feed_76 : decode cX7_feed 76 = .ok (.iinc 4 (-1), 3) := by decide +kernel
theorem dX7_feed_79 : decode cX7_feed 79 = .ok (.goto (-39), 3) := by decide +kernel
theorem dX7_feed_82 : decode cX7_feed 82 = .ok (.aload_n 0, 1) := by decide +kernel
theorem dX7_feed_83 : decode cX7_feed 83 = .ok (.getfield 68, 3) := by decide +kernel
theorem dX7_feed_86 : decode cX7_feed 86 = .ok (.ireturn, 1) := by decide +kernel
theorem dX7_byteAt_0 : decode cX7_byteAt 0 = .ok (.iload_n 1, 1) := by decide +kernel
theorem dX7_byteAt_1 : decode cX7_byteAt 1 = .ok (.aload_n 0, 1) := by decide +kernel
theorem dX7_byteAt_2 : decode cX7_byteAt 2 = .ok (.getfield 74, 3) := by decide +kernel
theorem dX7_byteAt_5 : decode cX7_byteAt 5 = .ok (.if_icmp .ge 12, 3) := by decide +kernel
theorem dX7_byteAt_8 : decode cX7_byteAt 8 = .ok (.aload_n 0, 1) := by decide +kernel
theorem dX7_byteAt_9 : decode cX7_byteAt 9 = .ok (.getfield 28, 3) := by decide +kernel
theorem dX7_byteAt_12 : decode cX7_byteAt 12 = .ok (.iload_n 1, 1) := by decide +kernel
theorem dX7_byteAt_13 : decode cX7_byteAt 13 = .ok (.iaload, 1) := by decide +kernel
theorem dX7_byteAt_14 : decode cX7_byteAt 14 = .ok (.goto 5, 3) := by decide +kernel
theorem dX7_byteAt_17 : decode cX7_byteAt 17 = .ok (.ldc 77, 2) := by decide +kernel
theorem dX7_byteAt_19 : decode cX7_byteAt 19 = .ok (.ireturn, 1) := by decide +kernel
theorem dX7_isLetter_0 : decode cX7_isLetter 0 = .ok (.iload_n 0, 1) := by decide +kernel
theorem dX7_isLetter_1 : decode cX7_isLetter 1 = .ok (.bipush 97, 2) := by decide +kernel
theorem dX7_isLetter_3 : decode cX7_isLetter 3 = .ok (.if_icmp .lt 13, 3) := by decide +kernel
theorem dX7_isLetter_6 : decode cX7_isLetter 6 = .ok (.iload_n 0, 1) := by decide +kernel
theorem dX7_isLetter_7 : decode cX7_isLetter 7 = .ok (.bipush 122, 2) := by decide +kernel
theorem dX7_isLetter_9 : decode cX7_isLetter 9 = .ok (.if_icmp .gt 7, 3) := by decide +kernel
theorem dX7_isLetter_12 : decode cX7_isLetter 12 = .ok (.iconst 1, 1) := by decide +kernel
theorem dX7_isLetter_13 : decode cX7_isLetter 13 = .ok (.goto 4, 3) := by decide +kernel
theorem dX7_isLetter_16 : decode cX7_isLetter 16 = .ok (.iconst 0, 1) := by decide +kernel
theorem dX7_isLetter_17 : decode cX7_isLetter 17 = .ok (.ireturn, 1) := by decide +kernel
theorem dX7_isFigure_0 : decode cX7_isFigure 0 = .ok (.iload_n 0, 1) := by decide +kernel
theorem dX7_isFigure_1 : decode cX7_isFigure 1 = .ok (.bipush 48, 2) := by decide +kernel
theorem dX7_isFigure_3 : decode cX7_isFigure 3 = .ok (.if_icmp .lt 13, 3) := by decide +kernel
theorem dX7_isFigure_6 : decode cX7_isFigure 6 = .ok (.iload_n 0, 1) := by decide +kernel
theorem dX7_isFigure_7 : decode cX7_isFigure 7 = .ok (.bipush 57, 2) := by decide +kernel
theorem dX7_isFigure_9 : decode cX7_isFigure 9 = .ok (.if_icmp .gt 7, 3) := by decide +kernel
theorem dX7_isFigure_12 : decode cX7_isFigure 12 = .ok (.iconst 1, 1) := by decide +kernel
theorem dX7_isFigure_13 : decode cX7_isFigure 13 = .ok (.goto 4, 3) := by decide +kernel
theorem dX7_isFigure_16 : decode cX7_isFigure 16 = .ok (.iconst 0, 1) := by decide +kernel
theorem dX7_isFigure_17 : decode cX7_isFigure 17 = .ok (.ireturn, 1) := by decide +kernel
theorem dX7_next_0 : decode cX7_next 0 = .ok (.aload_n 0, 1) := by decide +kernel
theorem dX7_next_1 : decode cX7_next 1 = .ok (.aload_n 0, 1) := by decide +kernel
theorem dX7_next_2 : decode cX7_next 2 = .ok (.getfield 78, 3) := by decide +kernel
theorem dX7_next_5 : decode cX7_next 5 = .ok (.invokevirtual 81, 3) := by decide +kernel
theorem dX7_next_8 : decode cX7_next 8 = .ok (.bipush 32, 2) := by decide +kernel
theorem dX7_next_10 : decode cX7_next 10 = .ok (.if_icmp .eq 16, 3) := by decide +kernel
theorem dX7_next_13 : decode cX7_next 13 = .ok (.aload_n 0, 1) := by decide +kernel
theorem dX7_next_14 : decode cX7_next 14 = .ok (.aload_n 0, 1) := by decide +kernel
theorem dX7_next_15 : decode cX7_next 15 = .ok (.getfield 78, 3) := by decide +kernel
theorem dX7_next_18 : decode cX7_next 18 = .ok (.invokevirtual 81, 3) := by decide +kernel
theorem dX7_next_21 : decode cX7_next 21 = .ok (.bipush 10, 2) := by decide +kernel
theorem dX7_next_23 : decode cX7_next 23 = .ok (.if_icmp .ne 16, 3) := by decide +kernel
theorem dX7_next_26 : decode cX7_next 26 = .ok (.aload_n 0, 1) := by decide +kernel
theorem dX7_next_27 : decode cX7_next 27 = .ok (.dup, 1) := by decide +kernel
theorem dX7_next_28 : decode cX7_next 28 = .ok (.getfield 78, 3) := by decide +kernel
theorem dX7_next_31 : decode cX7_next 31 = .ok (.iconst 1, 1) := by decide +kernel
theorem dX7_next_32 : decode cX7_next 32 = .ok (.iadd, 1) := by decide +kernel
theorem dX7_next_33 : decode cX7_next 33 = .ok (.putfield 78, 3) := by decide +kernel
theorem dX7_next_36 : decode cX7_next 36 = .ok (.goto (-36), 3) := by decide +kernel
theorem dX7_next_39 : decode cX7_next 39 = .ok (.aload_n 0, 1) := by decide +kernel
theorem dX7_next_40 : decode cX7_next 40 = .ok (.aload_n 0, 1) := by decide +kernel
theorem dX7_next_41 : decode cX7_next 41 = .ok (.getfield 78, 3) := by decide +kernel
theorem dX7_next_44 : decode cX7_next 44 = .ok (.putfield 84, 3) := by decide +kernel
theorem dX7_next_47 : decode cX7_next 47 = .ok (.aload_n 0, 1) := by decide +kernel
theorem dX7_next_48 : decode cX7_next 48 = .ok (.aload_n 0, 1) := by decide +kernel
theorem dX7_next_49 : decode cX7_next 49 = .ok (.getfield 78, 3) := by decide +kernel
theorem dX7_next_52 : decode cX7_next 52 = .ok (.invokevirtual 81, 3) := by decide +kernel
theorem dX7_next_55 : decode cX7_next 55 = .ok (.istore_n 1, 1) := by decide +kernel
theorem dX7_next_56 : decode cX7_next 56 = .ok (.iload_n 1, 1) := by decide +kernel
theorem dX7_next_57 : decode cX7_next 57 = .ok (.ldc 77, 2) := by decide +kernel
theorem dX7_next_59 : decode cX7_next 59 = .ok (.if_icmp .ne 11, 3) := by decide +kernel
theorem dX7_next_62 : decode cX7_next 62 = .ok (.aload_n 0, 1) := by decide +kernel
theorem dX7_next_63 : decode cX7_next 63 = .ok (.iconst 1, 1) := by decide +kernel
theorem dX7_next_64 : decode cX7_next 64 = .ok (.putfield 87, 3) := by decide +kernel
theorem dX7_next_67 : decode cX7_next 67 = .ok (.goto 139, 3) := by decide +kernel
theorem dX7_next_70 : decode cX7_next 70 = .ok (.iload_n 1, 1) := by decide +kernel
theorem dX7_next_71 : decode cX7_next 71 = .ok (.invokestatic 90, 3) := by decide +kernel
theorem dX7_next_74 : decode cX7_next 74 = .ok (.ifCond .eq 38, 3) := by decide +kernel
theorem dX7_next_77 : decode cX7_next 77 = .ok (.aload_n 0, 1) := by decide +kernel
theorem dX7_next_78 : decode cX7_next 78 = .ok (.aload_n 0, 1) := by decide +kernel
theorem dX7_next_79 : decode cX7_next 79 = .ok (.getfield 78, 3) := by decide +kernel
theorem dX7_next_82 : decode cX7_next 82 = .ok (.invokevirtual 81, 3) := by decide +kernel
theorem dX7_next_85 : decode cX7_next 85 = .ok (.invokestatic 90, 3) := by decide +kernel
theorem dX7_next_88 : decode cX7_next 88 = .ok (.ifCond .eq 16, 3) := by decide +kernel
theorem dX7_next_91 : decode cX7_next 91 = .ok (.aload_n 0, 1) := by decide +kernel
theorem dX7_next_92 : decode cX7_next 92 = .ok (.dup, 1) := by decide +kernel
theorem dX7_next_93 : decode cX7_next 93 = .ok (.getfield 78, 3) := by decide +kernel
theorem dX7_next_96 : decode cX7_next 96 = .ok (.iconst 1, 1) := by decide +kernel
theorem dX7_next_97 : decode cX7_next 97 = .ok (.iadd, 1) := by decide +kernel
theorem dX7_next_98 : decode cX7_next 98 = .ok (.putfield 78, 3) := by decide +kernel
theorem dX7_next_101 : decode cX7_next 101 = .ok (.goto (-24), 3) := by decide +kernel
theorem dX7_next_104 : decode cX7_next 104 = .ok (.aload_n 0, 1) := by decide +kernel
theorem dX7_next_105 : decode cX7_next 105 = .ok (.iconst 2, 1) := by decide +kernel
theorem dX7_next_106 : decode cX7_next 106 = .ok (.putfield 87, 3) := by decide +kernel
theorem dX7_next_109 : decode cX7_next 109 = .ok (.goto 97, 3) := by decide +kernel
theorem dX7_next_112 : decode cX7_next 112 = .ok (.iload_n 1, 1) := by decide +kernel
theorem dX7_next_113 : decode cX7_next 113 = .ok (.invokestatic 93, 3) := by decide +kernel
theorem dX7_next_116 : decode cX7_next 116 = .ok (.ifCond .eq 55, 3) := by decide +kernel
theorem dX7_next_119 : decode cX7_next 119 = .ok (.aload_n 0, 1) := by decide +kernel
theorem dX7_next_120 : decode cX7_next 120 = .ok (.aload_n 0, 1) := by decide +kernel
theorem dX7_next_121 : decode cX7_next 121 = .ok (.getfield 78, 3) := by decide +kernel
theorem dX7_next_124 : decode cX7_next 124 = .ok (.invokevirtual 81, 3) := by decide +kernel
theorem dX7_next_127 : decode cX7_next 127 = .ok (.invokestatic 93, 3) := by decide +kernel
theorem dX7_next_130 : decode cX7_next 130 = .ok (.ifCond .eq 16, 3) := by decide +kernel
theorem dX7_next_133 : decode cX7_next 133 = .ok (.aload_n 0, 1) := by decide +kernel
theorem dX7_next_134 : decode cX7_next 134 = .ok (.dup, 1) := by decide +kernel
theorem dX7_next_135 : decode cX7_next 135 = .ok (.getfield 78, 3) := by decide +kernel
theorem dX7_next_138 : decode cX7_next 138 = .ok (.iconst 1, 1) := by decide +kernel
theorem dX7_next_139 : decode cX7_next 139 = .ok (.iadd, 1) := by decide +kernel
theorem dX7_next_140 : decode cX7_next 140 = .ok (.putfield 78, 3) := by decide +kernel
theorem dX7_next_143 : decode cX7_next 143 = .ok (.goto (-24), 3) := by decide +kernel
theorem dX7_next_146 : decode cX7_next 146 = .ok (.aload_n 0, 1) := by decide +kernel
theorem dX7_next_147 : decode cX7_next 147 = .ok (.aload_n 0, 1) := by decide +kernel
theorem dX7_next_148 : decode cX7_next 148 = .ok (.getfield 78, 3) := by decide +kernel
theorem dX7_next_151 : decode cX7_next 151 = .ok (.aload_n 0, 1) := by decide +kernel
theorem dX7_next_152 : decode cX7_next 152 = .ok (.getfield 84, 3) := by decide +kernel
theorem dX7_next_155 : decode cX7_next 155 = .ok (.isub, 1) := by decide +kernel
theorem dX7_next_156 : decode cX7_next 156 = .ok (.iconst 3, 1) := by decide +kernel
theorem dX7_next_157 : decode cX7_next 157 = .ok (.if_icmp .le 7, 3) := by decide +kernel
theorem dX7_next_160 : decode cX7_next 160 = .ok (.iconst 0, 1) := by decide +kernel
end
section
theorem dX7_next_161 : decode cX7_next 161 = .ok (.goto 4, 3) := by decide +kernel
theorem dX7_next_164 : decode cX7_next 164 = .ok (.iconst 3, 1) := by decide +kernel
theorem dX7_next_165 : decode cX7_next 165 = .ok (.putfield 87, 3) := by decide +kernel
theorem dX7_next_168 : decode cX7_next 168 = .ok (.goto 38, 3) := by decide +kernel
theorem dX7_next_171 : decode cX7_next 171 = .ok (.aload_n 0, 1) := by decide +kernel
theorem dX7_next_172 : decode cX7_next 172 = .ok (.dup, 1) := by decide +kernel
theorem dX7_next_173 : decode cX7_next 173 = .ok (.getfield 78, 3) := by decide +kernel
theorem dX7_next_176 : decode cX7_next 176 = .ok (.iconst 1, 1) := by decide +kernel
theorem dX7_next_177 : decode cX7_next 177 = .ok (.iadd, 1) := by decide +kernel
theorem dX7_next_178 : decode cX7_next 178 = .ok (.putfield 78, 3) := by decide +kernel
theorem dX7_next_181 : decode cX7_next 181 = .ok (.aload_n 0, 1) := by decide +kernel
theorem dX7_next_182 : decode cX7_next 182 = .ok (.iload_n 1, 1) := by decide +kernel
theorem dX7_next_183 : decode cX7_next 183 = .ok (.bipush 59, 2) := by decide +kernel
theorem dX7_next_185 : decode cX7_next 185 = .ok (.if_icmp .ne 7, 3) := by decide +kernel
theorem dX7_next_188 : decode cX7_next 188 = .ok (.iconst 4, 1) := by decide +kernel
theorem dX7_next_189 : decode cX7_next 189 = .ok (.goto 14, 3) := by decide +kernel
theorem dX7_next_192 : decode cX7_next 192 = .ok (.iload_n 1, 1) := by decide +kernel
theorem dX7_next_193 : decode cX7_next 193 = .ok (.bipush 47, 2) := by decide +kernel
theorem dX7_next_195 : decode cX7_next 195 = .ok (.if_icmp .ne 7, 3) := by decide +kernel
theorem dX7_next_198 : decode cX7_next 198 = .ok (.iconst 5, 1) := by decide +kernel
theorem dX7_next_199 : decode cX7_next 199 = .ok (.goto 4, 3) := by decide +kernel
theorem dX7_next_202 : decode cX7_next 202 = .ok (.iconst 0, 1) := by decide +kernel
theorem dX7_next_203 : decode cX7_next 203 = .ok (.putfield 87, 3) := by decide +kernel
theorem dX7_next_206 : decode cX7_next 206 = .ok (.aload_n 0, 1) := by decide +kernel
theorem dX7_next_207 : decode cX7_next 207 = .ok (.aload_n 0, 1) := by decide +kernel
theorem dX7_next_208 : decode cX7_next 208 = .ok (.getfield 78, 3) := by decide +kernel
theorem dX7_next_211 : decode cX7_next 211 = .ok (.putfield 96, 3) := by decide +kernel
theorem dX7_next_214 : decode cX7_next 214 = .ok (.return_, 1) := by decide +kernel
theorem dX7_begin_0 : decode cX7_begin 0 = .ok (.aload_n 0, 1) := by decide +kernel
theorem dX7_begin_1 : decode cX7_begin 1 = .ok (.aload_n 0, 1) := by decide +kernel
theorem dX7_begin_2 : decode cX7_begin 2 = .ok (.getfield 68, 3) := by decide +kernel
theorem dX7_begin_5 : decode cX7_begin 5 = .ok (.putfield 74, 3) := by decide +kernel
theorem dX7_begin_8 : decode cX7_begin 8 = .ok (.aload_n 0, 1) := by decide +kernel
theorem dX7_begin_9 : decode cX7_begin 9 = .ok (.iconst 0, 1) := by decide +kernel
theorem dX7_begin_10 : decode cX7_begin 10 = .ok (.putfield 68, 3) := by decide +kernel
theorem dX7_begin_13 : decode cX7_begin 13 = .ok (.aload_n 0, 1) := by decide +kernel
theorem dX7_begin_14 : decode cX7_begin 14 = .ok (.iconst 0, 1) := by decide +kernel
theorem dX7_begin_15 : decode cX7_begin 15 = .ok (.putfield 78, 3) := by decide +kernel
theorem dX7_begin_18 : decode cX7_begin 18 = .ok (.aload_n 0, 1) := by decide +kernel
theorem dX7_begin_19 : decode cX7_begin 19 = .ok (.iconst 0, 1) := by decide +kernel
theorem dX7_begin_20 : decode cX7_begin 20 = .ok (.putfield 99, 3) := by decide +kernel
theorem dX7_begin_23 : decode cX7_begin 23 = .ok (.aload_n 0, 1) := by decide +kernel
theorem dX7_begin_24 : decode cX7_begin 24 = .ok (.invokevirtual 102, 3) := by decide +kernel
theorem dX7_begin_27 : decode cX7_begin 27 = .ok (.return_, 1) := by decide +kernel
theorem dX7_bad_0 : decode cX7_bad 0 = .ok (.aload_n 0, 1) := by decide +kernel
theorem dX7_bad_1 : decode cX7_bad 1 = .ok (.getfield 99, 3) := by decide +kernel
theorem dX7_bad_4 : decode cX7_bad 4 = .ok (.ifCond .ne 16, 3) := by decide +kernel
theorem dX7_bad_7 : decode cX7_bad 7 = .ok (.aload_n 0, 1) := by decide +kernel
theorem dX7_bad_8 : decode cX7_bad 8 = .ok (.iload_n 1, 1) := by decide +kernel
theorem dX7_bad_9 : decode cX7_bad 9 = .ok (.putfield 99, 3) := by decide +kernel
theorem dX7_bad_12 : decode cX7_bad 12 = .ok (.aload_n 0, 1) := by decide +kernel
theorem dX7_bad_13 : decode cX7_bad 13 = .ok (.aload_n 0, 1) := by decide +kernel
theorem dX7_bad_14 : decode cX7_bad 14 = .ok (.getfield 84, 3) := by decide +kernel
theorem dX7_bad_17 : decode cX7_bad 17 = .ok (.putfield 105, 3) := by decide +kernel
theorem dX7_bad_20 : decode cX7_bad 20 = .ok (.return_, 1) := by decide +kernel
theorem dX7_must_0 : decode cX7_must 0 = .ok (.iload_n 1, 1) := by decide +kernel
theorem dX7_must_1 : decode cX7_must 1 = .ok (.ifCond .ne 8, 3) := by decide +kernel
theorem dX7_must_4 : decode cX7_must 4 = .ok (.aload_n 0, 1) := by decide +kernel
theorem dX7_must_5 : decode cX7_must 5 = .ok (.iconst 1, 1) := by decide +kernel
theorem dX7_must_6 : decode cX7_must 6 = .ok (.invokevirtual 108, 3) := by decide +kernel
theorem dX7_must_9 : decode cX7_must 9 = .ok (.aload_n 0, 1) := by decide +kernel
theorem dX7_must_10 : decode cX7_must 10 = .ok (.getfield 99, 3) := by decide +kernel
theorem dX7_must_13 : decode cX7_must 13 = .ok (.ifCond .ne 7, 3) := by decide +kernel
theorem dX7_must_16 : decode cX7_must 16 = .ok (.aload_n 0, 1) := by decide +kernel
theorem dX7_must_17 : decode cX7_must 17 = .ok (.invokevirtual 102, 3) := by decide +kernel
theorem dX7_must_20 : decode cX7_must 20 = .ok (.return_, 1) := by decide +kernel
theorem dX7_name_0 : decode cX7_name 0 = .ok (.lconst 0, 1) := by decide +kernel
theorem dX7_name_1 : decode cX7_name 1 = .ok (.lstore_n 1, 1) := by decide +kernel
theorem dX7_name_2 : decode cX7_name 2 = .ok (.aload_n 0, 1) := by decide +kernel
theorem dX7_name_3 : decode cX7_name 3 = .ok (.getfield 84, 3) := by decide +kernel
theorem dX7_name_6 : decode cX7_name 6 = .ok (.istore_n 3, 1) := by decide +kernel
theorem dX7_name_7 : decode cX7_name 7 = .ok (.iload_n 3, 1) := by decide +kernel
theorem dX7_name_8 : decode cX7_name 8 = .ok (.aload_n 0, 1) := by decide +kernel
theorem dX7_name_9 : decode cX7_name 9 = .ok (.getfield 96, 3) := by decide +kernel
theorem dX7_name_12 : decode cX7_name 12 = .ok (.if_icmp .ge 44, 3) := by decide +kernel
theorem dX7_name_15 : decode cX7_name 15 = .ok (.aload_n 0, 1) := by decide +kernel
theorem dX7_name_16 : decode cX7_name 16 = .ok (.getfield 87, 3) := by decide +kernel
theorem dX7_name_19 : decode cX7_name 19 = .ok (.iconst 2, 1) := by decide +kernel
theorem dX7_name_20 : decode cX7_name 20 = .ok (.if_icmp .ne 36, 3) := by decide +kernel
theorem dX7_name_23 : decode cX7_name 23 = .ok (.aload_n 0, 1) := by decide +kernel
theorem dX7_name_24 : decode cX7_name 24 = .ok (.getfield 96, 3) := by decide +kernel
theorem dX7_name_27 : decode cX7_name 27 = .ok (.aload_n 0, 1) := by decide +kernel
theorem dX7_name_28 : decode cX7_name 28 = .ok (.getfield 84, 3) := by decide +kernel
theorem dX7_name_31 : decode cX7_name 31 = .ok (.isub, 1) := by decide +kernel
theorem dX7_name_32 : decode cX7_name 32 = .ok (.bipush 8, 2) := by decide +kernel
theorem dX7_name_34 : decode cX7_name 34 = .ok (.if_icmp .ge 22, 3) := by decide +kernel
theorem dX7_name_37 : decode cX7_name 37 = .ok (.lload_n 1, 1) := by decide +kernel
theorem dX7_name_38 : decode cX7_name 38 = .ok (.bipush 8, 2) := by decide +kernel
theorem dX7_name_40 : decode cX7_name 40 = .ok (.lshl, 1) := by decide +kernel
theorem dX7_name_41 : decode cX7_name 41 = .ok (.aload_n 0, 1) := by decide +kernel
theorem dX7_name_42 : decode cX7_name 42 = .ok (.getfield 28, 3) := by decide +kernel
theorem dX7_name_45 : decode cX7_name 45 = .ok (.iload_n 3, 1) := by decide +kernel
theorem dX7_name_46 : decode cX7_name 46 = .ok (.iaload, 1) := by decide +kernel
theorem dX7_name_47 : decode cX7_name 47 = .ok (.i2l, 1) := by decide +kernel
theorem dX7_name_48 : decode cX7_name 48 = .ok (.lor, 1) := by decide +kernel
theorem dX7_name_49 : decode cX7_name 49 = .ok (.lstore_n 1, 1) := by decide +kernel
theorem dX7_name_50 : decode cX7_name 50 = .ok (.iinc 3 1, 3) := by decide +kernel
theorem dX7_name_53 : decode cX7_name 53 = .ok (.goto (-46), 3) := by decide +kernel
theorem dX7_name_56 : decode cX7_name 56 = .ok (.aload_n 0, 1) := by decide +kernel
theorem dX7_name_57 : decode cX7_name 57 = .ok (.getfield 99, 3) := by decide +kernel
theorem dX7_name_60 : decode cX7_name 60 = .ok (.ifCond .ne 7, 3) := by decide +kernel
theorem dX7_name_63 : decode cX7_name 63 = .ok (.lload_n 1, 1) := by decide +kernel
theorem dX7_name_64 : decode cX7_name 64 = .ok (.goto 4, 3) := by decide +kernel
theorem dX7_name_67 : decode cX7_name 67 = .ok (.lconst 0, 1) := by decide +kernel
theorem dX7_name_68 : decode cX7_name 68 = .ok (.lreturn, 1) := by decide +kernel
theorem dX7_figures_0 : decode cX7_figures 0 = .ok (.iconst 0, 1) := by decide +kernel
theorem dX7_figures_1 : decode cX7_figures 1 = .ok (.istore_n 1, 1) := by decide +kernel
theorem dX7_figures_2 : decode cX7_figures 2 = .ok (.aload_n 0, 1) := by decide +kernel
theorem dX7_figures_3 : decode cX7_figures 3 = .ok (.getfield 84, 3) := by decide +kernel
theorem dX7_figures_6 : decode cX7_figures 6 = .ok (.istore_n 2, 1) := by decide +kernel
theorem dX7_figures_7 : decode cX7_figures 7 = .ok (.iload_n 2, 1) := by decide +kernel
theorem dX7_figures_8 : decode cX7_figures 8 = .ok (.aload_n 0, 1) := by decide +kernel
theorem dX7_figures_9 : decode cX7_figures 9 = .ok (.getfield 96, 3) := by decide +kernel
theorem dX7_figures_12 : decode cX7_figures 12 = .ok (.if_icmp .ge 32, 3) := by decide +kernel
theorem dX7_figures_15 : decode cX7_figures 15 = .ok (.aload_n 0, 1) := by decide +kernel
theorem dX7_figures_16 : decode cX7_figures 16 = .ok (.getfield 87, 3) := by decide +kernel
theorem dX7_figures_19 : decode cX7_figures 19 = .ok (.iconst 3, 1) := by decide +kernel
theorem dX7_figures_20 : decode cX7_figures 20 = .ok (.if_icmp .ne 24, 3) := by decide +kernel
theorem dX7_figures_23 : decode cX7_figures 23 = .ok (.bipush 10, 2) := by decide +kernel
theorem dX7_figures_25 : decode cX7_figures 25 = .ok (.iload_n 1, 1) := by decide +kernel
theorem dX7_figures_26 : decode cX7_figures 26 = .ok (.imul, 1) := by decide +kernel
theorem dX7_figures_27 : decode cX7_figures 27 = .ok (.aload_n 0, 1) := by decide +kernel
theorem dX7_figures_28 : decode cX7_figures 28 = .ok (.getfield 28, 3) := by decide +kernel
theorem dX7_figures_31 : decode cX7_figures 31 = .ok (.iload_n 2, 1) := by decide +kernel
theorem dX7_figures_32 : decode cX7_figures 32 = .ok (.iaload, 1) := by decide +kernel
theorem dX7_figures_33 : decode cX7_figures 33 = .ok (.iadd, 1) := by decide +kernel
theorem dX7_figures_34 : decode cX7_figures 34 = .ok (.bipush 48, 2) := by decide +kernel
theorem dX7_figures_36 : decode cX7_figures 36 = .ok (.isub, 1) := by decide +kernel
theorem dX7_figures_37 : decode cX7_figures 37 = .ok (.istore_n 1, 1) := by decide +kernel
theorem dX7_figures_38 : decode cX7_figures 38 = .ok (.iinc 2 1, 3) := by decide +kernel
theorem dX7_figures_41 : decode cX7_figures 41 = .ok (.goto (-34), 3) := by decide +kernel
theorem dX7_figures_44 : decode cX7_figures 44 = .ok (.iload_n 1, 1) := by decide +kernel
theorem dX7_figures_45 : decode cX7_figures 45 = .ok (.ireturn, 1) := by decide +kernel
theorem dX7_number_0 : decode cX7_number 0 = .ok (.aload_n 0, 1) := by decide +kernel
theorem dX7_number_1 : decode cX7_number 1 = .ok (.getfield 99, 3) := by decide +kernel
theorem dX7_number_4 : decode cX7_number 4 = .ok (.ifCond .le 5, 3) := by decide +kernel
theorem dX7_number_7 : decode cX7_number 7 = .ok (.iconst 0, 1) := by decide +kernel
theorem dX7_number_8 : decode cX7_number 8 = .ok (.ireturn, 1) := by decide +kernel
theorem dX7_number_9 : decode cX7_number 9 = .ok (.aload_n 0, 1) := by decide +kernel
theorem dX7_number_10 : decode cX7_number 10 = .ok (.invokevirtual 112, 3) := by decide +kernel
theorem dX7_number_13 : decode cX7_number 13 = .ok (.istore_n 3, 1) := by decide +kernel
theorem dX7_number_14 : decode cX7_number 14 = .ok (.aload_n 0, 1) := by decide +kernel
theorem dX7_number_15 : decode cX7_number 15 = .ok (.getfield 87, 3) := by decide +kernel
theorem dX7_number_18 : decode cX7_number 18 = .ok (.iconst 3, 1) := by decide +kernel
theorem dX7_number_19 : decode cX7_number 19 = .ok (.if_icmp .ne 20, 3) := by decide +kernel
theorem dX7_number_22 : decode cX7_number 22 = .ok (.iload_n 3, 1) := by decide +kernel
theorem dX7_number_23 : decode cX7_number 23 = .ok (.i2l, 1) := by decide +kernel
theorem dX7_number_24 : decode cX7_number 24 = .ok (.iload_n 1, 1) := by decide +kernel
theorem dX7_number_25 : decode cX7_number 25 = .ok (.i2l, 1) := by decide +kernel
theorem dX7_number_26 : decode cX7_number 26 = .ok (.iload_n 2, 1) := by decide +kernel
theorem dX7_number_27 : decode cX7_number 27 = .ok (.i2l, 1) := by decide +kernel
theorem dX7_number_28 : decode cX7_number 28 = .ok (.invokestatic 51, 3) := by decide +kernel
theorem dX7_number_31 : decode cX7_number 31 = .ok (.ifCond .ne 8, 3) := by decide +kernel
theorem dX7_number_34 : decode cX7_number 34 = .ok (.aload_n 0, 1) := by decide +kernel
theorem dX7_number_35 : decode cX7_number 35 = .ok (.iconst 2, 1) := by decide +kernel
theorem dX7_number_36 : decode cX7_number 36 = .ok (.invokevirtual 108, 3) := by decide +kernel
theorem dX7_number_39 : decode cX7_number 39 = .ok (.aload_n 0, 1) := by decide +kernel
theorem dX7_number_40 : decode cX7_number 40 = .ok (.aload_n 0, 1) := by decide +kernel
theorem dX7_number_41 : decode cX7_number 41 = .ok (.getfield 87, 3) := by decide +kernel
theorem dX7_number_44 : decode cX7_number 44 = .ok (.iconst 3, 1) := by decide +kernel
theorem dX7_number_45 : decode cX7_number 45 = .ok (.if_icmp .ne 7, 3) := by decide +kernel
theorem dX7_number_48 : decode cX7_number 48 = .ok (.iconst 1, 1) := by decide +kernel
theorem dX7_number_49 : decode cX7_number 49 = .ok (.goto 4, 3) := by decide +kernel
theorem dX7_number_52 : decode cX7_number 52 = .ok (.iconst 0, 1) := by decide +kernel
theorem dX7_number_53 : decode cX7_number 53 = .ok (.invokevirtual 116, 3) := by decide +kernel
theorem dX7_number_56 : decode cX7_number 56 = .ok (.iload_n 3, 1) := by decide +kernel
theorem dX7_number_57 : decode cX7_number 57 = .ok (.ireturn, 1) := by decide +kernel
theorem dX7_kindBy_0 : decode cX7_kindBy 0 = .ok (.lload_n 0, 1) := by decide +kernel
theorem dX7_kindBy_1 : decode cX7_kindBy 1 = .ok (.ldc2_w 120, 3) := by decide +kernel
theorem dX7_kindBy_4 : decode cX7_kindBy 4 = .ok (.lcmp, 1) := by decide +kernel
theorem dX7_kindBy_5 : decode cX7_kindBy 5 = .ok (.ifCond .ne 7, 3) := by decide +kernel
theorem dX7_kindBy_8 : decode cX7_kindBy 8 = .ok (.iconst 1, 1) := by decide +kernel
theorem dX7_kindBy_9 : decode cX7_kindBy 9 = .ok (.goto 53, 3) := by decide +kernel
theorem dX7_kindBy_12 : decode cX7_kindBy 12 = .ok (.lload_n 0, 1) := by decide +kernel
theorem dX7_kindBy_13 : decode cX7_kindBy 13 = .ok (.ldc2_w 122, 3) := by decide +kernel
theorem dX7_kindBy_16 : decode cX7_kindBy 16 = .ok (.lcmp, 1) := by decide +kernel
theorem dX7_kindBy_17 : decode cX7_kindBy 17 = .ok (.ifCond .ne 7, 3) := by decide +kernel
theorem dX7_kindBy_20 : decode cX7_kindBy 20 = .ok (.iconst 2, 1) := by decide +kernel
theorem dX7_kindBy_21 : decode cX7_kindBy 21 = .ok (.goto 41, 3) := by decide +kernel
theorem dX7_kindBy_24 : decode cX7_kindBy 24 = .ok (.lload_n 0, 1) := by decide +kernel
theorem dX7_kindBy_25 : decode cX7_kindBy 25 = .ok (.ldc2_w 124, 3) := by decide +kernel
theorem dX7_kindBy_28 : decode cX7_kindBy 28 = .ok (.lcmp, 1) := by decide +kernel
theorem dX7_kindBy_29 : decode cX7_kindBy 29 = .ok (.ifCond .ne 7, 3) := by decide +kernel
theorem dX7_kindBy_32 : decode cX7_kindBy 32 = .ok (.iconst 3, 1) := by decide +kernel
theorem dX7_kindBy_33 : decode cX7_kindBy 33 = .ok (.goto 29, 3) := by decide +kernel
theorem dX7_kindBy_36 : decode cX7_kindBy 36 = .ok (.lload_n 0, 1) := by decide +kernel
theorem dX7_kindBy_37 : decode cX7_kindBy 37 = .ok (.ldc2_w 126, 3) := by decide +kernel
theorem dX7_kindBy_40 : decode cX7_kindBy 40 = .ok (.lcmp, 1) := by decide +kernel
theorem dX7_kindBy_41 : decode cX7_kindBy 41 = .ok (.ifCond .ne 7, 3) := by decide +kernel
theorem dX7_kindBy_44 : decode cX7_kindBy 44 = .ok (.iconst 4, 1) := by decide +kernel
theorem dX7_kindBy_45 : decode cX7_kindBy 45 = .ok (.goto 17, 3) := by decide +kernel
theorem dX7_kindBy_48 : decode cX7_kindBy 48 = .ok (.lload_n 0, 1) := by decide +kernel
theorem dX7_kindBy_49 : decode cX7_kindBy 49 = .ok (.ldc2_w 128, 3) := by decide +kernel
theorem dX7_kindBy_52 : decode cX7_kindBy 52 = .ok (.lcmp, 1) := by decide +kernel
theorem dX7_kindBy_53 : decode cX7_kindBy 53 = .ok (.ifCond .ne 7, 3) := by decide +kernel
theorem dX7_kindBy_56 : decode cX7_kindBy 56 = .ok (.iconst 5, 1) := by decide +kernel
theorem dX7_kindBy_57 : decode cX7_kindBy 57 = .ok (.goto 5, 3) := by decide +kernel
theorem dX7_kindBy_60 : decode cX7_kindBy 60 = .ok (.ldc 77, 2) := by decide +kernel
theorem dX7_kindBy_62 : decode cX7_kindBy 62 = .ok (.ireturn, 1) := by decide +kernel
theorem dX7_mustEnd_0 : decode cX7_mustEnd 0 = .ok (.aload_n 0, 1) := by decide +kernel
theorem dX7_mustEnd_1 : decode cX7_mustEnd 1 = .ok (.getfield 99, 3) := by decide +kernel
theorem dX7_mustEnd_4 : decode cX7_mustEnd 4 = .ok (.ifCond .ne 20, 3) := by decide +kernel
theorem dX7_mustEnd_7 : decode cX7_mustEnd 7 = .ok (.aload_n 0, 1) := by decide +kernel
theorem dX7_mustEnd_8 : decode cX7_mustEnd 8 = .ok (.aload_n 0, 1) := by decide +kernel
theorem dX7_mustEnd_9 : decode cX7_mustEnd 9 = .ok (.getfield 87, 3) := by decide +kernel
theorem dX7_mustEnd_12 : decode cX7_mustEnd 12 = .ok (.iconst 4, 1) := by decide +kernel
theorem dX7_mustEnd_13 : decode cX7_mustEnd 13 = .ok (.if_icmp .ne 7, 3) := by decide +kernel
theorem dX7_mustEnd_16 : decode cX7_mustEnd 16 = .ok (.iconst 1, 1) := by decide +kernel
theorem dX7_mustEnd_17 : decode cX7_mustEnd 17 = .ok (.goto 4, 3) := by decide +kernel
theorem dX7_mustEnd_20 : decode cX7_mustEnd 20 = .ok (.iconst 0, 1) := by decide +kernel
theorem dX7_mustEnd_21 : decode cX7_mustEnd 21 = .ok (.invokevirtual 116, 3) := by decide +kernel
theorem dX7_mustEnd_24 : decode cX7_mustEnd 24 = .ok (.return_, 1) := by decide +kernel
theorem dX7_readLetter_0 : decode cX7_readLetter 0 = .ok (.aload_n 0, 1) := by decide +kernel
theorem dX7_readLetter_1 : decode cX7_readLetter 1 = .ok (.getfield 22, 3) := by decide +kernel
theorem dX7_readLetter_4 : decode cX7_readLetter 4 = .ok (.iconst 1, 1) := by decide +kernel
theorem dX7_readLetter_5 : decode cX7_readLetter 5 = .ok (.iaload, 1) := by decide +kernel
theorem dX7_readLetter_6 : decode cX7_readLetter 6 = .ok (.bipush 8, 2) := by decide +kernel
theorem dX7_readLetter_8 : decode cX7_readLetter 8 = .ok (.if_icmp .ne 8, 3) := by decide +kernel
theorem dX7_readLetter_11 : decode cX7_readLetter 11 = .ok (.aload_n 0, 1) := by decide +kernel
theorem dX7_readLetter_12 : decode cX7_readLetter 12 = .ok (.iconst 3, 1) := by decide +kernel
theorem dX7_readLetter_13 : decode cX7_readLetter 13 = .ok (.invokevirtual 108, 3) := by decide +kernel
theorem dX7_readLetter_16 : decode cX7_readLetter 16 = .ok (.aload_n 0, 1) := by decide +kernel
theorem dX7_readLetter_17 : decode cX7_readLetter 17 = .ok (.iconst 1, 1) := by decide +kernel
theorem dX7_readLetter_18 : decode cX7_readLetter 18 = .ok (.invokevirtual 116, 3) := by decide +kernel
theorem dX7_readLetter_21 : decode cX7_readLetter 21 = .ok (.aload_n 0, 1) := by decide +kernel
theorem dX7_readLetter_22 : decode cX7_readLetter 22 = .ok (.invokevirtual 130, 3) := by decide +kernel
theorem dX7_readLetter_25 : decode cX7_readLetter 25 = .ok (.invokestatic 134, 3) := by decide +kernel
theorem dX7_readLetter_28 : decode cX7_readLetter 28 = .ok (.istore_n 1, 1) := by decide +kernel
theorem dX7_readLetter_29 : decode cX7_readLetter 29 = .ok (.aload_n 0, 1) := by decide +kernel
theorem dX7_readLetter_30 : decode cX7_readLetter 30 = .ok (.getfield 99, 3) := by decide +kernel
theorem dX7_readLetter_33 : decode cX7_readLetter 33 = .ok (.ifCond .ne 18, 3) := by decide +kernel
theorem dX7_readLetter_36 : decode cX7_readLetter 36 = .ok (.aload_n 0, 1) := by decide +kernel
theorem dX7_readLetter_37 : decode cX7_readLetter 37 = .ok (.iload_n 1, 1) := by decide +kernel
theorem dX7_readLetter_38 : decode cX7_readLetter 38 = .ok (.ldc 77, 2) := by decide +kernel
theorem dX7_readLetter_40 : decode cX7_readLetter 40 = .ok (.if_icmp .eq 7, 3) := by decide +kernel
theorem dX7_readLetter_43 : decode cX7_readLetter 43 = .ok (.iconst 1, 1) := by decide +kernel
theorem dX7_readLetter_44 : decode cX7_readLetter 44 = .ok (.goto 4, 3) := by decide +kernel
theorem dX7_readLetter_47 : decode cX7_readLetter 47 = .ok (.iconst 0, 1) := by decide +kernel
theorem dX7_readLetter_48 : decode cX7_readLetter 48 = .ok (.invokevirtual 116, 3) := by decide +kernel
theorem dX7_readLetter_51 : decode cX7_readLetter 51 = .ok (.aload_n 0, 1) := by decide +kernel
theorem dX7_readLetter_52 : decode cX7_readLetter 52 = .ok (.iconst 0, 1) := by decide +kernel
theorem dX7_readLetter_53 : decode cX7_readLetter 53 = .ok (.sipush 511, 3) := by decide +kernel
theorem dX7_readLetter_56 : decode cX7_readLetter 56 = .ok (.invokevirtual 138, 3) := by decide +kernel
theorem dX7_readLetter_59 : decode cX7_readLetter 59 = .ok (.istore_n 2, 1) := by decide +kernel
theorem dX7_readLetter_60 : decode cX7_readLetter 60 = .ok (.aload_n 0, 1) := by decide +kernel
theorem dX7_readLetter_61 : decode cX7_readLetter 61 = .ok (.invokevirtual 142, 3) := by decide +kernel
theorem dX7_readLetter_64 : decode cX7_readLetter 64 = .ok (.aload_n 0, 1) := by decide +kernel
theorem dX7_readLetter_65 : decode cX7_readLetter 65 = .ok (.getfield 99, 3) := by decide +kernel
theorem dX7_readLetter_68 : decode cX7_readLetter 68 = .ok (.ifCond .ne 47, 3) := by decide +kernel
theorem dX7_readLetter_71 : decode cX7_readLetter 71 = .ok (.aload_n 0, 1) := by decide +kernel
theorem dX7_readLetter_72 : decode cX7_readLetter 72 = .ok (.getfield 22, 3) := by decide +kernel
theorem dX7_readLetter_75 : decode cX7_readLetter 75 = .ok (.iconst 3, 1) := by decide +kernel
theorem dX7_readLetter_76 : decode cX7_readLetter 76 = .ok (.iconst 2, 1) := by decide +kernel
theorem dX7_readLetter_77 : decode cX7_readLetter 77 = .ok (.aload_n 0, 1) := by decide +kernel
theorem dX7_readLetter_78 : decode cX7_readLetter 78 = .ok (.getfield 22, 3) := by decide +kernel
theorem dX7_readLetter_81 : decode cX7_readLetter 81 = .ok (.iconst 1, 1) := by decide +kernel
theorem dX7_readLetter_82 : decode cX7_readLetter 82 = .ok (.iaload, 1) := by decide +kernel
theorem dX7_readLetter_83 : decode cX7_readLetter 83 = .ok (.imul, 1) := by decide +kernel
theorem dX7_readLetter_84 : decode cX7_readLetter 84 = .ok (.iadd, 1) := by decide +kernel
theorem dX7_readLetter_85 : decode cX7_readLetter 85 = .ok (.iload_n 1, 1) := by decide +kernel
theorem dX7_readLetter_86 : decode cX7_readLetter 86 = .ok (.iastore, 1) := by decide +kernel
theorem dX7_readLetter_87 : decode cX7_readLetter 87 = .ok (.aload_n 0, 1) := by decide +kernel
theorem dX7_readLetter_88 : decode cX7_readLetter 88 = .ok (.getfield 22, 3) := by decide +kernel
theorem dX7_readLetter_91 : decode cX7_readLetter 91 = .ok (.iconst 3, 1) := by decide +kernel
theorem dX7_readLetter_92 : decode cX7_readLetter 92 = .ok (.iconst 2, 1) := by decide +kernel
theorem dX7_readLetter_93 : decode cX7_readLetter 93 = .ok (.aload_n 0, 1) := by decide +kernel
theorem dX7_readLetter_94 : decode cX7_readLetter 94 = .ok (.getfield 22, 3) := by decide +kernel
theorem dX7_readLetter_97 : decode cX7_readLetter 97 = .ok (.iconst 1, 1) := by decide +kernel
theorem dX7_readLetter_98 : decode cX7_readLetter 98 = .ok (.iaload, 1) := by decide +kernel
theorem dX7_readLetter_99 : decode cX7_readLetter 99 = .ok (.imul, 1) := by decide +kernel
theorem dX7_readLetter_100 : decode cX7_readLetter 100 = .ok (.iadd, 1) := by decide +kernel
theorem dX7_readLetter_101 : decode cX7_readLetter 101 = .ok (.iconst 1, 1) := by decide +kernel
theorem dX7_readLetter_102 : decode cX7_readLetter 102 = .ok (.iadd, 1) := by decide +kernel
theorem dX7_readLetter_103 : decode cX7_readLetter 103 = .ok (.iload_n 2, 1) := by decide +kernel
theorem dX7_readLetter_104 : decode cX7_readLetter 104 = .ok (.iastore, 1) := by decide +kernel
theorem dX7_readLetter_105 : decode cX7_readLetter 105 = .ok (.aload_n 0, 1) := by decide +kernel
theorem dX7_readLetter_106 : decode cX7_readLetter 106 = .ok (.getfield 22, 3) := by decide +kernel
theorem dX7_readLetter_109 : decode cX7_readLetter 109 = .ok (.iconst 1, 1) := by decide +kernel
theorem dX7_readLetter_110 : decode cX7_readLetter 110 = .ok (.dup2, 1) := by decide +kernel
theorem dX7_readLetter_111 : decode cX7_readLetter 111 = .ok (.iaload, 1) := by decide +kernel
theorem dX7_readLetter_112 : decode cX7_readLetter 112 = .ok (.iconst 1, 1) := by decide +kernel
theorem dX7_readLetter_113 : decode cX7_readLetter 113 = .ok (.iadd, 1) := by decide +kernel
theorem dX7_readLetter_114 : decode cX7_readLetter 114 = .ok (.iastore, 1) := by decide +kernel
theorem dX7_readLetter_115 : decode cX7_readLetter 115 = .ok (.return_, 1) := by decide +kernel
theorem dX7_readFront_0 : decode cX7_readFront 0 = .ok (.aload_n 0, 1) := by decide +kernel
theorem dX7_readFront_1 : decode cX7_readFront 1 = .ok (.getfield 99, 3) := by decide +kernel
theorem dX7_readFront_4 : decode cX7_readFront 4 = .ok (.ifCond .ne 97, 3) := by decide +kernel
theorem dX7_readFront_7 : decode cX7_readFront 7 = .ok (.aload_n 0, 1) := by decide +kernel
theorem dX7_readFront_8 : decode cX7_readFront 8 = .ok (.getfield 87, 3) := by decide +kernel
theorem dX7_readFront_11 : decode cX7_readFront 11 = .ok (.iconst 3, 1) := by decide +kernel
theorem dX7_readFront_12 : decode cX7_readFront 12 = .ok (.if_icmp .ne 89, 3) := by decide +kernel
theorem dX7_readFront_15 : decode cX7_readFront 15 = .ok (.aload_n 0, 1) := by decide +kernel
theorem dX7_readFront_16 : decode cX7_readFront 16 = .ok (.invokevirtual 112, 3) := by decide +kernel
theorem dX7_readFront_19 : decode cX7_readFront 19 = .ok (.i2l, 1) := by decide +kernel
theorem dX7_readFront_20 : decode cX7_readFront 20 = .ok (.lconst 0, 1) := by decide +kernel
theorem dX7_readFront_21 : decode cX7_readFront 21 = .ok (.aload_n 0, 1) := by decide +kernel
theorem dX7_readFront_22 : decode cX7_readFront 22 = .ok (.getfield 22, 3) := by decide +kernel
theorem dX7_readFront_25 : decode cX7_readFront 25 = .ok (.iconst 1, 1) := by decide +kernel
theorem dX7_readFront_26 : decode cX7_readFront 26 = .ok (.iaload, 1) := by decide +kernel
theorem dX7_readFront_27 : decode cX7_readFront 27 = .ok (.iconst 1, 1) := by decide +kernel
theorem dX7_readFront_28 : decode cX7_readFront 28 = .ok (.isub, 1) := by decide +kernel
theorem dX7_readFront_29 : decode cX7_readFront 29 = .ok (.i2l, 1) := by decide +kernel
theorem dX7_readFront_30 : decode cX7_readFront 30 = .ok (.invokestatic 51, 3) := by decide +kernel
theorem dX7_readFront_33 : decode cX7_readFront 33 = .ok (.ifCond .eq 19, 3) := by decide +kernel
theorem dX7_readFront_36 : decode cX7_readFront 36 = .ok (.aload_n 0, 1) := by decide +kernel
theorem dX7_readFront_37 : decode cX7_readFront 37 = .ok (.getfield 22, 3) := by decide +kernel
theorem dX7_readFront_40 : decode cX7_readFront 40 = .ok (.iconst 2, 1) := by decide +kernel
theorem dX7_readFront_41 : decode cX7_readFront 41 = .ok (.iaload, 1) := by decide +kernel
theorem dX7_readFront_42 : decode cX7_readFront 42 = .ok (.bipush 9, 2) := by decide +kernel
theorem dX7_readFront_44 : decode cX7_readFront 44 = .ok (.if_icmp .ne 8, 3) := by decide +kernel
theorem dX7_readFront_47 : decode cX7_readFront 47 = .ok (.aload_n 0, 1) := by decide +kernel
theorem dX7_readFront_48 : decode cX7_readFront 48 = .ok (.iconst 3, 1) := by decide +kernel
theorem dX7_readFront_49 : decode cX7_readFront 49 = .ok (.invokevirtual 108, 3) := by decide +kernel
theorem dX7_readFront_52 : decode cX7_readFront 52 = .ok (.aload_n 0, 1) := by decide +kernel
theorem dX7_readFront_53 : decode cX7_readFront 53 = .ok (.iconst 0, 1) := by decide +kernel
theorem dX7_readFront_54 : decode cX7_readFront 54 = .ok (.aload_n 0, 1) := by decide +kernel
theorem dX7_readFront_55 : decode cX7_readFront 55 = .ok (.getfield 22, 3) := by decide +kernel
theorem dX7_readFront_58 : decode cX7_readFront 58 = .ok (.iconst 1, 1) := by decide +kernel
theorem dX7_readFront_59 : decode cX7_readFront 59 = .ok (.iaload, 1) := by decide +kernel
theorem dX7_readFront_60 : decode cX7_readFront 60 = .ok (.iconst 1, 1) := by decide +kernel
theorem dX7_readFront_61 : decode cX7_readFront 61 = .ok (.isub, 1) := by decide +kernel
theorem dX7_readFront_62 : decode cX7_readFront 62 = .ok (.invokevirtual 138, 3) := by decide +kernel
theorem dX7_readFront_65 : decode cX7_readFront 65 = .ok (.istore_n 1, 1) := by decide +kernel
theorem dX7_readFront_66 : decode cX7_readFront 66 = .ok (.aload_n 0, 1) := by decide +kernel
theorem dX7_readFront_67 : decode cX7_readFront 67 = .ok (.getfield 99, 3) := by decide +kernel
theorem dX7_readFront_70 : decode cX7_readFront 70 = .ok (.ifCond .ne 28, 3) := by decide +kernel
theorem dX7_readFront_73 : decode cX7_readFront 73 = .ok (.aload_n 0, 1) := by decide +kernel
theorem dX7_readFront_74 : decode cX7_readFront 74 = .ok (.getfield 22, 3) := by decide +kernel
theorem dX7_readFront_77 : decode cX7_readFront 77 = .ok (.bipush 19, 2) := by decide +kernel
theorem dX7_readFront_79 : decode cX7_readFront 79 = .ok (.aload_n 0, 1) := by decide +kernel
theorem dX7_readFront_80 : decode cX7_readFront 80 = .ok (.getfield 22, 3) := by decide +kernel
theorem dX7_readFront_83 : decode cX7_readFront 83 = .ok (.iconst 2, 1) := by decide +kernel
theorem dX7_readFront_84 : decode cX7_readFront 84 = .ok (.iaload, 1) := by decide +kernel
theorem dX7_readFront_85 : decode cX7_readFront 85 = .ok (.iadd, 1) := by decide +kernel
theorem dX7_readFront_86 : decode cX7_readFront 86 = .ok (.iload_n 1, 1) := by decide +kernel
theorem dX7_readFront_87 : decode cX7_readFront 87 = .ok (.iastore, 1) := by decide +kernel
theorem dX7_readFront_88 : decode cX7_readFront 88 = .ok (.aload_n 0, 1) := by decide +kernel
theorem dX7_readFront_89 : decode cX7_readFront 89 = .ok (.getfield 22, 3) := by decide +kernel
theorem dX7_readFront_92 : decode cX7_readFront 92 = .ok (.iconst 2, 1) := by decide +kernel
theorem dX7_readFront_93 : decode cX7_readFront 93 = .ok (.dup2, 1) := by decide +kernel
theorem dX7_readFront_94 : decode cX7_readFront 94 = .ok (.iaload, 1) := by decide +kernel
theorem dX7_readFront_95 : decode cX7_readFront 95 = .ok (.iconst 1, 1) := by decide +kernel
theorem dX7_readFront_96 : decode cX7_readFront 96 = .ok (.iadd, 1) := by decide +kernel
theorem dX7_readFront_97 : decode cX7_readFront 97 = .ok (.iastore, 1) := by decide +kernel
theorem dX7_readFront_98 : decode cX7_readFront 98 = .ok (.goto (-98), 3) := by decide +kernel
theorem dX7_readFront_101 : decode cX7_readFront 101 = .ok (.return_, 1) := by decide +kernel
theorem dX7_readSheet_0 : decode cX7_readSheet 0 = .ok (.aload_n 0, 1) := by decide +kernel
theorem dX7_readSheet_1 : decode cX7_readSheet 1 = .ok (.aload_n 0, 1) := by decide +kernel
theorem dX7_readSheet_2 : decode cX7_readSheet 2 = .ok (.invokevirtual 130, 3) := by decide +kernel
theorem dX7_readSheet_5 : decode cX7_readSheet 5 = .ok (.ldc2_w 145, 3) := by decide +kernel
theorem dX7_readSheet_8 : decode cX7_readSheet 8 = .ok (.lcmp, 1) := by decide +kernel
theorem dX7_readSheet_9 : decode cX7_readSheet 9 = .ok (.ifCond .ne 7, 3) := by decide +kernel
theorem dX7_readSheet_12 : decode cX7_readSheet 12 = .ok (.iconst 1, 1) := by decide +kernel
theorem dX7_readSheet_13 : decode cX7_readSheet 13 = .ok (.goto 4, 3) := by decide +kernel
theorem dX7_readSheet_16 : decode cX7_readSheet 16 = .ok (.iconst 0, 1) := by decide +kernel
theorem dX7_readSheet_17 : decode cX7_readSheet 17 = .ok (.invokevirtual 116, 3) := by decide +kernel
theorem dX7_readSheet_20 : decode cX7_readSheet 20 = .ok (.aload_n 0, 1) := by decide +kernel
theorem dX7_readSheet_21 : decode cX7_readSheet 21 = .ok (.invokevirtual 147, 3) := by decide +kernel
theorem dX7_readSheet_24 : decode cX7_readSheet 24 = .ok (.aload_n 0, 1) := by decide +kernel
theorem dX7_readSheet_25 : decode cX7_readSheet 25 = .ok (.getfield 99, 3) := by decide +kernel
theorem dX7_readSheet_28 : decode cX7_readSheet 28 = .ok (.ifCond .ne 20, 3) := by decide +kernel
theorem dX7_readSheet_31 : decode cX7_readSheet 31 = .ok (.aload_n 0, 1) := by decide +kernel
theorem dX7_readSheet_32 : decode cX7_readSheet 32 = .ok (.aload_n 0, 1) := by decide +kernel
theorem dX7_readSheet_33 : decode cX7_readSheet 33 = .ok (.getfield 87, 3) := by decide +kernel
theorem dX7_readSheet_36 : decode cX7_readSheet 36 = .ok (.iconst 5, 1) := by decide +kernel
theorem dX7_readSheet_37 : decode cX7_readSheet 37 = .ok (.if_icmp .ne 7, 3) := by decide +kernel
theorem dX7_readSheet_40 : decode cX7_readSheet 40 = .ok (.iconst 1, 1) := by decide +kernel
theorem dX7_readSheet_41 : decode cX7_readSheet 41 = .ok (.goto 4, 3) := by decide +kernel
theorem dX7_readSheet_44 : decode cX7_readSheet 44 = .ok (.iconst 0, 1) := by decide +kernel
theorem dX7_readSheet_45 : decode cX7_readSheet 45 = .ok (.invokevirtual 116, 3) := by decide +kernel
theorem dX7_readSheet_48 : decode cX7_readSheet 48 = .ok (.iconst 0, 1) := by decide +kernel
theorem dX7_readSheet_49 : decode cX7_readSheet 49 = .ok (.istore_n 1, 1) := by decide +kernel
theorem dX7_readSheet_50 : decode cX7_readSheet 50 = .ok (.iload_n 1, 1) := by decide +kernel
theorem dX7_readSheet_51 : decode cX7_readSheet 51 = .ok (.aload_n 0, 1) := by decide +kernel
theorem dX7_readSheet_52 : decode cX7_readSheet 52 = .ok (.getfield 22, 3) := by decide +kernel
theorem dX7_readSheet_55 : decode cX7_readSheet 55 = .ok (.iconst 2, 1) := by decide +kernel
theorem dX7_readSheet_56 : decode cX7_readSheet 56 = .ok (.iaload, 1) := by decide +kernel
theorem dX7_readSheet_57 : decode cX7_readSheet 57 = .ok (.if_icmp .ge 51, 3) := by decide +kernel
theorem dX7_readSheet_60 : decode cX7_readSheet 60 = .ok (.aload_n 0, 1) := by decide +kernel
theorem dX7_readSheet_61 : decode cX7_readSheet 61 = .ok (.getfield 99, 3) := by decide +kernel
theorem dX7_readSheet_64 : decode cX7_readSheet 64 = .ok (.ifCond .ne 44, 3) := by decide +kernel
theorem dX7_readSheet_67 : decode cX7_readSheet 67 = .ok (.aload_n 0, 1) := by decide +kernel
theorem dX7_readSheet_68 : decode cX7_readSheet 68 = .ok (.iconst 0, 1) := by decide +kernel
theorem dX7_readSheet_69 : decode cX7_readSheet 69 = .ok (.aload_n 0, 1) := by decide +kernel
theorem dX7_readSheet_70 : decode cX7_readSheet 70 = .ok (.getfield 22, 3) := by decide +kernel
theorem dX7_readSheet_73 : decode cX7_readSheet 73 = .ok (.iconst 1, 1) := by decide +kernel
theorem dX7_readSheet_74 : decode cX7_readSheet 74 = .ok (.iaload, 1) := by decide +kernel
theorem dX7_readSheet_75 : decode cX7_readSheet 75 = .ok (.iconst 1, 1) := by decide +kernel
theorem dX7_readSheet_76 : decode cX7_readSheet 76 = .ok (.isub, 1) := by decide +kernel
theorem dX7_readSheet_77 : decode cX7_readSheet 77 = .ok (.invokevirtual 138, 3) := by decide +kernel
theorem dX7_readSheet_80 : decode cX7_readSheet 80 = .ok (.istore_n 2, 1) := by decide +kernel
theorem dX7_readSheet_81 : decode cX7_readSheet 81 = .ok (.aload_n 0, 1) := by decide +kernel
theorem dX7_readSheet_82 : decode cX7_readSheet 82 = .ok (.getfield 22, 3) := by decide +kernel
theorem dX7_readSheet_85 : decode cX7_readSheet 85 = .ok (.bipush 28, 2) := by decide +kernel
theorem dX7_readSheet_87 : decode cX7_readSheet 87 = .ok (.iload_n 1, 1) := by decide +kernel
theorem dX7_readSheet_88 : decode cX7_readSheet 88 = .ok (.iadd, 1) := by decide +kernel
theorem dX7_readSheet_89 : decode cX7_readSheet 89 = .ok (.aload_n 0, 1) := by decide +kernel
theorem dX7_readSheet_90 : decode cX7_readSheet 90 = .ok (.getfield 99, 3) := by decide +kernel
theorem dX7_readSheet_93 : decode cX7_readSheet 93 = .ok (.ifCond .ne 7, 3) := by decide +kernel
theorem dX7_readSheet_96 : decode cX7_readSheet 96 = .ok (.iload_n 2, 1) := by decide +kernel
theorem dX7_readSheet_97 : decode cX7_readSheet 97 = .ok (.goto 4, 3) := by decide +kernel
theorem dX7_readSheet_100 : decode cX7_readSheet 100 = .ok (.iconst 0, 1) := by decide +kernel
theorem dX7_readSheet_101 : decode cX7_readSheet 101 = .ok (.iastore, 1) := by decide +kernel
theorem dX7_readSheet_102 : decode cX7_readSheet 102 = .ok (.iinc 1 1, 3) := by decide +kernel
theorem dX7_readSheet_105 : decode cX7_readSheet 105 = .ok (.goto (-55), 3) := by decide +kernel
theorem dX7_readSheet_108 : decode cX7_readSheet 108 = .ok (.aload_n 0, 1) := by decide +kernel
theorem dX7_readSheet_109 : decode cX7_readSheet 109 = .ok (.invokevirtual 142, 3) := by decide +kernel
theorem dX7_readSheet_112 : decode cX7_readSheet 112 = .ok (.return_, 1) := by decide +kernel
theorem dX7_page_0 : decode cX7_page 0 = .ok (.aload_n 0, 1) := by decide +kernel
theorem dX7_page_1 : decode cX7_page 1 = .ok (.iconst 0, 1) := by decide +kernel
theorem dX7_page_2 : decode cX7_page 2 = .ok (.putfield 41, 3) := by decide +kernel
theorem dX7_page_5 : decode cX7_page 5 = .ok (.aload_n 0, 1) := by decide +kernel
theorem dX7_page_6 : decode cX7_page 6 = .ok (.invokevirtual 150, 3) := by decide +kernel
theorem dX7_page_9 : decode cX7_page 9 = .ok (.iconst 0, 1) := by decide +kernel
theorem dX7_page_10 : decode cX7_page 10 = .ok (.istore_n 1, 1) := by decide +kernel
theorem dX7_page_11 : decode cX7_page 11 = .ok (.iload_n 1, 1) := by decide +kernel
theorem dX7_page_12 : decode cX7_page 12 = .ok (.bipush 37, 2) := by decide +kernel
theorem dX7_page_14 : decode cX7_page 14 = .ok (.if_icmp .ge 16, 3) := by decide +kernel
theorem dX7_page_17 : decode cX7_page 17 = .ok (.aload_n 0, 1) := by decide +kernel
theorem dX7_page_18 : decode cX7_page 18 = .ok (.getfield 22, 3) := by decide +kernel
theorem dX7_page_21 : decode cX7_page 21 = .ok (.iload_n 1, 1) := by decide +kernel
theorem dX7_page_22 : decode cX7_page 22 = .ok (.iconst 0, 1) := by decide +kernel
theorem dX7_page_23 : decode cX7_page 23 = .ok (.iastore, 1) := by decide +kernel
theorem dX7_page_24 : decode cX7_page 24 = .ok (.iinc 1 1, 3) := by decide +kernel
theorem dX7_page_27 : decode cX7_page 27 = .ok (.goto (-16), 3) := by decide +kernel
theorem dX7_page_30 : decode cX7_page 30 = .ok (.aload_n 0, 1) := by decide +kernel
theorem dX7_page_31 : decode cX7_page 31 = .ok (.aload_n 0, 1) := by decide +kernel
theorem dX7_page_32 : decode cX7_page 32 = .ok (.invokevirtual 130, 3) := by decide +kernel
theorem dX7_page_35 : decode cX7_page 35 = .ok (.ldc2_w 153, 3) := by decide +kernel
theorem dX7_page_38 : decode cX7_page 38 = .ok (.lcmp, 1) := by decide +kernel
theorem dX7_page_39 : decode cX7_page 39 = .ok (.ifCond .ne 7, 3) := by decide +kernel
theorem dX7_page_42 : decode cX7_page 42 = .ok (.iconst 1, 1) := by decide +kernel
theorem dX7_page_43 : decode cX7_page 43 = .ok (.goto 4, 3) := by decide +kernel
theorem dX7_page_46 : decode cX7_page 46 = .ok (.iconst 0, 1) := by decide +kernel
theorem dX7_page_47 : decode cX7_page 47 = .ok (.invokevirtual 116, 3) := by decide +kernel
theorem dX7_page_50 : decode cX7_page 50 = .ok (.aload_n 0, 1) := by decide +kernel
theorem dX7_page_51 : decode cX7_page 51 = .ok (.getfield 22, 3) := by decide +kernel
theorem dX7_page_54 : decode cX7_page 54 = .ok (.iconst 0, 1) := by decide +kernel
theorem dX7_page_55 : decode cX7_page 55 = .ok (.aload_n 0, 1) := by decide +kernel
theorem dX7_page_56 : decode cX7_page 56 = .ok (.iconst 0, 1) := by decide +kernel
theorem dX7_page_57 : decode cX7_page 57 = .ok (.bipush 9, 2) := by decide +kernel
theorem dX7_page_59 : decode cX7_page 59 = .ok (.invokevirtual 138, 3) := by decide +kernel
theorem dX7_page_62 : decode cX7_page 62 = .ok (.iastore, 1) := by decide +kernel
theorem dX7_page_63 : decode cX7_page 63 = .ok (.aload_n 0, 1) := by decide +kernel
theorem dX7_page_64 : decode cX7_page 64 = .ok (.invokevirtual 142, 3) := by decide +kernel
theorem dX7_page_67 : decode cX7_page 67 = .ok (.aload_n 0, 1) := by decide +kernel
theorem dX7_page_68 : decode cX7_page 68 = .ok (.invokevirtual 130, 3) := by decide +kernel
theorem dX7_page_71 : decode cX7_page 71 = .ok (.ldc2_w 155, 3) := by decide +kernel
theorem dX7_page_74 : decode cX7_page 74 = .ok (.lcmp, 1) := by decide +kernel
theorem dX7_page_75 : decode cX7_page 75 = .ok (.ifCond .eq 8, 3) := by decide +kernel
theorem dX7_page_78 : decode cX7_page 78 = .ok (.aload_n 0, 1) := by decide +kernel
theorem dX7_page_79 : decode cX7_page 79 = .ok (.iconst 1, 1) := by decide +kernel
theorem dX7_page_80 : decode cX7_page 80 = .ok (.invokevirtual 108, 3) := by decide +kernel
theorem dX7_page_83 : decode cX7_page 83 = .ok (.aload_n 0, 1) := by decide +kernel
theorem dX7_page_84 : decode cX7_page 84 = .ok (.invokevirtual 130, 3) := by decide +kernel
theorem dX7_page_87 : decode cX7_page 87 = .ok (.ldc2_w 155, 3) := by decide +kernel
theorem dX7_page_90 : decode cX7_page 90 = .ok (.lcmp, 1) := by decide +kernel
theorem dX7_page_91 : decode cX7_page 91 = .ok (.ifCond .ne 10, 3) := by decide +kernel
theorem dX7_page_94 : decode cX7_page 94 = .ok (.aload_n 0, 1) := by decide +kernel
theorem dX7_page_95 : decode cX7_page 95 = .ok (.invokevirtual 157, 3) := by decide +kernel
theorem dX7_page_98 : decode cX7_page 98 = .ok (.goto (-15), 3) := by decide +kernel
theorem dX7_page_101 : decode cX7_page 101 = .ok (.aload_n 0, 1) := by decide +kernel
theorem dX7_page_102 : decode cX7_page 102 = .ok (.invokevirtual 160, 3) := by decide +kernel
theorem dX7_page_105 : decode cX7_page 105 = .ok (.aload_n 0, 1) := by decide +kernel
theorem dX7_page_106 : decode cX7_page 106 = .ok (.getfield 99, 3) := by decide +kernel
theorem dX7_page_109 : decode cX7_page 109 = .ok (.ifCond .ne 16, 3) := by decide +kernel
theorem dX7_page_112 : decode cX7_page 112 = .ok (.aload_n 0, 1) := by decide +kernel
theorem dX7_page_113 : decode cX7_page 113 = .ok (.getfield 87, 3) := by decide +kernel
theorem dX7_page_116 : decode cX7_page 116 = .ok (.iconst 1, 1) := by decide +kernel
theorem dX7_page_117 : decode cX7_page 117 = .ok (.if_icmp .eq 8, 3) := by decide +kernel
theorem dX7_page_120 : decode cX7_page 120 = .ok (.aload_n 0, 1) := by decide +kernel
theorem dX7_page_121 : decode cX7_page 121 = .ok (.iconst 1, 1) := by decide +kernel
theorem dX7_page_122 : decode cX7_page 122 = .ok (.invokevirtual 108, 3) := by decide +kernel
theorem dX7_page_125 : decode cX7_page 125 = .ok (.aload_n 0, 1) := by decide +kernel
theorem dX7_page_126 : decode cX7_page 126 = .ok (.getfield 99, 3) := by decide +kernel
theorem dX7_page_129 : decode cX7_page 129 = .ok (.ifCond .le 19, 3) := by decide +kernel
theorem dX7_page_132 : decode cX7_page 132 = .ok (.aload_n 0, 1) := by decide +kernel
theorem dX7_page_133 : decode cX7_page 133 = .ok (.aload_n 0, 1) := by decide +kernel
theorem dX7_page_134 : decode cX7_page 134 = .ok (.getfield 99, 3) := by decide +kernel
theorem dX7_page_137 : decode cX7_page 137 = .ok (.putfield 163, 3) := by decide +kernel
theorem dX7_page_140 : decode cX7_page 140 = .ok (.ldc 166, 2) := by decide +kernel
theorem dX7_page_142 : decode cX7_page 142 = .ok (.aload_n 0, 1) := by decide +kernel
theorem dX7_page_143 : decode cX7_page 143 = .ok (.getfield 105, 3) := by decide +kernel
theorem dX7_page_146 : decode cX7_page 146 = .ok (.isub, 1) := by decide +kernel
theorem dX7_page_147 : decode cX7_page 147 = .ok (.ireturn, 1) := by decide +kernel
theorem dX7_page_148 : decode cX7_page 148 = .ok (.aload_n 0, 1) := by decide +kernel
theorem dX7_page_149 : decode cX7_page 149 = .ok (.iconst 0, 1) := by decide +kernel
theorem dX7_page_150 : decode cX7_page 150 = .ok (.putfield 167, 3) := by decide +kernel
theorem dX7_page_153 : decode cX7_page 153 = .ok (.iconst 0, 1) := by decide +kernel
theorem dX7_page_154 : decode cX7_page 154 = .ok (.istore_n 1, 1) := by decide +kernel
theorem dX7_page_155 : decode cX7_page 155 = .ok (.iload_n 1, 1) := by decide +kernel
theorem dX7_page_156 : decode cX7_page 156 = .ok (.bipush 37, 2) := by decide +kernel
theorem dX7_page_158 : decode cX7_page 158 = .ok (.if_icmp .ge 21, 3) := by decide +kernel
theorem dX7_page_161 : decode cX7_page 161 = .ok (.aload_n 0, 1) := by decide +kernel
theorem dX7_page_162 : decode cX7_page 162 = .ok (.getfield 19, 3) := by decide +kernel
theorem dX7_page_165 : decode cX7_page 165 = .ok (.iload_n 1, 1) := by decide +kernel
theorem dX7_page_166 : decode cX7_page 166 = .ok (.aload_n 0, 1) := by decide +kernel
theorem dX7_page_167 : decode cX7_page 167 = .ok (.getfield 22, 3) := by decide +kernel
theorem dX7_page_170 : decode cX7_page 170 = .ok (.iload_n 1, 1) := by decide +kernel
theorem dX7_page_171 : decode cX7_page 171 = .ok (.iaload, 1) := by decide +kernel
theorem dX7_page_172 : decode cX7_page 172 = .ok (.iastore, 1) := by decide +kernel
theorem dX7_page_173 : decode cX7_page 173 = .ok (.iinc 1 1, 3) := by decide +kernel
theorem dX7_page_176 : decode cX7_page 176 = .ok (.goto (-21), 3) := by decide +kernel
theorem dX7_page_179 : decode cX7_page 179 = .ok (.aload_n 0, 1) := by decide +kernel
theorem dX7_page_180 : decode cX7_page 180 = .ok (.getfield 19, 3) := by decide +kernel
theorem dX7_page_183 : decode cX7_page 183 = .ok (.iconst 2, 1) := by decide +kernel
theorem dX7_page_184 : decode cX7_page 184 = .ok (.iaload, 1) := by decide +kernel
theorem dX7_page_185 : decode cX7_page 185 = .ok (.ireturn, 1) := by decide +kernel
theorem dX7_fault_0 : decode cX7_fault 0 = .ok (.aload_n 0, 1) := by decide +kernel
theorem dX7_fault_1 : decode cX7_fault 1 = .ok (.iconst 0, 1) := by decide +kernel
theorem dX7_fault_2 : decode cX7_fault 2 = .ok (.putfield 41, 3) := by decide +kernel
theorem dX7_fault_5 : decode cX7_fault 5 = .ok (.aload_n 0, 1) := by decide +kernel
theorem dX7_fault_6 : decode cX7_fault 6 = .ok (.getfield 163, 3) := by decide +kernel
theorem dX7_fault_9 : decode cX7_fault 9 = .ok (.ireturn, 1) := by decide +kernel
theorem dX7_isThere_0 : decode cX7_isThere 0 = .ok (.aload_n 0, 1) := by decide +kernel
theorem dX7_isThere_1 : decode cX7_isThere 1 = .ok (.getfield 19, 3) := by decide +kernel
theorem dX7_isThere_4 : decode cX7_isThere 4 = .ok (.iconst 1, 1) := by decide +kernel
theorem dX7_isThere_5 : decode cX7_isThere 5 = .ok (.iaload, 1) := by decide +kernel
theorem dX7_isThere_6 : decode cX7_isThere 6 = .ok (.ifCond .le 7, 3) := by decide +kernel
theorem dX7_isThere_9 : decode cX7_isThere 9 = .ok (.iconst 1, 1) := by decide +kernel
theorem dX7_isThere_10 : decode cX7_isThere 10 = .ok (.goto 4, 3) := by decide +kernel
theorem dX7_isThere_13 : decode cX7_isThere 13 = .ok (.iconst 0, 1) := by decide +kernel
theorem dX7_isThere_14 : decode cX7_isThere 14 = .ok (.ireturn, 1) := by decide +kernel
theorem dX7_isOne_0 : decode cX7_isOne 0 = .ok (.iload_n 1, 1) := by decide +kernel
theorem dX7_isOne_1 : decode cX7_isOne 1 = .ok (.i2l, 1) := by decide +kernel
theorem dX7_isOne_2 : decode cX7_isOne 2 = .ok (.lconst 0, 1) := by decide +kernel
theorem dX7_isOne_3 : decode cX7_isOne 3 = .ok (.aload_n 0, 1) := by decide +kernel
theorem dX7_isOne_4 : decode cX7_isOne 4 = .ok (.getfield 19, 3) := by decide +kernel
theorem dX7_isOne_7 : decode cX7_isOne 7 = .ok (.iconst 1, 1) := by decide +kernel
theorem dX7_isOne_8 : decode cX7_isOne 8 = .ok (.iaload, 1) := by decide +kernel
theorem dX7_isOne_9 : decode cX7_isOne 9 = .ok (.iconst 1, 1) := by decide +kernel
theorem dX7_isOne_10 : decode cX7_isOne 10 = .ok (.isub, 1) := by decide +kernel
theorem dX7_isOne_11 : decode cX7_isOne 11 = .ok (.i2l, 1) := by decide +kernel
theorem dX7_isOne_12 : decode cX7_isOne 12 = .ok (.invokestatic 51, 3) := by decide +kernel
theorem dX7_isOne_15 : decode cX7_isOne 15 = .ok (.ireturn, 1) := by decide +kernel
theorem dX7_isPlace_0 : decode cX7_isPlace 0 = .ok (.iload_n 1, 1) := by decide +kernel
theorem dX7_isPlace_1 : decode cX7_isPlace 1 = .ok (.i2l, 1) := by decide +kernel
theorem dX7_isPlace_2 : decode cX7_isPlace 2 = .ok (.lconst 0, 1) := by decide +kernel
theorem dX7_isPlace_3 : decode cX7_isPlace 3 = .ok (.aload_n 0, 1) := by decide +kernel
theorem dX7_isPlace_4 : decode cX7_isPlace 4 = .ok (.getfield 19, 3) := by decide +kernel
theorem dX7_isPlace_7 : decode cX7_isPlace 7 = .ok (.iconst 2, 1) := by decide +kernel
theorem dX7_isPlace_8 : decode cX7_isPlace 8 = .ok (.iaload, 1) := by decide +kernel
theorem dX7_isPlace_9 : decode cX7_isPlace 9 = .ok (.iconst 1, 1) := by decide +kernel
theorem dX7_isPlace_10 : decode cX7_isPlace 10 = .ok (.isub, 1) := by decide +kernel
theorem dX7_isPlace_11 : decode cX7_isPlace 11 = .ok (.i2l, 1) := by decide +kernel
theorem dX7_isPlace_12 : decode cX7_isPlace 12 = .ok (.invokestatic 51, 3) := by decide +kernel
theorem dX7_isPlace_15 : decode cX7_isPlace 15 = .ok (.ireturn, 1) := by decide +kernel
theorem dX7_isSide_0 : decode cX7_isSide 0 = .ok (.iload_n 0, 1) := by decide +kernel
theorem dX7_isSide_1 : decode cX7_isSide 1 = .ok (.i2l, 1) := by decide +kernel
theorem dX7_isSide_2 : decode cX7_isSide 2 = .ok (.lconst 0, 1) := by decide +kernel
theorem dX7_isSide_3 : decode cX7_isSide 3 = .ok (.lconst 1, 1) := by decide +kernel
theorem dX7_isSide_4 : decode cX7_isSide 4 = .ok (.invokestatic 51, 3) := by decide +kernel
theorem dX7_isSide_7 : decode cX7_isSide 7 = .ok (.ireturn, 1) := by decide +kernel
theorem dX7_kindOf_0 : decode cX7_kindOf 0 = .ok (.aload_n 0, 1) := by decide +kernel
theorem dX7_kindOf_1 : decode cX7_kindOf 1 = .ok (.getfield 19, 3) := by decide +kernel
theorem dX7_kindOf_4 : decode cX7_kindOf 4 = .ok (.iconst 3, 1) := by decide +kernel
theorem dX7_kindOf_5 : decode cX7_kindOf 5 = .ok (.iconst 2, 1) := by decide +kernel
theorem dX7_kindOf_6 : decode cX7_kindOf 6 = .ok (.iload_n 1, 1) := by decide +kernel
theorem dX7_kindOf_7 : decode cX7_kindOf 7 = .ok (.imul, 1) := by decide +kernel
theorem dX7_kindOf_8 : decode cX7_kindOf 8 = .ok (.iadd, 1) := by decide +kernel
theorem dX7_kindOf_9 : decode cX7_kindOf 9 = .ok (.iaload, 1) := by decide +kernel
theorem dX7_kindOf_10 : decode cX7_kindOf 10 = .ok (.ireturn, 1) := by decide +kernel
theorem dX7_cellsOf_0 : decode cX7_cellsOf 0 = .ok (.aload_n 0, 1) := by decide +kernel
theorem dX7_cellsOf_1 : decode cX7_cellsOf 1 = .ok (.getfield 19, 3) := by decide +kernel
theorem dX7_cellsOf_4 : decode cX7_cellsOf 4 = .ok (.iconst 3, 1) := by decide +kernel
theorem dX7_cellsOf_5 : decode cX7_cellsOf 5 = .ok (.iconst 2, 1) := by decide +kernel
theorem dX7_cellsOf_6 : decode cX7_cellsOf 6 = .ok (.iload_n 1, 1) := by decide +kernel
theorem dX7_cellsOf_7 : decode cX7_cellsOf 7 = .ok (.imul, 1) := by decide +kernel
theorem dX7_cellsOf_8 : decode cX7_cellsOf 8 = .ok (.iadd, 1) := by decide +kernel
theorem dX7_cellsOf_9 : decode cX7_cellsOf 9 = .ok (.iconst 1, 1) := by decide +kernel
theorem dX7_cellsOf_10 : decode cX7_cellsOf 10 = .ok (.iadd, 1) := by decide +kernel
theorem dX7_cellsOf_11 : decode cX7_cellsOf 11 = .ok (.iaload, 1) := by decide +kernel
theorem dX7_cellsOf_12 : decode cX7_cellsOf 12 = .ok (.ireturn, 1) := by decide +kernel
theorem dX7_on_0 : decode cX7_on 0 = .ok (.aload_n 0, 1) := by decide +kernel
theorem dX7_on_1 : decode cX7_on 1 = .ok (.getfield 19, 3) := by decide +kernel
theorem dX7_on_4 : decode cX7_on 4 = .ok (.bipush 19, 2) := by decide +kernel
theorem dX7_on_6 : decode cX7_on 6 = .ok (.bipush 9, 2) := by decide +kernel
theorem dX7_on_8 : decode cX7_on 8 = .ok (.iload_n 1, 1) := by decide +kernel
theorem dX7_on_9 : decode cX7_on 9 = .ok (.imul, 1) := by decide +kernel
theorem dX7_on_10 : decode cX7_on 10 = .ok (.iadd, 1) := by decide +kernel
theorem dX7_on_11 : decode cX7_on 11 = .ok (.iload_n 2, 1) := by decide +kernel
theorem dX7_on_12 : decode cX7_on 12 = .ok (.iadd, 1) := by decide +kernel
theorem dX7_on_13 : decode cX7_on 13 = .ok (.iaload, 1) := by decide +kernel
theorem dX7_on_14 : decode cX7_on 14 = .ok (.ireturn, 1) := by decide +kernel
theorem dX7_behindOf_0 : decode cX7_behindOf 0 = .ok (.aload_n 0, 1) := by decide +kernel
theorem dX7_behindOf_1 : decode cX7_behindOf 1 = .ok (.iconst 1, 1) := by decide +kernel
theorem dX7_behindOf_2 : decode cX7_behindOf 2 = .ok (.iload_n 1, 1) := by decide +kernel
theorem dX7_behindOf_3 : decode cX7_behindOf 3 = .ok (.isub, 1) := by decide +kernel
theorem dX7_behindOf_4 : decode cX7_behindOf 4 = .ok (.aload_n 0, 1) := by decide +kernel
theorem dX7_behindOf_5 : decode cX7_behindOf 5 = .ok (.getfield 19, 3) := by decide +kernel
theorem dX7_behindOf_8 : decode cX7_behindOf 8 = .ok (.iconst 2, 1) := by decide +kernel
theorem dX7_behindOf_9 : decode cX7_behindOf 9 = .ok (.iaload, 1) := by decide +kernel
theorem dX7_behindOf_10 : decode cX7_behindOf 10 = .ok (.iconst 1, 1) := by decide +kernel
theorem dX7_behindOf_11 : decode cX7_behindOf 11 = .ok (.isub, 1) := by decide +kernel
theorem dX7_behindOf_12 : decode cX7_behindOf 12 = .ok (.iload_n 2, 1) := by decide +kernel
theorem dX7_behindOf_13 : decode cX7_behindOf 13 = .ok (.isub, 1) := by decide +kernel
theorem dX7_behindOf_14 : decode cX7_behindOf 14 = .ok (.invokevirtual 170, 3) := by decide +kernel
theorem dX7_behindOf_17 : decode cX7_behindOf 17 = .ok (.ireturn, 1) := by decide +kernel
theorem dX7_bits_0 : decode cX7_bits 0 = .ok (.iconst 0, 1) := by decide +kernel
theorem dX7_bits_1 : decode cX7_bits 1 = .ok (.istore_n 1, 1) := by decide +kernel
theorem dX7_bits_2 : decode cX7_bits 2 = .ok (.iconst 0, 1) := by decide +kernel
theorem dX7_bits_3 : decode cX7_bits 3 = .ok (.istore_n 2, 1) := by decide +kernel
theorem dX7_bits_4 : decode cX7_bits 4 = .ok (.iload_n 2, 1) := by decide +kernel
theorem dX7_bits_5 : decode cX7_bits 5 = .ok (.bipush 9, 2) := by decide +kernel
theorem dX7_bits_7 : decode cX7_bits 7 = .ok (.if_icmp .ge 17, 3) := by decide +kernel
theorem dX7_bits_10 : decode cX7_bits 10 = .ok (.iload_n 1, 1) := by decide +kernel
theorem dX7_bits_11 : decode cX7_bits 11 = .ok (.iload_n 0, 1) := by decide +kernel
theorem dX7_bits_12 : decode cX7_bits 12 = .ok (.iload_n 2, 1) := by decide +kernel
theorem dX7_bits_13 : decode cX7_bits 13 = .ok (.ishr, 1) := by decide +kernel
theorem dX7_bits_14 : decode cX7_bits 14 = .ok (.iconst 1, 1) := by decide +kernel
theorem dX7_bits_15 : decode cX7_bits 15 = .ok (.iand, 1) := by decide +kernel
theorem dX7_bits_16 : decode cX7_bits 16 = .ok (.iadd, 1) := by decide +kernel
theorem dX7_bits_17 : decode cX7_bits 17 = .ok (.istore_n 1, 1) := by decide +kernel
theorem dX7_bits_18 : decode cX7_bits 18 = .ok (.iinc 2 1, 3) := by decide +kernel
theorem dX7_bits_21 : decode cX7_bits 21 = .ok (.goto (-17), 3) := by decide +kernel
theorem dX7_bits_24 : decode cX7_bits 24 = .ok (.iload_n 1, 1) := by decide +kernel
theorem dX7_bits_25 : decode cX7_bits 25 = .ok (.ireturn, 1) := by decide +kernel
theorem dX7_turned_0 : decode cX7_turned 0 = .ok (.iload_n 0, 1) := by decide +kernel
theorem dX7_turned_1 : decode cX7_turned 1 = .ok (.bipush 73, 2) := by decide +kernel
theorem dX7_turned_3 : decode cX7_turned 3 = .ok (.iand, 1) := by decide +kernel
theorem dX7_turned_4 : decode cX7_turned 4 = .ok (.iconst 2, 1) := by decide +kernel
theorem dX7_turned_5 : decode cX7_turned 5 = .ok (.ishl, 1) := by decide +kernel
theorem dX7_turned_6 : decode cX7_turned 6 = .ok (.iload_n 0, 1) := by decide +kernel
theorem dX7_turned_7 : decode cX7_turned 7 = .ok (.sipush 146, 3) := by decide +kernel
theorem dX7_turned_10 : decode cX7_turned 10 = .ok (.iand, 1) := by decide +kernel
theorem dX7_turned_11 : decode cX7_turned 11 = .ok (.ior, 1) := by decide +kernel
theorem dX7_turned_12 : decode cX7_turned 12 = .ok (.iload_n 0, 1) := by decide +kernel
theorem dX7_turned_13 : decode cX7_turned 13 = .ok (.sipush 292, 3) := by decide +kernel
theorem dX7_turned_16 : decode cX7_turned 16 = .ok (.iand, 1) := by decide +kernel
theorem dX7_turned_17 : decode cX7_turned 17 = .ok (.iconst 2, 1) := by decide +kernel
theorem dX7_turned_18 : decode cX7_turned 18 = .ok (.ishr, 1) := by decide +kernel
theorem dX7_turned_19 : decode cX7_turned 19 = .ok (.ior, 1) := by decide +kernel
theorem dX7_turned_20 : decode cX7_turned 20 = .ok (.ireturn, 1) := by decide +kernel
theorem dX7_throughOf_0 : decode cX7_throughOf 0 = .ok (.aload_n 0, 1) := by decide +kernel
theorem dX7_throughOf_1 : decode cX7_throughOf 1 = .ok (.iload_n 1, 1) := by decide +kernel
theorem dX7_throughOf_2 : decode cX7_throughOf 2 = .ok (.invokevirtual 173, 3) := by decide +kernel
theorem dX7_throughOf_5 : decode cX7_throughOf 5 = .ok (.tableswitch 47 3 5 #[33, 27, 45], 27) := by decide +kernel
theorem dX7_throughOf_32 : decode cX7_throughOf 32 = .ok (.aload_n 0, 1) := by decide +kernel
theorem dX7_throughOf_33 : decode cX7_throughOf 33 = .ok (.iload_n 1, 1) := by decide +kernel
theorem dX7_throughOf_34 : decode cX7_throughOf 34 = .ok (.invokevirtual 176, 3) := by decide +kernel
theorem dX7_throughOf_37 : decode cX7_throughOf 37 = .ok (.ireturn, 1) := by decide +kernel
theorem dX7_throughOf_38 : decode cX7_throughOf 38 = .ok (.aload_n 0, 1) := by decide +kernel
theorem dX7_throughOf_39 : decode cX7_throughOf 39 = .ok (.iload_n 1, 1) := by decide +kernel
theorem dX7_throughOf_40 : decode cX7_throughOf 40 = .ok (.invokevirtual 176, 3) := by decide +kernel
theorem dX7_throughOf_43 : decode cX7_throughOf 43 = .ok (.invokestatic 179, 3) := by decide +kernel
theorem dX7_throughOf_46 : decode cX7_throughOf 46 = .ok (.bipush 63, 2) := by decide +kernel
theorem dX7_throughOf_48 : decode cX7_throughOf 48 = .ok (.iand, 1) := by decide +kernel
theorem dX7_throughOf_49 : decode cX7_throughOf 49 = .ok (.ireturn, 1) := by decide +kernel
theorem dX7_throughOf_50 : decode cX7_throughOf 50 = .ok (.iconst 0, 1) := by decide +kernel
theorem dX7_throughOf_51 : decode cX7_throughOf 51 = .ok (.ireturn, 1) := by decide +kernel
theorem dX7_throughOf_52 : decode cX7_throughOf 52 = .ok (.aload_n 0, 1) := by decide +kernel
theorem dX7_throughOf_53 : decode cX7_throughOf 53 = .ok (.iload_n 1, 1) := by decide +kernel
theorem dX7_throughOf_54 : decode cX7_throughOf 54 = .ok (.invokevirtual 176, 3) := by decide +kernel
theorem dX7_throughOf_57 : decode cX7_throughOf 57 = .ok (.invokestatic 179, 3) := by decide +kernel
theorem dX7_throughOf_60 : decode cX7_throughOf 60 = .ok (.ireturn, 1) := by decide +kernel
theorem dX7_readOf_0 : decode cX7_readOf 0 = .ok (.iconst 0, 1) := by decide +kernel
theorem dX7_readOf_1 : decode cX7_readOf 1 = .ok (.istore_n 2, 1) := by decide +kernel
theorem dX7_readOf_2 : decode cX7_readOf 2 = .ok (.aload_n 0, 1) := by decide +kernel
theorem dX7_readOf_3 : decode cX7_readOf 3 = .ok (.bipush 10, 2) := by decide +kernel
theorem dX7_readOf_5 : decode cX7_readOf 5 = .ok (.putfield 182, 3) := by decide +kernel
theorem dX7_readOf_8 : decode cX7_readOf 8 = .ok (.iconst 0, 1) := by decide +kernel
theorem dX7_readOf_9 : decode cX7_readOf 9 = .ok (.istore_n 3, 1) := by decide +kernel
theorem dX7_readOf_10 : decode cX7_readOf 10 = .ok (.iload_n 3, 1) := by decide +kernel
theorem dX7_readOf_11 : decode cX7_readOf 11 = .ok (.aload_n 0, 1) := by decide +kernel
theorem dX7_readOf_12 : decode cX7_readOf 12 = .ok (.getfield 19, 3) := by decide +kernel
theorem dX7_readOf_15 : decode cX7_readOf 15 = .ok (.iconst 1, 1) := by decide +kernel
theorem dX7_readOf_16 : decode cX7_readOf 16 = .ok (.iaload, 1) := by decide +kernel
theorem dX7_readOf_17 : decode cX7_readOf 17 = .ok (.if_icmp .ge 97, 3) := by decide +kernel
theorem dX7_readOf_20 : decode cX7_readOf 20 = .ok (.aload_n 0, 1) := by decide +kernel
theorem dX7_readOf_21 : decode cX7_readOf 21 = .ok (.iload_n 3, 1) := by decide +kernel
theorem dX7_readOf_22 : decode cX7_readOf 22 = .ok (.invokevirtual 176, 3) := by decide +kernel
theorem dX7_readOf_25 : decode cX7_readOf 25 = .ok (.iload_n 1, 1) := by decide +kernel
theorem dX7_readOf_26 : decode cX7_readOf 26 = .ok (.ixor, 1) := by decide +kernel
theorem dX7_readOf_27 : decode cX7_readOf 27 = .ok (.invokestatic 185, 3) := by decide +kernel
theorem dX7_readOf_30 : decode cX7_readOf 30 = .ok (.istore 4, 2) := by decide +kernel
theorem dX7_readOf_32 : decode cX7_readOf 32 = .ok (.aload_n 0, 1) := by decide +kernel
theorem dX7_readOf_33 : decode cX7_readOf 33 = .ok (.iload 4, 2) := by decide +kernel
theorem dX7_readOf_35 : decode cX7_readOf 35 = .ok (.aload_n 0, 1) := by decide +kernel
theorem dX7_readOf_36 : decode cX7_readOf 36 = .ok (.getfield 182, 3) := by decide +kernel
theorem dX7_readOf_39 : decode cX7_readOf 39 = .ok (.if_icmp .ge 7, 3) := by decide +kernel
theorem dX7_readOf_42 : decode cX7_readOf 42 = .ok (.iconst 1, 1) := by decide +kernel
theorem dX7_readOf_43 : decode cX7_readOf 43 = .ok (.goto 25, 3) := by decide +kernel
theorem dX7_readOf_46 : decode cX7_readOf 46 = .ok (.iload 4, 2) := by decide +kernel
theorem dX7_readOf_48 : decode cX7_readOf 48 = .ok (.aload_n 0, 1) := by decide +kernel
theorem dX7_readOf_49 : decode cX7_readOf 49 = .ok (.getfield 182, 3) := by decide +kernel
theorem dX7_readOf_52 : decode cX7_readOf 52 = .ok (.if_icmp .ne 12, 3) := by decide +kernel
theorem dX7_readOf_55 : decode cX7_readOf 55 = .ok (.aload_n 0, 1) := by decide +kernel
theorem dX7_readOf_56 : decode cX7_readOf 56 = .ok (.getfield 188, 3) := by decide +kernel
theorem dX7_readOf_59 : decode cX7_readOf 59 = .ok (.iconst 1, 1) := by decide +kernel
theorem dX7_readOf_60 : decode cX7_readOf 60 = .ok (.iadd, 1) := by decide +kernel
theorem dX7_readOf_61 : decode cX7_readOf 61 = .ok (.goto 7, 3) := by decide +kernel
theorem dX7_readOf_64 : decode cX7_readOf 64 = .ok (.aload_n 0, 1) := by decide +kernel
theorem dX7_readOf_65 : decode cX7_readOf 65 = .ok (.getfield 188, 3) := by decide +kernel
theorem dX7_readOf_68 : decode cX7_readOf 68 = .ok (.putfield 188, 3) := by decide +kernel
theorem dX7_readOf_71 : decode cX7_readOf 71 = .ok (.iload 4, 2) := by decide +kernel
theorem dX7_readOf_73 : decode cX7_readOf 73 = .ok (.aload_n 0, 1) := by decide +kernel
theorem dX7_readOf_74 : decode cX7_readOf 74 = .ok (.getfield 182, 3) := by decide +kernel
theorem dX7_readOf_77 : decode cX7_readOf 77 = .ok (.if_icmp .ge 7, 3) := by decide +kernel
theorem dX7_readOf_80 : decode cX7_readOf 80 = .ok (.iload_n 3, 1) := by decide +kernel
theorem dX7_readOf_81 : decode cX7_readOf 81 = .ok (.goto 4, 3) := by decide +kernel
theorem dX7_readOf_84 : decode cX7_readOf 84 = .ok (.iload_n 2, 1) := by decide +kernel
theorem dX7_readOf_85 : decode cX7_readOf 85 = .ok (.istore_n 2, 1) := by decide +kernel
theorem dX7_readOf_86 : decode cX7_readOf 86 = .ok (.aload_n 0, 1) := by decide +kernel
theorem dX7_readOf_87 : decode cX7_readOf 87 = .ok (.iload 4, 2) := by decide +kernel
theorem dX7_readOf_89 : decode cX7_readOf 89 = .ok (.aload_n 0, 1) := by decide +kernel
theorem dX7_readOf_90 : decode cX7_readOf 90 = .ok (.getfield 182, 3) := by decide +kernel
theorem dX7_readOf_93 : decode cX7_readOf 93 = .ok (.if_icmp .ge 8, 3) := by decide +kernel
theorem dX7_readOf_96 : decode cX7_readOf 96 = .ok (.iload 4, 2) := by decide +kernel
theorem dX7_readOf_98 : decode cX7_readOf 98 = .ok (.goto 7, 3) := by decide +kernel
theorem dX7_readOf_101 : decode cX7_readOf 101 = .ok (.aload_n 0, 1) := by decide +kernel
theorem dX7_readOf_102 : decode cX7_readOf 102 = .ok (.getfield 182, 3) := by decide +kernel
theorem dX7_readOf_105 : decode cX7_readOf 105 = .ok (.putfield 182, 3) := by decide +kernel
theorem dX7_readOf_108 : decode cX7_readOf 108 = .ok (.iinc 3 1, 3) := by decide +kernel
theorem dX7_readOf_111 : decode cX7_readOf 111 = .ok (.goto (-101), 3) := by decide +kernel
theorem dX7_readOf_114 : decode cX7_readOf 114 = .ok (.iload_n 2, 1) := by decide +kernel
theorem dX7_readOf_115 : decode cX7_readOf 115 = .ok (.ireturn, 1) := by decide +kernel
theorem dX7_readBy_0 : decode cX7_readBy 0 = .ok (.aload_n 0, 1) := by decide +kernel
theorem dX7_readBy_1 : decode cX7_readBy 1 = .ok (.aload_n 0, 1) := by decide +kernel
theorem dX7_readBy_2 : decode cX7_readBy 2 = .ok (.iload_n 1, 1) := by decide +kernel
theorem dX7_readBy_3 : decode cX7_readBy 3 = .ok (.invokevirtual 176, 3) := by decide +kernel
theorem dX7_readBy_6 : decode cX7_readBy 6 = .ok (.aload_n 0, 1) := by decide +kernel
theorem dX7_readBy_7 : decode cX7_readBy 7 = .ok (.iload_n 2, 1) := by decide +kernel
theorem dX7_readBy_8 : decode cX7_readBy 8 = .ok (.invokevirtual 191, 3) := by decide +kernel
theorem dX7_readBy_11 : decode cX7_readBy 11 = .ok (.ior, 1) := by decide +kernel
theorem dX7_readBy_12 : decode cX7_readBy 12 = .ok (.invokevirtual 194, 3) := by decide +kernel
theorem dX7_readBy_15 : decode cX7_readBy 15 = .ok (.ireturn, 1) := by decide +kernel
theorem dX7_keep_0 : decode cX7_keep 0 = .ok (.aload_n 0, 1) := by decide +kernel
theorem dX7_keep_1 : decode cX7_keep 1 = .ok (.getfield 167, 3) := by decide +kernel
theorem dX7_keep_4 : decode cX7_keep 4 = .ok (.bipush 24, 2) := by decide +kernel
theorem dX7_keep_6 : decode cX7_keep 6 = .ok (.if_icmp .ne 43, 3) := by decide +kernel
theorem dX7_keep_9 : decode cX7_keep 9 = .ok (.iconst 0, 1) := by decide +kernel
theorem dX7_keep_10 : decode cX7_keep 10 = .ok (.istore_n 1, 1) := by decide +kernel
theorem dX7_keep_11 : decode cX7_keep 11 = .ok (.iload_n 1, 1) := by decide +kernel
theorem dX7_keep_12 : decode cX7_keep 12 = .ok (.sipush 851, 3) := by decide +kernel
theorem dX7_keep_15 : decode cX7_keep 15 = .ok (.if_icmp .ge 24, 3) := by decide +kernel
theorem dX7_keep_18 : decode cX7_keep 18 = .ok (.aload_n 0, 1) := by decide +kernel
theorem dX7_keep_19 : decode cX7_keep 19 = .ok (.getfield 25, 3) := by decide +kernel
theorem dX7_keep_22 : decode cX7_keep 22 = .ok (.iload_n 1, 1) := by decide +kernel
theorem dX7_keep_23 : decode cX7_keep 23 = .ok (.aload_n 0, 1) := by decide +kernel
theorem dX7_keep_24 : decode cX7_keep 24 = .ok (.getfield 25, 3) := by decide +kernel
theorem dX7_keep_27 : decode cX7_keep 27 = .ok (.iload_n 1, 1) := by decide +kernel
theorem dX7_keep_28 : decode cX7_keep 28 = .ok (.bipush 37, 2) := by decide +kernel
theorem dX7_keep_30 : decode cX7_keep 30 = .ok (.iadd, 1) := by decide +kernel
theorem dX7_keep_31 : decode cX7_keep 31 = .ok (.iaload, 1) := by decide +kernel
theorem dX7_keep_32 : decode cX7_keep 32 = .ok (.iastore, 1) := by decide +kernel
theorem dX7_keep_33 : decode cX7_keep 33 = .ok (.iinc 1 1, 3) := by decide +kernel
theorem dX7_keep_36 : decode cX7_keep 36 = .ok (.goto (-25), 3) := by decide +kernel
theorem dX7_keep_39 : decode cX7_keep 39 = .ok (.aload_n 0, 1) := by decide +kernel
theorem dX7_keep_40 : decode cX7_keep 40 = .ok (.dup, 1) := by decide +kernel
theorem dX7_keep_41 : decode cX7_keep 41 = .ok (.getfield 167, 3) := by decide +kernel
theorem dX7_keep_44 : decode cX7_keep 44 = .ok (.iconst 1, 1) := by decide +kernel
theorem dX7_keep_45 : decode cX7_keep 45 = .ok (.isub, 1) := by decide +kernel
theorem dX7_keep_46 : decode cX7_keep 46 = .ok (.putfield 167, 3) := by decide +kernel
theorem dX7_keep_49 : decode cX7_keep 49 = .ok (.iconst 0, 1) := by decide +kernel
theorem dX7_keep_50 : decode cX7_keep 50 = .ok (.istore_n 1, 1) := by decide +kernel
theorem dX7_keep_51 : decode cX7_keep 51 = .ok (.iload_n 1, 1) := by decide +kernel
theorem dX7_keep_52 : decode cX7_keep 52 = .ok (.bipush 37, 2) := by decide +kernel
theorem dX7_keep_54 : decode cX7_keep 54 = .ok (.if_icmp .ge 29, 3) := by decide +kernel
theorem dX7_keep_57 : decode cX7_keep 57 = .ok (.aload_n 0, 1) := by decide +kernel
theorem dX7_keep_58 : decode cX7_keep 58 = .ok (.getfield 25, 3) := by decide +kernel
theorem dX7_keep_61 : decode cX7_keep 61 = .ok (.bipush 37, 2) := by decide +kernel
theorem dX7_keep_63 : decode cX7_keep 63 = .ok (.aload_n 0, 1) := by decide +kernel
theorem dX7_keep_64 : decode cX7_keep 64 = .ok (.getfield 167, 3) := by decide +kernel
theorem dX7_keep_67 : decode cX7_keep 67 = .ok (.imul, 1) := by decide +kernel
theorem dX7_keep_68 : decode cX7_keep 68 = .ok (.iload_n 1, 1) := by decide +kernel
theorem dX7_keep_69 : decode cX7_keep 69 = .ok (.iadd, 1) := by decide +kernel
theorem dX7_keep_70 : decode cX7_keep 70 = .ok (.aload_n 0, 1) := by decide +kernel
theorem dX7_keep_71 : decode cX7_keep 71 = .ok (.getfield 19, 3) := by decide +kernel
theorem dX7_keep_74 : decode cX7_keep 74 = .ok (.iload_n 1, 1) := by decide +kernel
theorem dX7_keep_75 : decode cX7_keep 75 = .ok (.iaload, 1) := by decide +kernel
theorem dX7_keep_76 : decode cX7_keep 76 = .ok (.iastore, 1) := by decide +kernel
theorem dX7_keep_77 : decode cX7_keep 77 = .ok (.iinc 1 1, 3) := by decide +kernel
theorem dX7_keep_80 : decode cX7_keep 80 = .ok (.goto (-29), 3) := by decide +kernel
theorem dX7_keep_83 : decode cX7_keep 83 = .ok (.aload_n 0, 1) := by decide +kernel
theorem dX7_keep_84 : decode cX7_keep 84 = .ok (.dup, 1) := by decide +kernel
theorem dX7_keep_85 : decode cX7_keep 85 = .ok (.getfield 167, 3) := by decide +kernel
theorem dX7_keep_88 : decode cX7_keep 88 = .ok (.iconst 1, 1) := by decide +kernel
theorem dX7_keep_89 : decode cX7_keep 89 = .ok (.iadd, 1) := by decide +kernel
theorem dX7_keep_90 : decode cX7_keep 90 = .ok (.putfield 167, 3) := by decide +kernel
theorem dX7_keep_93 : decode cX7_keep 93 = .ok (.return_, 1) := by decide +kernel
theorem dX7_write_0 : decode cX7_write 0 = .ok (.aload_n 0, 1) := by decide +kernel
theorem dX7_write_1 : decode cX7_write 1 = .ok (.iconst 0, 1) := by decide +kernel
theorem dX7_write_2 : decode cX7_write 2 = .ok (.putfield 41, 3) := by decide +kernel
theorem dX7_write_5 : decode cX7_write 5 = .ok (.iload_n 1, 1) := by decide +kernel
theorem dX7_write_6 : decode cX7_write 6 = .ok (.invokestatic 197, 3) := by decide +kernel
theorem dX7_write_9 : decode cX7_write 9 = .ok (.ifCond .eq 19, 3) := by decide +kernel
theorem dX7_write_12 : decode cX7_write 12 = .ok (.aload_n 0, 1) := by decide +kernel
theorem dX7_write_13 : decode cX7_write 13 = .ok (.iload_n 2, 1) := by decide +kernel
theorem dX7_write_14 : decode cX7_write 14 = .ok (.invokevirtual 200, 3) := by decide +kernel
theorem dX7_write_17 : decode cX7_write 17 = .ok (.ifCond .eq 11, 3) := by decide +kernel
theorem dX7_write_20 : decode cX7_write 20 = .ok (.aload_n 0, 1) := by decide +kernel
theorem dX7_write_21 : decode cX7_write 21 = .ok (.iload_n 3, 1) := by decide +kernel
theorem dX7_write_22 : decode cX7_write 22 = .ok (.invokevirtual 203, 3) := by decide +kernel
theorem dX7_write_25 : decode cX7_write 25 = .ok (.ifCond .ne 6, 3) := by decide +kernel
theorem dX7_write_28 : decode cX7_write 28 = .ok (.ldc 61, 2) := by decide +kernel
theorem dX7_write_30 : decode cX7_write 30 = .ok (.ireturn, 1) := by decide +kernel
theorem dX7_write_31 : decode cX7_write 31 = .ok (.aload_n 0, 1) := by decide +kernel
theorem dX7_write_32 : decode cX7_write 32 = .ok (.invokevirtual 206, 3) := by decide +kernel
theorem dX7_write_35 : decode cX7_write 35 = .ok (.aload_n 0, 1) := by decide +kernel
theorem dX7_write_36 : decode cX7_write 36 = .ok (.iload_n 1, 1) := by decide +kernel
theorem dX7_write_37 : decode cX7_write 37 = .ok (.iload_n 2, 1) := by decide +kernel
theorem dX7_write_38 : decode cX7_write 38 = .ok (.invokevirtual 170, 3) := by decide +kernel
theorem dX7_write_41 : decode cX7_write 41 = .ok (.istore 4, 2) := by decide +kernel
theorem dX7_write_43 : decode cX7_write 43 = .ok (.aload_n 0, 1) := by decide +kernel
theorem dX7_write_44 : decode cX7_write 44 = .ok (.getfield 19, 3) := by decide +kernel
theorem dX7_write_47 : decode cX7_write 47 = .ok (.bipush 19, 2) := by decide +kernel
theorem dX7_write_49 : decode cX7_write 49 = .ok (.bipush 9, 2) := by decide +kernel
theorem dX7_write_51 : decode cX7_write 51 = .ok (.iload_n 1, 1) := by decide +kernel
theorem dX7_write_52 : decode cX7_write 52 = .ok (.imul, 1) := by decide +kernel
theorem dX7_write_53 : decode cX7_write 53 = .ok (.iadd, 1) := by decide +kernel
theorem dX7_write_54 : decode cX7_write 54 = .ok (.iload_n 2, 1) := by decide +kernel
theorem dX7_write_55 : decode cX7_write 55 = .ok (.iadd, 1) := by decide +kernel
theorem dX7_write_56 : decode cX7_write 56 = .ok (.iload_n 3, 1) := by decide +kernel
theorem dX7_write_57 : decode cX7_write 57 = .ok (.iastore, 1) := by decide +kernel
theorem dX7_write_58 : decode cX7_write 58 = .ok (.iload 4, 2) := by decide +kernel
theorem dX7_write_60 : decode cX7_write 60 = .ok (.ireturn, 1) := by decide +kernel
theorem dX7_turn_0 : decode cX7_turn 0 = .ok (.aload_n 0, 1) := by decide +kernel
theorem dX7_turn_1 : decode cX7_turn 1 = .ok (.iconst 0, 1) := by decide +kernel
theorem dX7_turn_2 : decode cX7_turn 2 = .ok (.putfield 41, 3) := by decide +kernel
theorem dX7_turn_5 : decode cX7_turn 5 = .ok (.aload_n 0, 1) := by decide +kernel
theorem dX7_turn_6 : decode cX7_turn 6 = .ok (.invokevirtual 209, 3) := by decide +kernel
theorem dX7_turn_9 : decode cX7_turn 9 = .ok (.ifCond .ne 6, 3) := by decide +kernel
theorem dX7_turn_12 : decode cX7_turn 12 = .ok (.ldc 213, 2) := by decide +kernel
theorem dX7_turn_14 : decode cX7_turn 14 = .ok (.ireturn, 1) := by decide +kernel
theorem dX7_turn_15 : decode cX7_turn 15 = .ok (.aload_n 0, 1) := by decide +kernel
theorem dX7_turn_16 : decode cX7_turn 16 = .ok (.invokevirtual 206, 3) := by decide +kernel
theorem dX7_turn_19 : decode cX7_turn 19 = .ok (.iconst 0, 1) := by decide +kernel
theorem dX7_turn_20 : decode cX7_turn 20 = .ok (.istore_n 1, 1) := by decide +kernel
theorem dX7_turn_21 : decode cX7_turn 21 = .ok (.iload_n 1, 1) := by decide +kernel
theorem dX7_turn_22 : decode cX7_turn 22 = .ok (.bipush 9, 2) := by decide +kernel
theorem dX7_turn_24 : decode cX7_turn 24 = .ok (.if_icmp .ge 47, 3) := by decide +kernel
theorem dX7_turn_27 : decode cX7_turn 27 = .ok (.aload_n 0, 1) := by decide +kernel
theorem dX7_turn_28 : decode cX7_turn 28 = .ok (.getfield 19, 3) := by decide +kernel
theorem dX7_turn_31 : decode cX7_turn 31 = .ok (.bipush 19, 2) := by decide +kernel
theorem dX7_turn_33 : decode cX7_turn 33 = .ok (.iload_n 1, 1) := by decide +kernel
theorem dX7_turn_34 : decode cX7_turn 34 = .ok (.iadd, 1) := by decide +kernel
theorem dX7_turn_35 : decode cX7_turn 35 = .ok (.iaload, 1) := by decide +kernel
theorem dX7_turn_36 : decode cX7_turn 36 = .ok (.istore_n 2, 1) := by decide +kernel
theorem dX7_turn_37 : decode cX7_turn 37 = .ok (.aload_n 0, 1) := by decide +kernel
theorem dX7_turn_38 : decode cX7_turn 38 = .ok (.getfield 19, 3) := by decide +kernel
theorem dX7_turn_41 : decode cX7_turn 41 = .ok (.bipush 19, 2) := by decide +kernel
theorem dX7_turn_43 : decode cX7_turn 43 = .ok (.iload_n 1, 1) := by decide +kernel
theorem dX7_turn_44 : decode cX7_turn 44 = .ok (.iadd, 1) := by decide +kernel
theorem dX7_turn_45 : decode cX7_turn 45 = .ok (.aload_n 0, 1) := by decide +kernel
theorem dX7_turn_46 : decode cX7_turn 46 = .ok (.getfield 19, 3) := by decide +kernel
theorem dX7_turn_49 : decode cX7_turn 49 = .ok (.bipush 28, 2) := by decide +kernel
theorem dX7_turn_51 : decode cX7_turn 51 = .ok (.iload_n 1, 1) := by decide +kernel
theorem dX7_turn_52 : decode cX7_turn 52 = .ok (.iadd, 1) := by decide +kernel
theorem dX7_turn_53 : decode cX7_turn 53 = .ok (.iaload, 1) := by decide +kernel
theorem dX7_turn_54 : decode cX7_turn 54 = .ok (.iastore, 1) := by decide +kernel
theorem dX7_turn_55 : decode cX7_turn 55 = .ok (.aload_n 0, 1) := by decide +kernel
theorem dX7_turn_56 : decode cX7_turn 56 = .ok (.getfield 19, 3) := by decide +kernel
theorem dX7_turn_59 : decode cX7_turn 59 = .ok (.bipush 28, 2) := by decide +kernel
theorem dX7_turn_61 : decode cX7_turn 61 = .ok (.iload_n 1, 1) := by decide +kernel
theorem dX7_turn_62 : decode cX7_turn 62 = .ok (.iadd, 1) := by decide +kernel
theorem dX7_turn_63 : decode cX7_turn 63 = .ok (.iload_n 2, 1) := by decide +kernel
theorem dX7_turn_64 : decode cX7_turn 64 = .ok (.iastore, 1) := by decide +kernel
theorem dX7_turn_65 : decode cX7_turn 65 = .ok (.iinc 1 1, 3) := by decide +kernel
theorem dX7_turn_68 : decode cX7_turn 68 = .ok (.goto (-47), 3) := by decide +kernel
theorem dX7_turn_71 : decode cX7_turn 71 = .ok (.aload_n 0, 1) := by decide +kernel
theorem dX7_turn_72 : decode cX7_turn 72 = .ok (.getfield 19, 3) := by decide +kernel
theorem dX7_turn_75 : decode cX7_turn 75 = .ok (.iconst 2, 1) := by decide +kernel
theorem dX7_turn_76 : decode cX7_turn 76 = .ok (.iaload, 1) := by decide +kernel
theorem dX7_turn_77 : decode cX7_turn 77 = .ok (.ireturn, 1) := by decide +kernel
theorem dX7_undo_0 : decode cX7_undo 0 = .ok (.aload_n 0, 1) := by decide +kernel
theorem dX7_undo_1 : decode cX7_undo 1 = .ok (.iconst 0, 1) := by decide +kernel
theorem dX7_undo_2 : decode cX7_undo 2 = .ok (.putfield 41, 3) := by decide +kernel
theorem dX7_undo_5 : decode cX7_undo 5 = .ok (.aload_n 0, 1) := by decide +kernel
theorem dX7_undo_6 : decode cX7_undo 6 = .ok (.getfield 167, 3) := by decide +kernel
theorem dX7_undo_9 : decode cX7_undo 9 = .ok (.ifCond .ne 6, 3) := by decide +kernel
theorem dX7_undo_12 : decode cX7_undo 12 = .ok (.ldc 213, 2) := by decide +kernel
theorem dX7_undo_14 : decode cX7_undo 14 = .ok (.ireturn, 1) := by decide +kernel
theorem dX7_undo_15 : decode cX7_undo 15 = .ok (.aload_n 0, 1) := by decide +kernel
theorem dX7_undo_16 : decode cX7_undo 16 = .ok (.dup, 1) := by decide +kernel
theorem dX7_undo_17 : decode cX7_undo 17 = .ok (.getfield 167, 3) := by decide +kernel
theorem dX7_undo_20 : decode cX7_undo 20 = .ok (.iconst 1, 1) := by decide +kernel
theorem dX7_undo_21 : decode cX7_undo 21 = .ok (.isub, 1) := by decide +kernel
theorem dX7_undo_22 : decode cX7_undo 22 = .ok (.putfield 167, 3) := by decide +kernel
theorem dX7_undo_25 : decode cX7_undo 25 = .ok (.iconst 0, 1) := by decide +kernel
theorem dX7_undo_26 : decode cX7_undo 26 = .ok (.istore_n 1, 1) := by decide +kernel
theorem dX7_undo_27 : decode cX7_undo 27 = .ok (.iload_n 1, 1) := by decide +kernel
theorem dX7_undo_28 : decode cX7_undo 28 = .ok (.bipush 37, 2) := by decide +kernel
theorem dX7_undo_30 : decode cX7_undo 30 = .ok (.if_icmp .ge 29, 3) := by decide +kernel
theorem dX7_undo_33 : decode cX7_undo 33 = .ok (.aload_n 0, 1) := by decide +kernel
theorem dX7_undo_34 : decode cX7_undo 34 = .ok (.getfield 19, 3) := by decide +kernel
theorem dX7_undo_37 : decode cX7_undo 37 = .ok (.iload_n 1, 1) := by decide +kernel
theorem dX7_undo_38 : decode cX7_undo 38 = .ok (.aload_n 0, 1) := by decide +kernel
theorem dX7_undo_39 : decode cX7_undo 39 = .ok (.getfield 25, 3) := by decide +kernel
theorem dX7_undo_42 : decode cX7_undo 42 = .ok (.bipush 37, 2) := by decide +kernel
theorem dX7_undo_44 : decode cX7_undo 44 = .ok (.aload_n 0, 1) := by decide +kernel
theorem dX7_undo_45 : decode cX7_undo 45 = .ok (.getfield 167, 3) := by decide +kernel
theorem dX7_undo_48 : decode cX7_undo 48 = .ok (.imul, 1) := by decide +kernel
theorem dX7_undo_49 : decode cX7_undo 49 = .ok (.iload_n 1, 1) := by decide +kernel
theorem dX7_undo_50 : decode cX7_undo 50 = .ok (.iadd, 1) := by decide +kernel
theorem dX7_undo_51 : decode cX7_undo 51 = .ok (.iaload, 1) := by decide +kernel
theorem dX7_undo_52 : decode cX7_undo 52 = .ok (.iastore, 1) := by decide +kernel
theorem dX7_undo_53 : decode cX7_undo 53 = .ok (.iinc 1 1, 3) := by decide +kernel
theorem dX7_undo_56 : decode cX7_undo 56 = .ok (.goto (-29), 3) := by decide +kernel
theorem dX7_undo_59 : decode cX7_undo 59 = .ok (.aload_n 0, 1) := by decide +kernel
theorem dX7_undo_60 : decode cX7_undo 60 = .ok (.getfield 167, 3) := by decide +kernel
theorem dX7_undo_63 : decode cX7_undo 63 = .ok (.ireturn, 1) := by decide +kernel
theorem dX7_at_0 : decode cX7_at 0 = .ok (.aload_n 0, 1) := by decide +kernel
theorem dX7_at_1 : decode cX7_at 1 = .ok (.iconst 0, 1) := by decide +kernel
theorem dX7_at_2 : decode cX7_at 2 = .ok (.putfield 41, 3) := by decide +kernel
theorem dX7_at_5 : decode cX7_at 5 = .ok (.iload_n 1, 1) := by decide +kernel
theorem dX7_at_6 : decode cX7_at 6 = .ok (.invokestatic 197, 3) := by decide +kernel
theorem dX7_at_9 : decode cX7_at 9 = .ok (.ifCond .eq 20, 3) := by decide +kernel
theorem dX7_at_12 : decode cX7_at 12 = .ok (.aload_n 0, 1) := by decide +kernel
theorem dX7_at_13 : decode cX7_at 13 = .ok (.iload_n 2, 1) := by decide +kernel
theorem dX7_at_14 : decode cX7_at 14 = .ok (.invokevirtual 200, 3) := by decide +kernel
theorem dX7_at_17 : decode cX7_at 17 = .ok (.ifCond .eq 12, 3) := by decide +kernel
theorem dX7_at_20 : decode cX7_at 20 = .ok (.aload_n 0, 1) := by decide +kernel
theorem dX7_at_21 : decode cX7_at 21 = .ok (.iload_n 1, 1) := by decide +kernel
theorem dX7_at_22 : decode cX7_at 22 = .ok (.iload_n 2, 1) := by decide +kernel
theorem dX7_at_23 : decode cX7_at 23 = .ok (.invokevirtual 170, 3) := by decide +kernel
theorem dX7_at_26 : decode cX7_at 26 = .ok (.goto 5, 3) := by decide +kernel
theorem dX7_at_29 : decode cX7_at 29 = .ok (.ldc 61, 2) := by decide +kernel
theorem dX7_at_31 : decode cX7_at 31 = .ok (.ireturn, 1) := by decide +kernel
theorem dX7_letter_0 : decode cX7_letter 0 = .ok (.aload_n 0, 1) := by decide +kernel
theorem dX7_letter_1 : decode cX7_letter 1 = .ok (.iconst 0, 1) := by decide +kernel
theorem dX7_letter_2 : decode cX7_letter 2 = .ok (.putfield 41, 3) := by decide +kernel
theorem dX7_letter_5 : decode cX7_letter 5 = .ok (.aload_n 0, 1) := by decide +kernel
theorem dX7_letter_6 : decode cX7_letter 6 = .ok (.iload_n 1, 1) := by decide +kernel
theorem dX7_letter_7 : decode cX7_letter 7 = .ok (.invokevirtual 203, 3) := by decide +kernel
theorem dX7_letter_10 : decode cX7_letter 10 = .ok (.ifCond .eq 15, 3) := by decide +kernel
theorem dX7_letter_13 : decode cX7_letter 13 = .ok (.iload_n 2, 1) := by decide +kernel
theorem dX7_letter_14 : decode cX7_letter 14 = .ok (.i2l, 1) := by decide +kernel
theorem dX7_letter_15 : decode cX7_letter 15 = .ok (.lconst 0, 1) := by decide +kernel
theorem dX7_letter_16 : decode cX7_letter 16 = .ok (.ldc2_w 59, 3) := by decide +kernel
theorem dX7_letter_19 : decode cX7_letter 19 = .ok (.invokestatic 51, 3) := by decide +kernel
theorem dX7_letter_22 : decode cX7_letter 22 = .ok (.ifCond .ne 6, 3) := by decide +kernel
theorem dX7_letter_25 : decode cX7_letter 25 = .ok (.ldc 61, 2) := by decide +kernel
theorem dX7_letter_27 : decode cX7_letter 27 = .ok (.ireturn, 1) := by decide +kernel
theorem dX7_letter_28 : decode cX7_letter 28 = .ok (.iload_n 2, 1) := by decide +kernel
theorem dX7_letter_29 : decode cX7_letter 29 = .ok (.ifCond .ne 11, 3) := by decide +kernel
theorem dX7_letter_32 : decode cX7_letter 32 = .ok (.aload_n 0, 1) := by decide +kernel
theorem dX7_letter_33 : decode cX7_letter 33 = .ok (.iload_n 1, 1) := by decide +kernel
theorem dX7_letter_34 : decode cX7_letter 34 = .ok (.invokevirtual 176, 3) := by decide +kernel
theorem dX7_letter_37 : decode cX7_letter 37 = .ok (.goto 24, 3) := by decide +kernel
theorem dX7_letter_40 : decode cX7_letter 40 = .ok (.iload_n 2, 1) := by decide +kernel
theorem dX7_letter_41 : decode cX7_letter 41 = .ok (.iconst 1, 1) := by decide +kernel
theorem dX7_letter_42 : decode cX7_letter 42 = .ok (.if_icmp .ne 14, 3) := by decide +kernel
theorem dX7_letter_45 : decode cX7_letter 45 = .ok (.aload_n 0, 1) := by decide +kernel
theorem dX7_letter_46 : decode cX7_letter 46 = .ok (.iload_n 1, 1) := by decide +kernel
theorem dX7_letter_47 : decode cX7_letter 47 = .ok (.invokevirtual 176, 3) := by decide +kernel
theorem dX7_letter_50 : decode cX7_letter 50 = .ok (.invokestatic 179, 3) := by decide +kernel
theorem dX7_letter_53 : decode cX7_letter 53 = .ok (.goto 8, 3) := by decide +kernel
theorem dX7_letter_56 : decode cX7_letter 56 = .ok (.aload_n 0, 1) := by decide +kernel
theorem dX7_letter_57 : decode cX7_letter 57 = .ok (.iload_n 1, 1) := by decide +kernel
theorem dX7_letter_58 : decode cX7_letter 58 = .ok (.invokevirtual 191, 3) := by decide +kernel
theorem dX7_letter_61 : decode cX7_letter 61 = .ok (.ireturn, 1) := by decide +kernel
theorem dX7_light_0 : decode cX7_light 0 = .ok (.aload_n 0, 1) := by decide +kernel
theorem dX7_light_1 : decode cX7_light 1 = .ok (.iconst 0, 1) := by decide +kernel
theorem dX7_light_2 : decode cX7_light 2 = .ok (.putfield 41, 3) := by decide +kernel
theorem dX7_light_5 : decode cX7_light 5 = .ok (.iload_n 1, 1) := by decide +kernel
theorem dX7_light_6 : decode cX7_light 6 = .ok (.invokestatic 197, 3) := by decide +kernel
theorem dX7_light_9 : decode cX7_light 9 = .ok (.ifCond .eq 23, 3) := by decide +kernel
theorem dX7_light_12 : decode cX7_light 12 = .ok (.aload_n 0, 1) := by decide +kernel
theorem dX7_light_13 : decode cX7_light 13 = .ok (.iload_n 2, 1) := by decide +kernel
theorem dX7_light_14 : decode cX7_light 14 = .ok (.invokevirtual 200, 3) := by decide +kernel
theorem dX7_light_17 : decode cX7_light 17 = .ok (.ifCond .eq 15, 3) := by decide +kernel
theorem dX7_light_20 : decode cX7_light 20 = .ok (.iload_n 3, 1) := by decide +kernel
theorem dX7_light_21 : decode cX7_light 21 = .ok (.i2l, 1) := by decide +kernel
theorem dX7_light_22 : decode cX7_light 22 = .ok (.lconst 0, 1) := by decide +kernel
theorem dX7_light_23 : decode cX7_light 23 = .ok (.ldc2_w 214, 3) := by decide +kernel
theorem dX7_light_26 : decode cX7_light 26 = .ok (.invokestatic 51, 3) := by decide +kernel
theorem dX7_light_29 : decode cX7_light 29 = .ok (.ifCond .ne 6, 3) := by decide +kernel
theorem dX7_light_32 : decode cX7_light 32 = .ok (.ldc 61, 2) := by decide +kernel
theorem dX7_light_34 : decode cX7_light 34 = .ok (.ireturn, 1) := by decide +kernel
theorem dX7_light_35 : decode cX7_light 35 = .ok (.aload_n 0, 1) := by decide +kernel
theorem dX7_light_36 : decode cX7_light 36 = .ok (.aload_n 0, 1) := by decide +kernel
theorem dX7_light_37 : decode cX7_light 37 = .ok (.iload_n 1, 1) := by decide +kernel
theorem dX7_light_38 : decode cX7_light 38 = .ok (.iload_n 2, 1) := by decide +kernel
theorem dX7_light_39 : decode cX7_light 39 = .ok (.invokevirtual 170, 3) := by decide +kernel
theorem dX7_light_42 : decode cX7_light 42 = .ok (.invokevirtual 176, 3) := by decide +kernel
theorem dX7_light_45 : decode cX7_light 45 = .ok (.aload_n 0, 1) := by decide +kernel
theorem dX7_light_46 : decode cX7_light 46 = .ok (.aload_n 0, 1) := by decide +kernel
theorem dX7_light_47 : decode cX7_light 47 = .ok (.iload_n 1, 1) := by decide +kernel
theorem dX7_light_48 : decode cX7_light 48 = .ok (.iload_n 2, 1) := by decide +kernel
theorem dX7_light_49 : decode cX7_light 49 = .ok (.invokevirtual 216, 3) := by decide +kernel
theorem dX7_light_52 : decode cX7_light 52 = .ok (.invokevirtual 191, 3) := by decide +kernel
theorem dX7_light_55 : decode cX7_light 55 = .ok (.ior, 1) := by decide +kernel
theorem dX7_light_56 : decode cX7_light 56 = .ok (.istore 4, 2) := by decide +kernel
theorem dX7_light_58 : decode cX7_light 58 = .ok (.aload_n 0, 1) := by decide +kernel
theorem dX7_light_59 : decode cX7_light 59 = .ok (.iload 4, 2) := by decide +kernel
theorem dX7_light_61 : decode cX7_light 61 = .ok (.invokevirtual 194, 3) := by decide +kernel
theorem dX7_light_64 : decode cX7_light 64 = .ok (.istore 5, 2) := by decide +kernel
theorem dX7_light_66 : decode cX7_light 66 = .ok (.iload_n 3, 1) := by decide +kernel
theorem dX7_light_67 : decode cX7_light 67 = .ok (.ifCond .ne 8, 3) := by decide +kernel
theorem dX7_light_70 : decode cX7_light 70 = .ok (.iload 4, 2) := by decide +kernel
theorem dX7_light_72 : decode cX7_light 72 = .ok (.goto 38, 3) := by decide +kernel
theorem dX7_light_75 : decode cX7_light 75 = .ok (.iload_n 3, 1) := by decide +kernel
theorem dX7_light_76 : decode cX7_light 76 = .ok (.iconst 1, 1) := by decide +kernel
theorem dX7_light_77 : decode cX7_light 77 = .ok (.if_icmp .ne 8, 3) := by decide +kernel
theorem dX7_light_80 : decode cX7_light 80 = .ok (.iload 5, 2) := by decide +kernel
theorem dX7_light_82 : decode cX7_light 82 = .ok (.goto 28, 3) := by decide +kernel
theorem dX7_light_85 : decode cX7_light 85 = .ok (.iload_n 3, 1) := by decide +kernel
theorem dX7_light_86 : decode cX7_light 86 = .ok (.iconst 2, 1) := by decide +kernel
theorem dX7_light_87 : decode cX7_light 87 = .ok (.if_icmp .ne 10, 3) := by decide +kernel
theorem dX7_light_90 : decode cX7_light 90 = .ok (.aload_n 0, 1) := by decide +kernel
theorem dX7_light_91 : decode cX7_light 91 = .ok (.getfield 182, 3) := by decide +kernel
theorem dX7_light_94 : decode cX7_light 94 = .ok (.goto 16, 3) := by decide +kernel
theorem dX7_light_97 : decode cX7_light 97 = .ok (.aload_n 0, 1) := by decide +kernel
theorem dX7_light_98 : decode cX7_light 98 = .ok (.getfield 188, 3) := by decide +kernel
theorem dX7_light_101 : decode cX7_light 101 = .ok (.iconst 1, 1) := by decide +kernel
theorem dX7_light_102 : decode cX7_light 102 = .ok (.if_icmp .le 7, 3) := by decide +kernel
theorem dX7_light_105 : decode cX7_light 105 = .ok (.iconst 1, 1) := by decide +kernel
theorem dX7_light_106 : decode cX7_light 106 = .ok (.goto 4, 3) := by decide +kernel
theorem dX7_light_109 : decode cX7_light 109 = .ok (.iconst 0, 1) := by decide +kernel
theorem dX7_light_110 : decode cX7_light 110 = .ok (.ireturn, 1) := by decide +kernel
theorem dX7_damp_0 : decode cX7_damp 0 = .ok (.aload_n 0, 1) := by decide +kernel
theorem dX7_damp_1 : decode cX7_damp 1 = .ok (.iconst 0, 1) := by decide +kernel
theorem dX7_damp_2 : decode cX7_damp 2 = .ok (.putfield 41, 3) := by decide +kernel
theorem dX7_damp_5 : decode cX7_damp 5 = .ok (.iload_n 1, 1) := by decide +kernel
theorem dX7_damp_6 : decode cX7_damp 6 = .ok (.invokestatic 197, 3) := by decide +kernel
theorem dX7_damp_9 : decode cX7_damp 9 = .ok (.ifCond .eq 34, 3) := by decide +kernel
theorem dX7_damp_12 : decode cX7_damp 12 = .ok (.aload_n 0, 1) := by decide +kernel
theorem dX7_damp_13 : decode cX7_damp 13 = .ok (.iload_n 2, 1) := by decide +kernel
theorem dX7_damp_14 : decode cX7_damp 14 = .ok (.invokevirtual 200, 3) := by decide +kernel
theorem dX7_damp_17 : decode cX7_damp 17 = .ok (.ifCond .eq 26, 3) := by decide +kernel
theorem dX7_damp_20 : decode cX7_damp 20 = .ok (.iload_n 3, 1) := by decide +kernel
theorem dX7_damp_21 : decode cX7_damp 21 = .ok (.i2l, 1) := by decide +kernel
theorem dX7_damp_22 : decode cX7_damp 22 = .ok (.lconst 0, 1) := by decide +kernel
theorem dX7_damp_23 : decode cX7_damp 23 = .ok (.ldc2_w 219, 3) := by decide +kernel
theorem dX7_damp_26 : decode cX7_damp 26 = .ok (.invokestatic 51, 3) := by decide +kernel
theorem dX7_damp_29 : decode cX7_damp 29 = .ok (.ifCond .eq 14, 3) := by decide +kernel
theorem dX7_damp_32 : decode cX7_damp 32 = .ok (.iload 4, 2) := by decide +kernel
theorem dX7_damp_34 : decode cX7_damp 34 = .ok (.i2l, 1) := by decide +kernel
theorem dX7_damp_35 : decode cX7_damp 35 = .ok (.lconst 0, 1) := by decide +kernel
theorem dX7_damp_36 : decode cX7_damp 36 = .ok (.lconst 1, 1) := by decide +kernel
theorem dX7_damp_37 : decode cX7_damp 37 = .ok (.invokestatic 51, 3) := by decide +kernel
theorem dX7_damp_40 : decode cX7_damp 40 = .ok (.ifCond .ne 6, 3) := by decide +kernel
theorem dX7_damp_43 : decode cX7_damp 43 = .ok (.ldc 61, 2) := by decide +kernel
theorem dX7_damp_45 : decode cX7_damp 45 = .ok (.ireturn, 1) := by decide +kernel
theorem dX7_damp_46 : decode cX7_damp 46 = .ok (.aload_n 0, 1) := by decide +kernel
theorem dX7_damp_47 : decode cX7_damp 47 = .ok (.iload_n 1, 1) := by decide +kernel
theorem dX7_damp_48 : decode cX7_damp 48 = .ok (.iload_n 2, 1) := by decide +kernel
theorem dX7_damp_49 : decode cX7_damp 49 = .ok (.invokevirtual 216, 3) := by decide +kernel
theorem dX7_damp_52 : decode cX7_damp 52 = .ok (.istore 5, 2) := by decide +kernel
theorem dX7_damp_54 : decode cX7_damp 54 = .ok (.aload_n 0, 1) := by decide +kernel
theorem dX7_damp_55 : decode cX7_damp 55 = .ok (.iload 5, 2) := by decide +kernel
theorem dX7_damp_57 : decode cX7_damp 57 = .ok (.invokevirtual 173, 3) := by decide +kernel
theorem dX7_damp_60 : decode cX7_damp 60 = .ok (.iconst 2, 1) := by decide +kernel
theorem dX7_damp_61 : decode cX7_damp 61 = .ok (.if_icmp .ne 7, 3) := by decide +kernel
theorem dX7_damp_64 : decode cX7_damp 64 = .ok (.iconst 0, 1) := by decide +kernel
theorem dX7_damp_65 : decode cX7_damp 65 = .ok (.goto 30, 3) := by decide +kernel
theorem dX7_damp_68 : decode cX7_damp 68 = .ok (.aload_n 0, 1) := by decide +kernel
theorem dX7_damp_69 : decode cX7_damp 69 = .ok (.iload 5, 2) := by decide +kernel
theorem dX7_damp_71 : decode cX7_damp 71 = .ok (.invokevirtual 173, 3) := by decide +kernel
theorem dX7_damp_74 : decode cX7_damp 74 = .ok (.iconst 3, 1) := by decide +kernel
theorem dX7_damp_75 : decode cX7_damp 75 = .ok (.if_icmp .ne 14, 3) := by decide +kernel
theorem dX7_damp_78 : decode cX7_damp 78 = .ok (.iconst 2, 1) := by decide +kernel
theorem dX7_damp_79 : decode cX7_damp 79 = .ok (.aload_n 0, 1) := by decide +kernel
theorem dX7_damp_80 : decode cX7_damp 80 = .ok (.getfield 19, 3) := by decide +kernel
theorem dX7_damp_83 : decode cX7_damp 83 = .ok (.iconst 0, 1) := by decide +kernel
theorem dX7_damp_84 : decode cX7_damp 84 = .ok (.iaload, 1) := by decide +kernel
theorem dX7_damp_85 : decode cX7_damp 85 = .ok (.imul, 1) := by decide +kernel
theorem dX7_damp_86 : decode cX7_damp 86 = .ok (.goto 9, 3) := by decide +kernel
theorem dX7_damp_89 : decode cX7_damp 89 = .ok (.aload_n 0, 1) := by decide +kernel
theorem dX7_damp_90 : decode cX7_damp 90 = .ok (.getfield 19, 3) := by decide +kernel
theorem dX7_damp_93 : decode cX7_damp 93 = .ok (.iconst 0, 1) := by decide +kernel
theorem dX7_damp_94 : decode cX7_damp 94 = .ok (.iaload, 1) := by decide +kernel
theorem dX7_damp_95 : decode cX7_damp 95 = .ok (.istore 6, 2) := by decide +kernel
theorem dX7_damp_97 : decode cX7_damp 97 = .ok (.aload_n 0, 1) := by decide +kernel
theorem dX7_damp_98 : decode cX7_damp 98 = .ok (.aload_n 0, 1) := by decide +kernel
theorem dX7_damp_99 : decode cX7_damp 99 = .ok (.iload_n 1, 1) := by decide +kernel
theorem dX7_damp_100 : decode cX7_damp 100 = .ok (.iload_n 2, 1) := by decide +kernel
theorem dX7_damp_101 : decode cX7_damp 101 = .ok (.invokevirtual 170, 3) := by decide +kernel
theorem dX7_damp_104 : decode cX7_damp 104 = .ok (.invokevirtual 176, 3) := by decide +kernel
theorem dX7_damp_107 : decode cX7_damp 107 = .ok (.iload_n 3, 1) := by decide +kernel
theorem dX7_damp_108 : decode cX7_damp 108 = .ok (.iload 6, 2) := by decide +kernel
theorem dX7_damp_110 : decode cX7_damp 110 = .ok (.if_icmp .ge 7, 3) := by decide +kernel
theorem dX7_damp_113 : decode cX7_damp 113 = .ok (.iconst 0, 1) := by decide +kernel
theorem dX7_damp_114 : decode cX7_damp 114 = .ok (.goto 9, 3) := by decide +kernel
theorem dX7_damp_117 : decode cX7_damp 117 = .ok (.aload_n 0, 1) := by decide +kernel
theorem dX7_damp_118 : decode cX7_damp 118 = .ok (.iload 5, 2) := by decide +kernel
theorem dX7_damp_120 : decode cX7_damp 120 = .ok (.invokevirtual 191, 3) := by decide +kernel
theorem dX7_damp_123 : decode cX7_damp 123 = .ok (.ior, 1) := by decide +kernel
theorem dX7_damp_124 : decode cX7_damp 124 = .ok (.istore 7, 2) := by decide +kernel
theorem dX7_damp_126 : decode cX7_damp 126 = .ok (.iload 4, 2) := by decide +kernel
theorem dX7_damp_128 : decode cX7_damp 128 = .ok (.ifCond .ne 8, 3) := by decide +kernel
theorem dX7_damp_131 : decode cX7_damp 131 = .ok (.iload 7, 2) := by decide +kernel
theorem dX7_damp_133 : decode cX7_damp 133 = .ok (.goto 9, 3) := by decide +kernel
theorem dX7_damp_136 : decode cX7_damp 136 = .ok (.aload_n 0, 1) := by decide +kernel
theorem dX7_damp_137 : decode cX7_damp 137 = .ok (.iload 7, 2) := by decide +kernel
theorem dX7_damp_139 : decode cX7_damp 139 = .ok (.invokevirtual 194, 3) := by decide +kernel
theorem dX7_damp_142 : decode cX7_damp 142 = .ok (.ireturn, 1) := by decide +kernel
theorem dX7_read_0 : decode cX7_read 0 = .ok (.aload_n 0, 1) := by decide +kernel
theorem dX7_read_1 : decode cX7_read 1 = .ok (.iconst 0, 1) := by decide +kernel
theorem dX7_read_2 : decode cX7_read 2 = .ok (.putfield 41, 3) := by decide +kernel
theorem dX7_read_5 : decode cX7_read 5 = .ok (.aload_n 0, 1) := by decide +kernel
theorem dX7_read_6 : decode cX7_read 6 = .ok (.invokevirtual 209, 3) := by decide +kernel
theorem dX7_read_9 : decode cX7_read 9 = .ok (.ifCond .ne 6, 3) := by decide +kernel
theorem dX7_read_12 : decode cX7_read 12 = .ok (.ldc 213, 2) := by decide +kernel
theorem dX7_read_14 : decode cX7_read 14 = .ok (.ireturn, 1) := by decide +kernel
theorem dX7_read_15 : decode cX7_read 15 = .ok (.iload_n 1, 1) := by decide +kernel
theorem dX7_read_16 : decode cX7_read 16 = .ok (.i2l, 1) := by decide +kernel
theorem dX7_read_17 : decode cX7_read 17 = .ok (.lconst 0, 1) := by decide +kernel
theorem dX7_read_18 : decode cX7_read 18 = .ok (.ldc2_w 221, 3) := by decide +kernel
theorem dX7_read_21 : decode cX7_read 21 = .ok (.invokestatic 51, 3) := by decide +kernel
theorem dX7_read_24 : decode cX7_read 24 = .ok (.ifCond .eq 15, 3) := by decide +kernel
theorem dX7_read_27 : decode cX7_read 27 = .ok (.iload_n 2, 1) := by decide +kernel
theorem dX7_read_28 : decode cX7_read 28 = .ok (.i2l, 1) := by decide +kernel
theorem dX7_read_29 : decode cX7_read 29 = .ok (.lconst 0, 1) := by decide +kernel
theorem dX7_read_30 : decode cX7_read 30 = .ok (.ldc2_w 59, 3) := by decide +kernel
theorem dX7_read_33 : decode cX7_read 33 = .ok (.invokestatic 51, 3) := by decide +kernel
theorem dX7_read_36 : decode cX7_read 36 = .ok (.ifCond .ne 6, 3) := by decide +kernel
theorem dX7_read_39 : decode cX7_read 39 = .ok (.ldc 61, 2) := by decide +kernel
theorem dX7_read_41 : decode cX7_read 41 = .ok (.ireturn, 1) := by decide +kernel
theorem dX7_read_42 : decode cX7_read 42 = .ok (.aload_n 0, 1) := by decide +kernel
theorem dX7_read_43 : decode cX7_read 43 = .ok (.iload_n 1, 1) := by decide +kernel
theorem dX7_read_44 : decode cX7_read 44 = .ok (.invokevirtual 194, 3) := by decide +kernel
theorem dX7_read_47 : decode cX7_read 47 = .ok (.istore_n 3, 1) := by decide +kernel
theorem dX7_read_48 : decode cX7_read 48 = .ok (.iload_n 2, 1) := by decide +kernel
theorem dX7_read_49 : decode cX7_read 49 = .ok (.ifCond .ne 7, 3) := by decide +kernel
theorem dX7_read_52 : decode cX7_read 52 = .ok (.iload_n 3, 1) := by decide +kernel
theorem dX7_read_53 : decode cX7_read 53 = .ok (.goto 28, 3) := by decide +kernel
theorem dX7_read_56 : decode cX7_read 56 = .ok (.iload_n 2, 1) := by decide +kernel
theorem dX7_read_57 : decode cX7_read 57 = .ok (.iconst 1, 1) := by decide +kernel
theorem dX7_read_58 : decode cX7_read 58 = .ok (.if_icmp .ne 10, 3) := by decide +kernel
theorem dX7_read_61 : decode cX7_read 61 = .ok (.aload_n 0, 1) := by decide +kernel
theorem dX7_read_62 : decode cX7_read 62 = .ok (.getfield 182, 3) := by decide +kernel
theorem dX7_read_65 : decode cX7_read 65 = .ok (.goto 16, 3) := by decide +kernel
theorem dX7_read_68 : decode cX7_read 68 = .ok (.aload_n 0, 1) := by decide +kernel
theorem dX7_read_69 : decode cX7_read 69 = .ok (.getfield 188, 3) := by decide +kernel
theorem dX7_read_72 : decode cX7_read 72 = .ok (.iconst 1, 1) := by decide +kernel
theorem dX7_read_73 : decode cX7_read 73 = .ok (.if_icmp .le 7, 3) := by decide +kernel
theorem dX7_read_76 : decode cX7_read 76 = .ok (.iconst 1, 1) := by decide +kernel
theorem dX7_read_77 : decode cX7_read 77 = .ok (.goto 4, 3) := by decide +kernel
theorem dX7_read_80 : decode cX7_read 80 = .ok (.iconst 0, 1) := by decide +kernel
theorem dX7_read_81 : decode cX7_read 81 = .ok (.ireturn, 1) := by decide +kernel
theorem dX7_hasLetters_0 : decode cX7_hasLetters 0 = .ok (.iconst 1, 1) := by decide +kernel
theorem dX7_hasLetters_1 : decode cX7_hasLetters 1 = .ok (.istore_n 2, 1) := by decide +kernel
theorem dX7_hasLetters_2 : decode cX7_hasLetters 2 = .ok (.iconst 0, 1) := by decide +kernel
theorem dX7_hasLetters_3 : decode cX7_hasLetters 3 = .ok (.istore_n 3, 1) := by decide +kernel
theorem dX7_hasLetters_4 : decode cX7_hasLetters 4 = .ok (.iload_n 3, 1) := by decide +kernel
theorem dX7_hasLetters_5 : decode cX7_hasLetters 5 = .ok (.aload_n 0, 1) := by decide +kernel
theorem dX7_hasLetters_6 : decode cX7_hasLetters 6 = .ok (.getfield 19, 3) := by decide +kernel
theorem dX7_hasLetters_9 : decode cX7_hasLetters 9 = .ok (.iconst 2, 1) := by decide +kernel
theorem dX7_hasLetters_10 : decode cX7_hasLetters 10 = .ok (.iaload, 1) := by decide +kernel
theorem dX7_hasLetters_11 : decode cX7_hasLetters 11 = .ok (.if_icmp .ge 37, 3) := by decide +kernel
theorem dX7_hasLetters_14 : decode cX7_hasLetters 14 = .ok (.iload_n 2, 1) := by decide +kernel
theorem dX7_hasLetters_15 : decode cX7_hasLetters 15 = .ok (.ifCond .eq 25, 3) := by decide +kernel
theorem dX7_hasLetters_18 : decode cX7_hasLetters 18 = .ok (.aload_n 0, 1) := by decide +kernel
theorem dX7_hasLetters_19 : decode cX7_hasLetters 19 = .ok (.aload_n 0, 1) := by decide +kernel
theorem dX7_hasLetters_20 : decode cX7_hasLetters 20 = .ok (.getfield 16, 3) := by decide +kernel
theorem dX7_hasLetters_23 : decode cX7_hasLetters 23 = .ok (.bipush 40, 2) := by decide +kernel
theorem dX7_hasLetters_25 : decode cX7_hasLetters 25 = .ok (.iload_n 1, 1) := by decide +kernel
theorem dX7_hasLetters_26 : decode cX7_hasLetters 26 = .ok (.imul, 1) := by decide +kernel
theorem dX7_hasLetters_27 : decode cX7_hasLetters 27 = .ok (.iload_n 3, 1) := by decide +kernel
theorem dX7_hasLetters_28 : decode cX7_hasLetters 28 = .ok (.iadd, 1) := by decide +kernel
theorem dX7_hasLetters_29 : decode cX7_hasLetters 29 = .ok (.iaload, 1) := by decide +kernel
theorem dX7_hasLetters_30 : decode cX7_hasLetters 30 = .ok (.invokevirtual 203, 3) := by decide +kernel
theorem dX7_hasLetters_33 : decode cX7_hasLetters 33 = .ok (.ifCond .eq 7, 3) := by decide +kernel
theorem dX7_hasLetters_36 : decode cX7_hasLetters 36 = .ok (.iconst 1, 1) := by decide +kernel
theorem dX7_hasLetters_37 : decode cX7_hasLetters 37 = .ok (.goto 4, 3) := by decide +kernel
theorem dX7_hasLetters_40 : decode cX7_hasLetters 40 = .ok (.iconst 0, 1) := by decide +kernel
theorem dX7_hasLetters_41 : decode cX7_hasLetters 41 = .ok (.istore_n 2, 1) := by decide +kernel
theorem dX7_hasLetters_42 : decode cX7_hasLetters 42 = .ok (.iinc 3 1, 3) := by decide +kernel
theorem dX7_hasLetters_45 : decode cX7_hasLetters 45 = .ok (.goto (-41), 3) := by decide +kernel
theorem dX7_hasLetters_48 : decode cX7_hasLetters 48 = .ok (.iload_n 2, 1) := by decide +kernel
theorem dX7_hasLetters_49 : decode cX7_hasLetters 49 = .ok (.ireturn, 1) := by decide +kernel
theorem dX7_barred_0 : decode cX7_barred 0 = .ok (.aload_n 0, 1) := by decide +kernel
theorem dX7_barred_1 : decode cX7_barred 1 = .ok (.invokevirtual 209, 3) := by decide +kernel
theorem dX7_barred_4 : decode cX7_barred 4 = .ok (.ifCond .ne 6, 3) := by decide +kernel
theorem dX7_barred_7 : decode cX7_barred 7 = .ok (.ldc 213, 2) := by decide +kernel
theorem dX7_barred_9 : decode cX7_barred 9 = .ok (.ireturn, 1) := by decide +kernel
theorem dX7_barred_10 : decode cX7_barred 10 = .ok (.iload_n 1, 1) := by decide +kernel
theorem dX7_barred_11 : decode cX7_barred 11 = .ok (.invokestatic 55, 3) := by decide +kernel
theorem dX7_barred_14 : decode cX7_barred 14 = .ok (.ifCond .eq 7, 3) := by decide +kernel
theorem dX7_barred_17 : decode cX7_barred 17 = .ok (.iload_n 2, 1) := by decide +kernel
theorem dX7_barred_18 : decode cX7_barred 18 = .ok (.ifCond .ne 6, 3) := by decide +kernel
theorem dX7_barred_21 : decode cX7_barred 21 = .ok (.ldc 61, 2) := by decide +kernel
theorem dX7_barred_23 : decode cX7_barred 23 = .ok (.ireturn, 1) := by decide +kernel
theorem dX7_barred_24 : decode cX7_barred 24 = .ok (.aload_n 0, 1) := by decide +kernel
theorem dX7_barred_25 : decode cX7_barred 25 = .ok (.getfield 7, 3) := by decide +kernel
theorem dX7_barred_28 : decode cX7_barred 28 = .ok (.iload_n 1, 1) := by decide +kernel
theorem dX7_barred_29 : decode cX7_barred 29 = .ok (.iaload, 1) := by decide +kernel
theorem dX7_barred_30 : decode cX7_barred 30 = .ok (.ifCond .ge 9, 3) := by decide +kernel
theorem dX7_barred_33 : decode cX7_barred 33 = .ok (.aload_n 0, 1) := by decide +kernel
theorem dX7_barred_34 : decode cX7_barred 34 = .ok (.iconst 1, 1) := by decide +kernel
theorem dX7_barred_35 : decode cX7_barred 35 = .ok (.invokevirtual 62, 3) := by decide +kernel
theorem dX7_barred_38 : decode cX7_barred 38 = .ok (.ireturn, 1) := by decide +kernel
theorem dX7_barred_39 : decode cX7_barred 39 = .ok (.aload_n 0, 1) := by decide +kernel
theorem dX7_barred_40 : decode cX7_barred 40 = .ok (.getfield 19, 3) := by decide +kernel
theorem dX7_barred_43 : decode cX7_barred 43 = .ok (.iconst 2, 1) := by decide +kernel
theorem dX7_barred_44 : decode cX7_barred 44 = .ok (.iaload, 1) := by decide +kernel
theorem dX7_barred_45 : decode cX7_barred 45 = .ok (.aload_n 0, 1) := by decide +kernel
theorem dX7_barred_46 : decode cX7_barred 46 = .ok (.getfield 13, 3) := by decide +kernel
theorem dX7_barred_49 : decode cX7_barred 49 = .ok (.iload_n 1, 1) := by decide +kernel
theorem dX7_barred_50 : decode cX7_barred 50 = .ok (.iaload, 1) := by decide +kernel
theorem dX7_barred_51 : decode cX7_barred 51 = .ok (.if_icmp .le 9, 3) := by decide +kernel
theorem dX7_barred_54 : decode cX7_barred 54 = .ok (.aload_n 0, 1) := by decide +kernel
theorem dX7_barred_55 : decode cX7_barred 55 = .ok (.iconst 2, 1) := by decide +kernel
theorem dX7_barred_56 : decode cX7_barred 56 = .ok (.invokevirtual 62, 3) := by decide +kernel
theorem dX7_barred_59 : decode cX7_barred 59 = .ok (.ireturn, 1) := by decide +kernel
theorem dX7_barred_60 : decode cX7_barred 60 = .ok (.aload_n 0, 1) := by decide +kernel
theorem dX7_barred_61 : decode cX7_barred 61 = .ok (.iload_n 1, 1) := by decide +kernel
theorem dX7_barred_62 : decode cX7_barred 62 = .ok (.invokevirtual 223, 3) := by decide +kernel
theorem dX7_barred_65 : decode cX7_barred 65 = .ok (.ifCond .ne 6, 3) := by decide +kernel
theorem dX7_barred_68 : decode cX7_barred 68 = .ok (.ldc 61, 2) := by decide +kernel
theorem dX7_barred_70 : decode cX7_barred 70 = .ok (.ireturn, 1) := by decide +kernel
theorem dX7_barred_71 : decode cX7_barred 71 = .ok (.aload_n 0, 1) := by decide +kernel
theorem dX7_barred_72 : decode cX7_barred 72 = .ok (.iconst 0, 1) := by decide +kernel
theorem dX7_barred_73 : decode cX7_barred 73 = .ok (.putfield 45, 3) := by decide +kernel
theorem dX7_barred_76 : decode cX7_barred 76 = .ok (.iconst 0, 1) := by decide +kernel
theorem dX7_barred_77 : decode cX7_barred 77 = .ok (.ireturn, 1) := by decide +kernel
theorem dX7_behindBy_0 : decode cX7_behindBy 0 = .ok (.iconst 0, 1) := by decide +kernel
theorem dX7_behindBy_1 : decode cX7_behindBy 1 = .ok (.istore_n 3, 1) := by decide +kernel
theorem dX7_behindBy_2 : decode cX7_behindBy 2 = .ok (.iconst 0, 1) := by decide +kernel
theorem dX7_behindBy_3 : decode cX7_behindBy 3 = .ok (.istore 4, 2) := by decide +kernel
theorem dX7_behindBy_5 : decode cX7_behindBy 5 = .ok (.iload 4, 2) := by decide +kernel
theorem dX7_behindBy_7 : decode cX7_behindBy 7 = .ok (.aload_n 0, 1) := by decide +kernel
theorem dX7_behindBy_8 : decode cX7_behindBy 8 = .ok (.getfield 19, 3) := by decide +kernel
theorem dX7_behindBy_11 : decode cX7_behindBy 11 = .ok (.iconst 1, 1) := by decide +kernel
theorem dX7_behindBy_12 : decode cX7_behindBy 12 = .ok (.iaload, 1) := by decide +kernel
theorem dX7_behindBy_13 : decode cX7_behindBy 13 = .ok (.if_icmp .ge 31, 3) := by decide +kernel
theorem dX7_behindBy_16 : decode cX7_behindBy 16 = .ok (.iload_n 3, 1) := by decide +kernel
theorem dX7_behindBy_17 : decode cX7_behindBy 17 = .ok (.aload_n 0, 1) := by decide +kernel
theorem dX7_behindBy_18 : decode cX7_behindBy 18 = .ok (.iload_n 1, 1) := by decide +kernel
theorem dX7_behindBy_19 : decode cX7_behindBy 19 = .ok (.iload 4, 2) := by decide +kernel
theorem dX7_behindBy_21 : decode cX7_behindBy 21 = .ok (.invokevirtual 226, 3) := by decide +kernel
theorem dX7_behindBy_24 : decode cX7_behindBy 24 = .ok (.iload_n 2, 1) := by decide +kernel
theorem dX7_behindBy_25 : decode cX7_behindBy 25 = .ok (.if_icmp .ne 10, 3) := by decide +kernel
theorem dX7_behindBy_28 : decode cX7_behindBy 28 = .ok (.iconst 1, 1) := by decide +kernel
theorem dX7_behindBy_29 : decode cX7_behindBy 29 = .ok (.iload 4, 2) := by decide +kernel
theorem dX7_behindBy_31 : decode cX7_behindBy 31 = .ok (.ishl, 1) := by decide +kernel
theorem dX7_behindBy_32 : decode cX7_behindBy 32 = .ok (.goto 4, 3) := by decide +kernel
theorem dX7_behindBy_35 : decode cX7_behindBy 35 = .ok (.iconst 0, 1) := by decide +kernel
theorem dX7_behindBy_36 : decode cX7_behindBy 36 = .ok (.ior, 1) := by decide +kernel
theorem dX7_behindBy_37 : decode cX7_behindBy 37 = .ok (.istore_n 3, 1) := by decide +kernel
theorem dX7_behindBy_38 : decode cX7_behindBy 38 = .ok (.iinc 4 1, 3) := by decide +kernel
theorem dX7_behindBy_41 : decode cX7_behindBy 41 = .ok (.goto (-36), 3) := by decide +kernel
theorem dX7_behindBy_44 : decode cX7_behindBy 44 = .ok (.iload_n 3, 1) := by decide +kernel
theorem dX7_behindBy_45 : decode cX7_behindBy 45 = .ok (.ireturn, 1) := by decide +kernel
theorem dX7_behind_0 : decode cX7_behind 0 = .ok (.aload_n 0, 1) := by decide +kernel
theorem dX7_behind_1 : decode cX7_behind 1 = .ok (.iconst 0, 1) := by decide +kernel
theorem dX7_behind_2 : decode cX7_behind 2 = .ok (.putfield 41, 3) := by decide +kernel
theorem dX7_behind_5 : decode cX7_behind 5 = .ok (.aload_n 0, 1) := by decide +kernel
theorem dX7_behind_6 : decode cX7_behind 6 = .ok (.iload_n 1, 1) := by decide +kernel
theorem dX7_behind_7 : decode cX7_behind 7 = .ok (.aload_n 0, 1) := by decide +kernel
theorem dX7_behind_8 : decode cX7_behind 8 = .ok (.iload_n 2, 1) := by decide +kernel
theorem dX7_behind_9 : decode cX7_behind 9 = .ok (.invokevirtual 200, 3) := by decide +kernel
theorem dX7_behind_12 : decode cX7_behind 12 = .ok (.invokevirtual 229, 3) := by decide +kernel
theorem dX7_behind_15 : decode cX7_behind 15 = .ok (.istore_n 3, 1) := by decide +kernel
theorem dX7_behind_16 : decode cX7_behind 16 = .ok (.iload_n 3, 1) := by decide +kernel
theorem dX7_behind_17 : decode cX7_behind 17 = .ok (.ifCond .ge 7, 3) := by decide +kernel
theorem dX7_behind_20 : decode cX7_behind 20 = .ok (.iload_n 3, 1) := by decide +kernel
theorem dX7_behind_21 : decode cX7_behind 21 = .ok (.goto 24, 3) := by decide +kernel
theorem dX7_behind_24 : decode cX7_behind 24 = .ok (.aload_n 0, 1) := by decide +kernel
theorem dX7_behind_25 : decode cX7_behind 25 = .ok (.aload_n 0, 1) := by decide +kernel
theorem dX7_behind_26 : decode cX7_behind 26 = .ok (.iconst 0, 1) := by decide +kernel
theorem dX7_behind_27 : decode cX7_behind 27 = .ok (.iload_n 2, 1) := by decide +kernel
theorem dX7_behind_28 : decode cX7_behind 28 = .ok (.invokevirtual 170, 3) := by decide +kernel
theorem dX7_behind_31 : decode cX7_behind 31 = .ok (.aload_n 0, 1) := by decide +kernel
theorem dX7_behind_32 : decode cX7_behind 32 = .ok (.getfield 16, 3) := by decide +kernel
theorem dX7_behind_35 : decode cX7_behind 35 = .ok (.bipush 40, 2) := by decide +kernel
theorem dX7_behind_37 : decode cX7_behind 37 = .ok (.iload_n 1, 1) := by decide +kernel
theorem dX7_behind_38 : decode cX7_behind 38 = .ok (.imul, 1) := by decide +kernel
theorem dX7_behind_39 : decode cX7_behind 39 = .ok (.iload_n 2, 1) := by decide +kernel
theorem dX7_behind_40 : decode cX7_behind 40 = .ok (.iadd, 1) := by decide +kernel
theorem dX7_behind_41 : decode cX7_behind 41 = .ok (.iaload, 1) := by decide +kernel
theorem dX7_behind_42 : decode cX7_behind 42 = .ok (.invokevirtual 233, 3) := by decide +kernel
theorem dX7_behind_45 : decode cX7_behind 45 = .ok (.ireturn, 1) := by decide +kernel
theorem dX7_ways_0 : decode cX7_ways 0 = .ok (.aload_n 0, 1) := by decide +kernel
theorem dX7_ways_1 : decode cX7_ways 1 = .ok (.iconst 0, 1) := by decide +kernel
theorem dX7_ways_2 : decode cX7_ways 2 = .ok (.putfield 41, 3) := by decide +kernel
theorem dX7_ways_5 : decode cX7_ways 5 = .ok (.aload_n 0, 1) := by decide +kernel
theorem dX7_ways_6 : decode cX7_ways 6 = .ok (.iload_n 1, 1) := by decide +kernel
theorem dX7_ways_7 : decode cX7_ways 7 = .ok (.iconst 1, 1) := by decide +kernel
theorem dX7_ways_8 : decode cX7_ways 8 = .ok (.invokevirtual 229, 3) := by decide +kernel
theorem dX7_ways_11 : decode cX7_ways 11 = .ok (.istore_n 2, 1) := by decide +kernel
theorem dX7_ways_12 : decode cX7_ways 12 = .ok (.iload_n 2, 1) := by decide +kernel
theorem dX7_ways_13 : decode cX7_ways 13 = .ok (.ifCond .ge 5, 3) := by decide +kernel
theorem dX7_ways_16 : decode cX7_ways 16 = .ok (.iload_n 2, 1) := by decide +kernel
theorem dX7_ways_17 : decode cX7_ways 17 = .ok (.ireturn, 1) := by decide +kernel
theorem dX7_ways_18 : decode cX7_ways 18 = .ok (.iconst 1, 1) := by decide +kernel
theorem dX7_ways_19 : decode cX7_ways 19 = .ok (.istore_n 3, 1) := by decide +kernel
theorem dX7_ways_20 : decode cX7_ways 20 = .ok (.iconst 0, 1) := by decide +kernel
theorem dX7_ways_21 : decode cX7_ways 21 = .ok (.istore 4, 2) := by decide +kernel
theorem dX7_ways_23 : decode cX7_ways 23 = .ok (.iload 4, 2) := by decide +kernel
theorem dX7_ways_25 : decode cX7_ways 25 = .ok (.aload_n 0, 1) := by decide +kernel
theorem dX7_ways_26 : decode cX7_ways 26 = .ok (.getfield 19, 3) := by decide +kernel
theorem dX7_ways_29 : decode cX7_ways 29 = .ok (.iconst 2, 1) := by decide +kernel
theorem dX7_ways_30 : decode cX7_ways 30 = .ok (.iaload, 1) := by decide +kernel
theorem dX7_ways_31 : decode cX7_ways 31 = .ok (.if_icmp .ge 38, 3) := by decide +kernel
theorem dX7_ways_34 : decode cX7_ways 34 = .ok (.iload_n 3, 1) := by decide +kernel
theorem dX7_ways_35 : decode cX7_ways 35 = .ok (.aload_n 0, 1) := by decide +kernel
theorem dX7_ways_36 : decode cX7_ways 36 = .ok (.aload_n 0, 1) := by decide +kernel
theorem dX7_ways_37 : decode cX7_ways 37 = .ok (.iconst 0, 1) := by decide +kernel
theorem dX7_ways_38 : decode cX7_ways 38 = .ok (.iload 4, 2) := by decide +kernel
theorem dX7_ways_40 : decode cX7_ways 40 = .ok (.invokevirtual 170, 3) := by decide +kernel
theorem dX7_ways_43 : decode cX7_ways 43 = .ok (.aload_n 0, 1) := by decide +kernel
theorem dX7_ways_44 : decode cX7_ways 44 = .ok (.getfield 16, 3) := by decide +kernel
theorem dX7_ways_47 : decode cX7_ways 47 = .ok (.bipush 40, 2) := by decide +kernel
theorem dX7_ways_49 : decode cX7_ways 49 = .ok (.iload_n 1, 1) := by decide +kernel
theorem dX7_ways_50 : decode cX7_ways 50 = .ok (.imul, 1) := by decide +kernel
theorem dX7_ways_51 : decode cX7_ways 51 = .ok (.iload 4, 2) := by decide +kernel
theorem dX7_ways_53 : decode cX7_ways 53 = .ok (.iadd, 1) := by decide +kernel
theorem dX7_ways_54 : decode cX7_ways 54 = .ok (.iaload, 1) := by decide +kernel
theorem dX7_ways_55 : decode cX7_ways 55 = .ok (.invokevirtual 233, 3) := by decide +kernel
theorem dX7_ways_58 : decode cX7_ways 58 = .ok (.invokestatic 185, 3) := by decide +kernel
theorem dX7_ways_61 : decode cX7_ways 61 = .ok (.imul, 1) := by decide +kernel
theorem dX7_ways_62 : decode cX7_ways 62 = .ok (.istore_n 3, 1) := by decide +kernel
theorem dX7_ways_63 : decode cX7_ways 63 = .ok (.iinc 4 1, 3) := by decide +kernel
theorem dX7_ways_66 : decode cX7_ways 66 = .ok (.goto (-43), 3) := by decide +kernel
theorem dX7_ways_69 : decode cX7_ways 69 = .ok (.iload_n 3, 1) := by decide +kernel
theorem dX7_ways_70 : decode cX7_ways 70 = .ok (.ireturn, 1) := by decide +kernel
theorem dX7_anewAt_0 : decode cX7_anewAt 0 = .ok (.iconst 3, 1) := by decide +kernel
theorem dX7_anewAt_1 : decode cX7_anewAt 1 = .ok (.istore_n 3, 1) := by decide +kernel
theorem dX7_anewAt_2 : decode cX7_anewAt 2 = .ok (.iconst 0, 1) := by decide +kernel
theorem dX7_anewAt_3 : decode cX7_anewAt 3 = .ok (.istore 4, 2) := by decide +kernel
theorem dX7_anewAt_5 : decode cX7_anewAt 5 = .ok (.iload 4, 2) := by decide +kernel
theorem dX7_anewAt_7 : decode cX7_anewAt 7 = .ok (.aload_n 0, 1) := by decide +kernel
theorem dX7_anewAt_8 : decode cX7_anewAt 8 = .ok (.getfield 19, 3) := by decide +kernel
theorem dX7_anewAt_11 : decode cX7_anewAt 11 = .ok (.iconst 1, 1) := by decide +kernel
theorem dX7_anewAt_12 : decode cX7_anewAt 12 = .ok (.iaload, 1) := by decide +kernel
theorem dX7_anewAt_13 : decode cX7_anewAt 13 = .ok (.if_icmp .ge 89, 3) := by decide +kernel
theorem dX7_anewAt_16 : decode cX7_anewAt 16 = .ok (.iconst 0, 1) := by decide +kernel
theorem dX7_anewAt_17 : decode cX7_anewAt 17 = .ok (.istore 5, 2) := by decide +kernel
theorem dX7_anewAt_19 : decode cX7_anewAt 19 = .ok (.iload 5, 2) := by decide +kernel
theorem dX7_anewAt_21 : decode cX7_anewAt 21 = .ok (.aload_n 0, 1) := by decide +kernel
theorem dX7_anewAt_22 : decode cX7_anewAt 22 = .ok (.getfield 19, 3) := by decide +kernel
theorem dX7_anewAt_25 : decode cX7_anewAt 25 = .ok (.iconst 1, 1) := by decide +kernel
theorem dX7_anewAt_26 : decode cX7_anewAt 26 = .ok (.iaload, 1) := by decide +kernel
theorem dX7_anewAt_27 : decode cX7_anewAt 27 = .ok (.if_icmp .ge 69, 3) := by decide +kernel
theorem dX7_anewAt_30 : decode cX7_anewAt 30 = .ok (.iload 4, 2) := by decide +kernel
theorem dX7_anewAt_32 : decode cX7_anewAt 32 = .ok (.aload_n 0, 1) := by decide +kernel
theorem dX7_anewAt_33 : decode cX7_anewAt 33 = .ok (.iconst 0, 1) := by decide +kernel
theorem dX7_anewAt_34 : decode cX7_anewAt 34 = .ok (.iload_n 1, 1) := by decide +kernel
theorem dX7_anewAt_35 : decode cX7_anewAt 35 = .ok (.invokevirtual 170, 3) := by decide +kernel
theorem dX7_anewAt_38 : decode cX7_anewAt 38 = .ok (.if_icmp .ne 7, 3) := by decide +kernel
theorem dX7_anewAt_41 : decode cX7_anewAt 41 = .ok (.iconst 0, 1) := by decide +kernel
theorem dX7_anewAt_42 : decode cX7_anewAt 42 = .ok (.goto 4, 3) := by decide +kernel
theorem dX7_anewAt_45 : decode cX7_anewAt 45 = .ok (.iconst 1, 1) := by decide +kernel
theorem dX7_anewAt_46 : decode cX7_anewAt 46 = .ok (.iload 5, 2) := by decide +kernel
theorem dX7_anewAt_48 : decode cX7_anewAt 48 = .ok (.aload_n 0, 1) := by decide +kernel
theorem dX7_anewAt_49 : decode cX7_anewAt 49 = .ok (.iconst 0, 1) := by decide +kernel
theorem dX7_anewAt_50 : decode cX7_anewAt 50 = .ok (.iload_n 1, 1) := by decide +kernel
theorem dX7_anewAt_51 : decode cX7_anewAt 51 = .ok (.invokevirtual 216, 3) := by decide +kernel
theorem dX7_anewAt_54 : decode cX7_anewAt 54 = .ok (.if_icmp .ne 7, 3) := by decide +kernel
theorem dX7_anewAt_57 : decode cX7_anewAt 57 = .ok (.iconst 0, 1) := by decide +kernel
theorem dX7_anewAt_58 : decode cX7_anewAt 58 = .ok (.goto 4, 3) := by decide +kernel
theorem dX7_anewAt_61 : decode cX7_anewAt 61 = .ok (.iconst 1, 1) := by decide +kernel
theorem dX7_anewAt_62 : decode cX7_anewAt 62 = .ok (.iadd, 1) := by decide +kernel
theorem dX7_anewAt_63 : decode cX7_anewAt 63 = .ok (.istore 6, 2) := by decide +kernel
theorem dX7_anewAt_65 : decode cX7_anewAt 65 = .ok (.iload 6, 2) := by decide +kernel
theorem dX7_anewAt_67 : decode cX7_anewAt 67 = .ok (.iload_n 3, 1) := by decide +kernel
theorem dX7_anewAt_68 : decode cX7_anewAt 68 = .ok (.if_icmp .ge 20, 3) := by decide +kernel
theorem dX7_anewAt_71 : decode cX7_anewAt 71 = .ok (.aload_n 0, 1) := by decide +kernel
theorem dX7_anewAt_72 : decode cX7_anewAt 72 = .ok (.iload 4, 2) := by decide +kernel
theorem dX7_anewAt_74 : decode cX7_anewAt 74 = .ok (.iload 5, 2) := by decide +kernel
theorem dX7_anewAt_76 : decode cX7_anewAt 76 = .ok (.invokevirtual 226, 3) := by decide +kernel
theorem dX7_anewAt_79 : decode cX7_anewAt 79 = .ok (.iload_n 2, 1) := by decide +kernel
theorem dX7_anewAt_80 : decode cX7_anewAt 80 = .ok (.if_icmp .ne 8, 3) := by decide +kernel
theorem dX7_anewAt_83 : decode cX7_anewAt 83 = .ok (.iload 6, 2) := by decide +kernel
theorem dX7_anewAt_85 : decode cX7_anewAt 85 = .ok (.goto 4, 3) := by decide +kernel
theorem dX7_anewAt_88 : decode cX7_anewAt 88 = .ok (.iload_n 3, 1) := by decide +kernel
theorem dX7_anewAt_89 : decode cX7_anewAt 89 = .ok (.istore_n 3, 1) := by decide +kernel
theorem dX7_anewAt_90 : decode cX7_anewAt 90 = .ok (.iinc 5 1, 3) := by decide +kernel
theorem dX7_anewAt_93 : decode cX7_anewAt 93 = .ok (.goto (-74), 3) := by decide +kernel
theorem dX7_anewAt_96 : decode cX7_anewAt 96 = .ok (.iinc 4 1, 3) := by decide +kernel
theorem dX7_anewAt_99 : decode cX7_anewAt 99 = .ok (.goto (-94), 3) := by decide +kernel
theorem dX7_anewAt_102 : decode cX7_anewAt 102 = .ok (.iload_n 3, 1) := by decide +kernel
theorem dX7_anewAt_103 : decode cX7_anewAt 103 = .ok (.ireturn, 1) := by decide +kernel
theorem dX7_anew_0 : decode cX7_anew 0 = .ok (.aload_n 0, 1) := by decide +kernel
theorem dX7_anew_1 : decode cX7_anew 1 = .ok (.iconst 0, 1) := by decide +kernel
theorem dX7_anew_2 : decode cX7_anew 2 = .ok (.putfield 41, 3) := by decide +kernel
theorem dX7_anew_5 : decode cX7_anew 5 = .ok (.aload_n 0, 1) := by decide +kernel
theorem dX7_anew_6 : decode cX7_anew 6 = .ok (.iload_n 1, 1) := by decide +kernel
theorem dX7_anew_7 : decode cX7_anew 7 = .ok (.iconst 1, 1) := by decide +kernel
theorem dX7_anew_8 : decode cX7_anew 8 = .ok (.invokevirtual 229, 3) := by decide +kernel
theorem dX7_anew_11 : decode cX7_anew 11 = .ok (.istore_n 2, 1) := by decide +kernel
theorem dX7_anew_12 : decode cX7_anew 12 = .ok (.iload_n 2, 1) := by decide +kernel
theorem dX7_anew_13 : decode cX7_anew 13 = .ok (.ifCond .ge 5, 3) := by decide +kernel
theorem dX7_anew_16 : decode cX7_anew 16 = .ok (.iload_n 2, 1) := by decide +kernel
theorem dX7_anew_17 : decode cX7_anew 17 = .ok (.ireturn, 1) := by decide +kernel
theorem dX7_anew_18 : decode cX7_anew 18 = .ok (.iconst 0, 1) := by decide +kernel
theorem dX7_anew_19 : decode cX7_anew 19 = .ok (.istore_n 3, 1) := by decide +kernel
theorem dX7_anew_20 : decode cX7_anew 20 = .ok (.iconst 1, 1) := by decide +kernel
theorem dX7_anew_21 : decode cX7_anew 21 = .ok (.istore 4, 2) := by decide +kernel
theorem dX7_anew_23 : decode cX7_anew 23 = .ok (.iconst 0, 1) := by decide +kernel
theorem dX7_anew_24 : decode cX7_anew 24 = .ok (.istore 5, 2) := by decide +kernel
theorem dX7_anew_26 : decode cX7_anew 26 = .ok (.iload 5, 2) := by decide +kernel
theorem dX7_anew_28 : decode cX7_anew 28 = .ok (.aload_n 0, 1) := by decide +kernel
theorem dX7_anew_29 : decode cX7_anew 29 = .ok (.getfield 19, 3) := by decide +kernel
theorem dX7_anew_32 : decode cX7_anew 32 = .ok (.iconst 2, 1) := by decide +kernel
theorem dX7_anew_33 : decode cX7_anew 33 = .ok (.iaload, 1) := by decide +kernel
theorem dX7_anew_34 : decode cX7_anew 34 = .ok (.if_icmp .ge 52, 3) := by decide +kernel
theorem dX7_anew_37 : decode cX7_anew 37 = .ok (.aload_n 0, 1) := by decide +kernel
theorem dX7_anew_38 : decode cX7_anew 38 = .ok (.iload 5, 2) := by decide +kernel
theorem dX7_anew_40 : decode cX7_anew 40 = .ok (.aload_n 0, 1) := by decide +kernel
theorem dX7_anew_41 : decode cX7_anew 41 = .ok (.getfield 16, 3) := by decide +kernel
theorem dX7_anew_44 : decode cX7_anew 44 = .ok (.bipush 40, 2) := by decide +kernel
theorem dX7_anew_46 : decode cX7_anew 46 = .ok (.iload_n 1, 1) := by decide +kernel
theorem dX7_anew_47 : decode cX7_anew 47 = .ok (.imul, 1) := by decide +kernel
theorem dX7_anew_48 : decode cX7_anew 48 = .ok (.iload 5, 2) := by decide +kernel
theorem dX7_anew_50 : decode cX7_anew 50 = .ok (.iadd, 1) := by decide +kernel
theorem dX7_anew_51 : decode cX7_anew 51 = .ok (.iaload, 1) := by decide +kernel
theorem dX7_anew_52 : decode cX7_anew 52 = .ok (.invokevirtual 236, 3) := by decide +kernel
theorem dX7_anew_55 : decode cX7_anew 55 = .ok (.istore 6, 2) := by decide +kernel
theorem dX7_anew_57 : decode cX7_anew 57 = .ok (.iload 4, 2) := by decide +kernel
theorem dX7_anew_59 : decode cX7_anew 59 = .ok (.ifCond .eq 13, 3) := by decide +kernel
theorem dX7_anew_62 : decode cX7_anew 62 = .ok (.iload 6, 2) := by decide +kernel
theorem dX7_anew_64 : decode cX7_anew 64 = .ok (.iconst 3, 1) := by decide +kernel
theorem dX7_anew_65 : decode cX7_anew 65 = .ok (.if_icmp .ge 7, 3) := by decide +kernel
theorem dX7_anew_68 : decode cX7_anew 68 = .ok (.iconst 1, 1) := by decide +kernel
theorem dX7_anew_69 : decode cX7_anew 69 = .ok (.goto 4, 3) := by decide +kernel
theorem dX7_anew_72 : decode cX7_anew 72 = .ok (.iconst 0, 1) := by decide +kernel
theorem dX7_anew_73 : decode cX7_anew 73 = .ok (.istore 4, 2) := by decide +kernel
theorem dX7_anew_75 : decode cX7_anew 75 = .ok (.iload_n 3, 1) := by decide +kernel
theorem dX7_anew_76 : decode cX7_anew 76 = .ok (.iload 6, 2) := by decide +kernel
theorem dX7_anew_78 : decode cX7_anew 78 = .ok (.iadd, 1) := by decide +kernel
theorem dX7_anew_79 : decode cX7_anew 79 = .ok (.istore_n 3, 1) := by decide +kernel
theorem dX7_anew_80 : decode cX7_anew 80 = .ok (.iinc 5 1, 3) := by decide +kernel
theorem dX7_anew_83 : decode cX7_anew 83 = .ok (.goto (-57), 3) := by decide +kernel
theorem dX7_anew_86 : decode cX7_anew 86 = .ok (.iload 4, 2) := by decide +kernel
theorem dX7_anew_88 : decode cX7_anew 88 = .ok (.ifCond .eq 7, 3) := by decide +kernel
theorem dX7_anew_91 : decode cX7_anew 91 = .ok (.iload_n 3, 1) := by decide +kernel
theorem dX7_anew_92 : decode cX7_anew 92 = .ok (.goto 5, 3) := by decide +kernel
theorem dX7_anew_95 : decode cX7_anew 95 = .ok (.ldc 77, 2) := by decide +kernel
theorem dX7_anew_97 : decode cX7_anew 97 = .ok (.ireturn, 1) := by decide +kernel
theorem dX7_fits_0 : decode cX7_fits 0 = .ok (.aload_n 0, 1) := by decide +kernel
theorem dX7_fits_1 : decode cX7_fits 1 = .ok (.iconst 0, 1) := by decide +kernel
theorem dX7_fits_2 : decode cX7_fits 2 = .ok (.putfield 41, 3) := by decide +kernel
theorem dX7_fits_5 : decode cX7_fits 5 = .ok (.aload_n 0, 1) := by decide +kernel
theorem dX7_fits_6 : decode cX7_fits 6 = .ok (.iload_n 1, 1) := by decide +kernel
theorem dX7_fits_7 : decode cX7_fits 7 = .ok (.invokevirtual 200, 3) := by decide +kernel
theorem dX7_fits_10 : decode cX7_fits 10 = .ok (.ifCond .eq 15, 3) := by decide +kernel
theorem dX7_fits_13 : decode cX7_fits 13 = .ok (.iload_n 2, 1) := by decide +kernel
theorem dX7_fits_14 : decode cX7_fits 14 = .ok (.i2l, 1) := by decide +kernel
theorem dX7_fits_15 : decode cX7_fits 15 = .ok (.lconst 0, 1) := by decide +kernel
theorem dX7_fits_16 : decode cX7_fits 16 = .ok (.ldc2_w 221, 3) := by decide +kernel
theorem dX7_fits_19 : decode cX7_fits 19 = .ok (.invokestatic 51, 3) := by decide +kernel
theorem dX7_fits_22 : decode cX7_fits 22 = .ok (.ifCond .ne 6, 3) := by decide +kernel
theorem dX7_fits_25 : decode cX7_fits 25 = .ok (.ldc 61, 2) := by decide +kernel
theorem dX7_fits_27 : decode cX7_fits 27 = .ok (.ireturn, 1) := by decide +kernel
theorem dX7_fits_28 : decode cX7_fits 28 = .ok (.iconst 0, 1) := by decide +kernel
theorem dX7_fits_29 : decode cX7_fits 29 = .ok (.istore_n 3, 1) := by decide +kernel
theorem dX7_fits_30 : decode cX7_fits 30 = .ok (.iconst 0, 1) := by decide +kernel
theorem dX7_fits_31 : decode cX7_fits 31 = .ok (.istore 4, 2) := by decide +kernel
theorem dX7_fits_33 : decode cX7_fits 33 = .ok (.iload 4, 2) := by decide +kernel
theorem dX7_fits_35 : decode cX7_fits 35 = .ok (.aload_n 0, 1) := by decide +kernel
theorem dX7_fits_36 : decode cX7_fits 36 = .ok (.getfield 19, 3) := by decide +kernel
theorem dX7_fits_39 : decode cX7_fits 39 = .ok (.iconst 1, 1) := by decide +kernel
theorem dX7_fits_40 : decode cX7_fits 40 = .ok (.iaload, 1) := by decide +kernel
theorem dX7_fits_41 : decode cX7_fits 41 = .ok (.if_icmp .ge 41, 3) := by decide +kernel
theorem dX7_fits_44 : decode cX7_fits 44 = .ok (.iload_n 3, 1) := by decide +kernel
theorem dX7_fits_45 : decode cX7_fits 45 = .ok (.aload_n 0, 1) := by decide +kernel
theorem dX7_fits_46 : decode cX7_fits 46 = .ok (.aload_n 0, 1) := by decide +kernel
theorem dX7_fits_47 : decode cX7_fits 47 = .ok (.iconst 0, 1) := by decide +kernel
theorem dX7_fits_48 : decode cX7_fits 48 = .ok (.iload_n 1, 1) := by decide +kernel
theorem dX7_fits_49 : decode cX7_fits 49 = .ok (.invokevirtual 170, 3) := by decide +kernel
theorem dX7_fits_52 : decode cX7_fits 52 = .ok (.invokevirtual 176, 3) := by decide +kernel
theorem dX7_fits_55 : decode cX7_fits 55 = .ok (.aload_n 0, 1) := by decide +kernel
theorem dX7_fits_56 : decode cX7_fits 56 = .ok (.iload 4, 2) := by decide +kernel
theorem dX7_fits_58 : decode cX7_fits 58 = .ok (.invokevirtual 191, 3) := by decide +kernel
theorem dX7_fits_61 : decode cX7_fits 61 = .ok (.ior, 1) := by decide +kernel
theorem dX7_fits_62 : decode cX7_fits 62 = .ok (.iload_n 2, 1) := by decide +kernel
theorem dX7_fits_63 : decode cX7_fits 63 = .ok (.if_icmp .ne 10, 3) := by decide +kernel
theorem dX7_fits_66 : decode cX7_fits 66 = .ok (.iconst 1, 1) := by decide +kernel
theorem dX7_fits_67 : decode cX7_fits 67 = .ok (.iload 4, 2) := by decide +kernel
theorem dX7_fits_69 : decode cX7_fits 69 = .ok (.ishl, 1) := by decide +kernel
theorem dX7_fits_70 : decode cX7_fits 70 = .ok (.goto 4, 3) := by decide +kernel
theorem dX7_fits_73 : decode cX7_fits 73 = .ok (.iconst 0, 1) := by decide +kernel
theorem dX7_fits_74 : decode cX7_fits 74 = .ok (.ior, 1) := by decide +kernel
theorem dX7_fits_75 : decode cX7_fits 75 = .ok (.istore_n 3, 1) := by decide +kernel
theorem dX7_fits_76 : decode cX7_fits 76 = .ok (.iinc 4 1, 3) := by decide +kernel
theorem dX7_fits_79 : decode cX7_fits 79 = .ok (.goto (-46), 3) := by decide +kernel
theorem dX7_fits_82 : decode cX7_fits 82 = .ok (.iload_n 3, 1) := by decide +kernel
theorem dX7_fits_83 : decode cX7_fits 83 = .ok (.ireturn, 1) := by decide +kernel
theorem dX7_harmOf_0 : decode cX7_harmOf 0 = .ok (.iconst 0, 1) := by decide +kernel
theorem dX7_harmOf_1 : decode cX7_harmOf 1 = .ok (.istore_n 2, 1) := by decide +kernel
theorem dX7_harmOf_2 : decode cX7_harmOf 2 = .ok (.iconst 0, 1) := by decide +kernel
theorem dX7_harmOf_3 : decode cX7_harmOf 3 = .ok (.istore_n 3, 1) := by decide +kernel
theorem dX7_harmOf_4 : decode cX7_harmOf 4 = .ok (.iload_n 3, 1) := by decide +kernel
theorem dX7_harmOf_5 : decode cX7_harmOf 5 = .ok (.aload_n 0, 1) := by decide +kernel
theorem dX7_harmOf_6 : decode cX7_harmOf 6 = .ok (.getfield 19, 3) := by decide +kernel
theorem dX7_harmOf_9 : decode cX7_harmOf 9 = .ok (.iconst 2, 1) := by decide +kernel
theorem dX7_harmOf_10 : decode cX7_harmOf 10 = .ok (.iaload, 1) := by decide +kernel
theorem dX7_harmOf_11 : decode cX7_harmOf 11 = .ok (.if_icmp .ge 56, 3) := by decide +kernel
theorem dX7_harmOf_14 : decode cX7_harmOf 14 = .ok (.aload_n 0, 1) := by decide +kernel
theorem dX7_harmOf_15 : decode cX7_harmOf 15 = .ok (.iconst 0, 1) := by decide +kernel
theorem dX7_harmOf_16 : decode cX7_harmOf 16 = .ok (.aload_n 0, 1) := by decide +kernel
theorem dX7_harmOf_17 : decode cX7_harmOf 17 = .ok (.getfield 19, 3) := by decide +kernel
theorem dX7_harmOf_20 : decode cX7_harmOf 20 = .ok (.iconst 2, 1) := by decide +kernel
theorem dX7_harmOf_21 : decode cX7_harmOf 21 = .ok (.iaload, 1) := by decide +kernel
theorem dX7_harmOf_22 : decode cX7_harmOf 22 = .ok (.iconst 1, 1) := by decide +kernel
theorem dX7_harmOf_23 : decode cX7_harmOf 23 = .ok (.isub, 1) := by decide +kernel
theorem dX7_harmOf_24 : decode cX7_harmOf 24 = .ok (.iload_n 3, 1) := by decide +kernel
theorem dX7_harmOf_25 : decode cX7_harmOf 25 = .ok (.isub, 1) := by decide +kernel
theorem dX7_harmOf_26 : decode cX7_harmOf 26 = .ok (.invokevirtual 170, 3) := by decide +kernel
theorem dX7_harmOf_29 : decode cX7_harmOf 29 = .ok (.istore 4, 2) := by decide +kernel
theorem dX7_harmOf_31 : decode cX7_harmOf 31 = .ok (.iload_n 2, 1) := by decide +kernel
theorem dX7_harmOf_32 : decode cX7_harmOf 32 = .ok (.aload_n 0, 1) := by decide +kernel
theorem dX7_harmOf_33 : decode cX7_harmOf 33 = .ok (.iload 4, 2) := by decide +kernel
theorem dX7_harmOf_35 : decode cX7_harmOf 35 = .ok (.aload_n 0, 1) := by decide +kernel
theorem dX7_harmOf_36 : decode cX7_harmOf 36 = .ok (.getfield 16, 3) := by decide +kernel
theorem dX7_harmOf_39 : decode cX7_harmOf 39 = .ok (.bipush 40, 2) := by decide +kernel
theorem dX7_harmOf_41 : decode cX7_harmOf 41 = .ok (.iload_n 1, 1) := by decide +kernel
theorem dX7_harmOf_42 : decode cX7_harmOf 42 = .ok (.imul, 1) := by decide +kernel
theorem dX7_harmOf_43 : decode cX7_harmOf 43 = .ok (.iload_n 3, 1) := by decide +kernel
theorem dX7_harmOf_44 : decode cX7_harmOf 44 = .ok (.iadd, 1) := by decide +kernel
theorem dX7_harmOf_45 : decode cX7_harmOf 45 = .ok (.iaload, 1) := by decide +kernel
theorem dX7_harmOf_46 : decode cX7_harmOf 46 = .ok (.invokevirtual 226, 3) := by decide +kernel
theorem dX7_harmOf_49 : decode cX7_harmOf 49 = .ok (.iload 4, 2) := by decide +kernel
theorem dX7_harmOf_51 : decode cX7_harmOf 51 = .ok (.if_icmp .eq 7, 3) := by decide +kernel
theorem dX7_harmOf_54 : decode cX7_harmOf 54 = .ok (.iconst 1, 1) := by decide +kernel
theorem dX7_harmOf_55 : decode cX7_harmOf 55 = .ok (.goto 4, 3) := by decide +kernel
theorem dX7_harmOf_58 : decode cX7_harmOf 58 = .ok (.iconst 0, 1) := by decide +kernel
theorem dX7_harmOf_59 : decode cX7_harmOf 59 = .ok (.iadd, 1) := by decide +kernel
theorem dX7_harmOf_60 : decode cX7_harmOf 60 = .ok (.istore_n 2, 1) := by decide +kernel
theorem dX7_harmOf_61 : decode cX7_harmOf 61 = .ok (.iinc 3 1, 3) := by decide +kernel
theorem dX7_harmOf_64 : decode cX7_harmOf 64 = .ok (.goto (-60), 3) := by decide +kernel
theorem dX7_harmOf_67 : decode cX7_harmOf 67 = .ok (.iload_n 2, 1) := by decide +kernel
theorem dX7_harmOf_68 : decode cX7_harmOf 68 = .ok (.ireturn, 1) := by decide +kernel
theorem dX7_harm_0 : decode cX7_harm 0 = .ok (.aload_n 0, 1) := by decide +kernel
theorem dX7_harm_1 : decode cX7_harm 1 = .ok (.iconst 0, 1) := by decide +kernel
theorem dX7_harm_2 : decode cX7_harm 2 = .ok (.putfield 41, 3) := by decide +kernel
theorem dX7_harm_5 : decode cX7_harm 5 = .ok (.aload_n 0, 1) := by decide +kernel
theorem dX7_harm_6 : decode cX7_harm 6 = .ok (.iload_n 1, 1) := by decide +kernel
theorem dX7_harm_7 : decode cX7_harm 7 = .ok (.iconst 1, 1) := by decide +kernel
theorem dX7_harm_8 : decode cX7_harm 8 = .ok (.invokevirtual 229, 3) := by decide +kernel
theorem dX7_harm_11 : decode cX7_harm 11 = .ok (.istore_n 2, 1) := by decide +kernel
theorem dX7_harm_12 : decode cX7_harm 12 = .ok (.iload_n 2, 1) := by decide +kernel
theorem dX7_harm_13 : decode cX7_harm 13 = .ok (.ifCond .ge 7, 3) := by decide +kernel
theorem dX7_harm_16 : decode cX7_harm 16 = .ok (.iload_n 2, 1) := by decide +kernel
theorem dX7_harm_17 : decode cX7_harm 17 = .ok (.goto 8, 3) := by decide +kernel
theorem dX7_harm_20 : decode cX7_harm 20 = .ok (.aload_n 0, 1) := by decide +kernel
theorem dX7_harm_21 : decode cX7_harm 21 = .ok (.iload_n 1, 1) := by decide +kernel
theorem dX7_harm_22 : decode cX7_harm 22 = .ok (.invokevirtual 239, 3) := by decide +kernel
theorem dX7_harm_25 : decode cX7_harm 25 = .ok (.ireturn, 1) := by decide +kernel
theorem dX7_leastHarm_0 : decode cX7_leastHarm 0 = .ok (.aload_n 0, 1) := by decide +kernel
theorem dX7_leastHarm_1 : decode cX7_leastHarm 1 = .ok (.iconst 0, 1) := by decide +kernel
theorem dX7_leastHarm_2 : decode cX7_leastHarm 2 = .ok (.putfield 41, 3) := by decide +kernel
theorem dX7_leastHarm_5 : decode cX7_leastHarm 5 = .ok (.aload_n 0, 1) := by decide +kernel
theorem dX7_leastHarm_6 : decode cX7_leastHarm 6 = .ok (.invokevirtual 209, 3) := by decide +kernel
theorem dX7_leastHarm_9 : decode cX7_leastHarm 9 = .ok (.ifCond .ne 6, 3) := by decide +kernel
theorem dX7_leastHarm_12 : decode cX7_leastHarm 12 = .ok (.ldc 213, 2) := by decide +kernel
theorem dX7_leastHarm_14 : decode cX7_leastHarm 14 = .ok (.ireturn, 1) := by decide +kernel
theorem dX7_leastHarm_15 : decode cX7_leastHarm 15 = .ok (.iload_n 1, 1) := by decide +kernel
theorem dX7_leastHarm_16 : decode cX7_leastHarm 16 = .ok (.i2l, 1) := by decide +kernel
theorem dX7_leastHarm_17 : decode cX7_leastHarm 17 = .ok (.lconst 0, 1) := by decide +kernel
theorem dX7_leastHarm_18 : decode cX7_leastHarm 18 = .ok (.ldc2_w 72, 3) := by decide +kernel
theorem dX7_leastHarm_21 : decode cX7_leastHarm 21 = .ok (.invokestatic 51, 3) := by decide +kernel
theorem dX7_leastHarm_24 : decode cX7_leastHarm 24 = .ok (.ifCond .ne 6, 3) := by decide +kernel
theorem dX7_leastHarm_27 : decode cX7_leastHarm 27 = .ok (.ldc 61, 2) := by decide +kernel
theorem dX7_leastHarm_29 : decode cX7_leastHarm 29 = .ok (.ireturn, 1) := by decide +kernel
theorem dX7_leastHarm_30 : decode cX7_leastHarm 30 = .ok (.ldc 77, 2) := by decide +kernel
theorem dX7_leastHarm_32 : decode cX7_leastHarm 32 = .ok (.istore_n 2, 1) := by decide +kernel
theorem dX7_leastHarm_33 : decode cX7_leastHarm 33 = .ok (.iconst 0, 1) := by decide +kernel
theorem dX7_leastHarm_34 : decode cX7_leastHarm 34 = .ok (.istore_n 3, 1) := by decide +kernel
theorem dX7_leastHarm_35 : decode cX7_leastHarm 35 = .ok (.iload_n 3, 1) := by decide +kernel
theorem dX7_leastHarm_36 : decode cX7_leastHarm 36 = .ok (.bipush 8, 2) := by decide +kernel
theorem dX7_leastHarm_38 : decode cX7_leastHarm 38 = .ok (.if_icmp .ge 87, 3) := by decide +kernel
theorem dX7_leastHarm_41 : decode cX7_leastHarm 41 = .ok (.iload_n 1, 1) := by decide +kernel
theorem dX7_leastHarm_42 : decode cX7_leastHarm 42 = .ok (.iload_n 3, 1) := by decide +kernel
theorem dX7_leastHarm_43 : decode cX7_leastHarm 43 = .ok (.ishr, 1) := by decide +kernel
theorem dX7_leastHarm_44 : decode cX7_leastHarm 44 = .ok (.iconst 1, 1) := by decide +kernel
theorem dX7_leastHarm_45 : decode cX7_leastHarm 45 = .ok (.iand, 1) := by decide +kernel
theorem dX7_leastHarm_46 : decode cX7_leastHarm 46 = .ok (.iconst 1, 1) := by decide +kernel
theorem dX7_leastHarm_47 : decode cX7_leastHarm 47 = .ok (.if_icmp .ne 39, 3) := by decide +kernel
theorem dX7_leastHarm_50 : decode cX7_leastHarm 50 = .ok (.aload_n 0, 1) := by decide +kernel
theorem dX7_leastHarm_51 : decode cX7_leastHarm 51 = .ok (.getfield 7, 3) := by decide +kernel
theorem dX7_leastHarm_54 : decode cX7_leastHarm 54 = .ok (.iload_n 3, 1) := by decide +kernel
theorem dX7_leastHarm_55 : decode cX7_leastHarm 55 = .ok (.iaload, 1) := by decide +kernel
theorem dX7_leastHarm_56 : decode cX7_leastHarm 56 = .ok (.ifCond .lt 30, 3) := by decide +kernel
theorem dX7_leastHarm_59 : decode cX7_leastHarm 59 = .ok (.aload_n 0, 1) := by decide +kernel
theorem dX7_leastHarm_60 : decode cX7_leastHarm 60 = .ok (.getfield 13, 3) := by decide +kernel
theorem dX7_leastHarm_63 : decode cX7_leastHarm 63 = .ok (.iload_n 3, 1) := by decide +kernel
theorem dX7_leastHarm_64 : decode cX7_leastHarm 64 = .ok (.iaload, 1) := by decide +kernel
theorem dX7_leastHarm_65 : decode cX7_leastHarm 65 = .ok (.aload_n 0, 1) := by decide +kernel
theorem dX7_leastHarm_66 : decode cX7_leastHarm 66 = .ok (.getfield 19, 3) := by decide +kernel
theorem dX7_leastHarm_69 : decode cX7_leastHarm 69 = .ok (.iconst 2, 1) := by decide +kernel
theorem dX7_leastHarm_70 : decode cX7_leastHarm 70 = .ok (.iaload, 1) := by decide +kernel
theorem dX7_leastHarm_71 : decode cX7_leastHarm 71 = .ok (.if_icmp .lt 15, 3) := by decide +kernel
theorem dX7_leastHarm_74 : decode cX7_leastHarm 74 = .ok (.aload_n 0, 1) := by decide +kernel
theorem dX7_leastHarm_75 : decode cX7_leastHarm 75 = .ok (.iload_n 3, 1) := by decide +kernel
theorem dX7_leastHarm_76 : decode cX7_leastHarm 76 = .ok (.invokevirtual 223, 3) := by decide +kernel
theorem dX7_leastHarm_79 : decode cX7_leastHarm 79 = .ok (.ifCond .eq 7, 3) := by decide +kernel
theorem dX7_leastHarm_82 : decode cX7_leastHarm 82 = .ok (.iconst 1, 1) := by decide +kernel
theorem dX7_leastHarm_83 : decode cX7_leastHarm 83 = .ok (.goto 4, 3) := by decide +kernel
theorem dX7_leastHarm_86 : decode cX7_leastHarm 86 = .ok (.iconst 0, 1) := by decide +kernel
theorem dX7_leastHarm_87 : decode cX7_leastHarm 87 = .ok (.istore 4, 2) := by decide +kernel
theorem dX7_leastHarm_89 : decode cX7_leastHarm 89 = .ok (.iload 4, 2) := by decide +kernel
theorem dX7_leastHarm_91 : decode cX7_leastHarm 91 = .ok (.ifCond .eq 26, 3) := by decide +kernel
theorem dX7_leastHarm_94 : decode cX7_leastHarm 94 = .ok (.iload_n 2, 1) := by decide +kernel
theorem dX7_leastHarm_95 : decode cX7_leastHarm 95 = .ok (.ldc 77, 2) := by decide +kernel
theorem dX7_leastHarm_97 : decode cX7_leastHarm 97 = .ok (.if_icmp .eq 16, 3) := by decide +kernel
theorem dX7_leastHarm_100 : decode cX7_leastHarm 100 = .ok (.aload_n 0, 1) := by decide +kernel
theorem dX7_leastHarm_101 : decode cX7_leastHarm 101 = .ok (.iload_n 3, 1) := by decide +kernel
theorem dX7_leastHarm_102 : decode cX7_leastHarm 102 = .ok (.invokevirtual 239, 3) := by decide +kernel
theorem dX7_leastHarm_105 : decode cX7_leastHarm 105 = .ok (.aload_n 0, 1) := by decide +kernel
theorem dX7_leastHarm_106 : decode cX7_leastHarm 106 = .ok (.iload_n 2, 1) := by decide +kernel
theorem dX7_leastHarm_107 : decode cX7_leastHarm 107 = .ok (.invokevirtual 239, 3) := by decide +kernel
theorem dX7_leastHarm_110 : decode cX7_leastHarm 110 = .ok (.if_icmp .ge 7, 3) := by decide +kernel
theorem dX7_leastHarm_113 : decode cX7_leastHarm 113 = .ok (.iload_n 3, 1) := by decide +kernel
theorem dX7_leastHarm_114 : decode cX7_leastHarm 114 = .ok (.goto 4, 3) := by decide +kernel
theorem dX7_leastHarm_117 : decode cX7_leastHarm 117 = .ok (.iload_n 2, 1) := by decide +kernel
theorem dX7_leastHarm_118 : decode cX7_leastHarm 118 = .ok (.istore_n 2, 1) := by decide +kernel
end
section
theorem dX7_leastHarm_119 : decode cX7_leastHarm 119 = .ok (.iinc 3 1, 3) := by decide +kernel
theorem dX7_leastHarm_122 : decode cX7_leastHarm 122 = .ok (.goto (-87), 3) := by decide +kernel
theorem dX7_leastHarm_125 : decode cX7_leastHarm 125 = .ok (.iload_n 2, 1) := by decide +kernel
theorem dX7_leastHarm_126 : decode cX7_leastHarm 126 = .ok (.ireturn, 1) := by decide +kernel
theorem dX7_safe_0 : decode cX7_safe 0 = .ok (.aload_n 0, 1) := by decide +kernel
theorem dX7_safe_1 : decode cX7_safe 1 = .ok (.iconst 0, 1) := by decide +kernel
theorem dX7_safe_2 : decode cX7_safe 2 = .ok (.putfield 41, 3) := by decide +kernel
theorem dX7_safe_5 : decode cX7_safe 5 = .ok (.aload_n 0, 1) := by decide +kernel
theorem dX7_safe_6 : decode cX7_safe 6 = .ok (.iload_n 1, 1) := by decide +kernel
theorem dX7_safe_7 : decode cX7_safe 7 = .ok (.invokevirtual 203, 3) := by decide +kernel
theorem dX7_safe_10 : decode cX7_safe 10 = .ok (.ifCond .eq 12, 3) := by decide +kernel
theorem dX7_safe_13 : decode cX7_safe 13 = .ok (.aload_n 0, 1) := by decide +kernel
theorem dX7_safe_14 : decode cX7_safe 14 = .ok (.iload_n 1, 1) := by decide +kernel
theorem dX7_safe_15 : decode cX7_safe 15 = .ok (.iload_n 1, 1) := by decide +kernel
theorem dX7_safe_16 : decode cX7_safe 16 = .ok (.invokevirtual 233, 3) := by decide +kernel
theorem dX7_safe_19 : decode cX7_safe 19 = .ok (.goto 5, 3) := by decide +kernel
theorem dX7_safe_22 : decode cX7_safe 22 = .ok (.ldc 61, 2) := by decide +kernel
theorem dX7_safe_24 : decode cX7_safe 24 = .ok (.ireturn, 1) := by decide +kernel
theorem dX7_over_0 : decode cX7_over 0 = .ok (.aload_n 0, 1) := by decide +kernel
theorem dX7_over_1 : decode cX7_over 1 = .ok (.iconst 0, 1) := by decide +kernel
theorem dX7_over_2 : decode cX7_over 2 = .ok (.putfield 41, 3) := by decide +kernel
theorem dX7_over_5 : decode cX7_over 5 = .ok (.aload_n 0, 1) := by decide +kernel
theorem dX7_over_6 : decode cX7_over 6 = .ok (.iload_n 1, 1) := by decide +kernel
theorem dX7_over_7 : decode cX7_over 7 = .ok (.invokevirtual 203, 3) := by decide +kernel
theorem dX7_over_10 : decode cX7_over 10 = .ok (.ifCond .eq 21, 3) := by decide +kernel
theorem dX7_over_13 : decode cX7_over 13 = .ok (.aload_n 0, 1) := by decide +kernel
theorem dX7_over_14 : decode cX7_over 14 = .ok (.iload_n 2, 1) := by decide +kernel
theorem dX7_over_15 : decode cX7_over 15 = .ok (.invokevirtual 203, 3) := by decide +kernel
theorem dX7_over_18 : decode cX7_over 18 = .ok (.ifCond .eq 13, 3) := by decide +kernel
theorem dX7_over_21 : decode cX7_over 21 = .ok (.iload_n 3, 1) := by decide +kernel
theorem dX7_over_22 : decode cX7_over 22 = .ok (.i2l, 1) := by decide +kernel
theorem dX7_over_23 : decode cX7_over 23 = .ok (.lconst 0, 1) := by decide +kernel
theorem dX7_over_24 : decode cX7_over 24 = .ok (.lconst 1, 1) := by decide +kernel
theorem dX7_over_25 : decode cX7_over 25 = .ok (.invokestatic 51, 3) := by decide +kernel
theorem dX7_over_28 : decode cX7_over 28 = .ok (.ifCond .ne 6, 3) := by decide +kernel
theorem dX7_over_31 : decode cX7_over 31 = .ok (.ldc 61, 2) := by decide +kernel
theorem dX7_over_33 : decode cX7_over 33 = .ok (.ireturn, 1) := by decide +kernel
theorem dX7_over_34 : decode cX7_over 34 = .ok (.aload_n 0, 1) := by decide +kernel
theorem dX7_over_35 : decode cX7_over 35 = .ok (.iload_n 1, 1) := by decide +kernel
theorem dX7_over_36 : decode cX7_over 36 = .ok (.invokevirtual 176, 3) := by decide +kernel
theorem dX7_over_39 : decode cX7_over 39 = .ok (.aload_n 0, 1) := by decide +kernel
theorem dX7_over_40 : decode cX7_over 40 = .ok (.iload_n 2, 1) := by decide +kernel
theorem dX7_over_41 : decode cX7_over 41 = .ok (.invokevirtual 176, 3) := by decide +kernel
theorem dX7_over_44 : decode cX7_over 44 = .ok (.ior, 1) := by decide +kernel
theorem dX7_over_45 : decode cX7_over 45 = .ok (.istore 4, 2) := by decide +kernel
theorem dX7_over_47 : decode cX7_over 47 = .ok (.iload_n 3, 1) := by decide +kernel
theorem dX7_over_48 : decode cX7_over 48 = .ok (.ifCond .ne 8, 3) := by decide +kernel
theorem dX7_over_51 : decode cX7_over 51 = .ok (.iload 4, 2) := by decide +kernel
theorem dX7_over_53 : decode cX7_over 53 = .ok (.goto 9, 3) := by decide +kernel
theorem dX7_over_56 : decode cX7_over 56 = .ok (.aload_n 0, 1) := by decide +kernel
theorem dX7_over_57 : decode cX7_over 57 = .ok (.iload 4, 2) := by decide +kernel
theorem dX7_over_59 : decode cX7_over 59 = .ok (.invokevirtual 194, 3) := by decide +kernel
theorem dX7_over_62 : decode cX7_over 62 = .ok (.ireturn, 1) := by decide +kernel
theorem dX7_image_0 : decode cX7_image 0 = .ok (.aload_n 0, 1) := by decide +kernel
theorem dX7_image_1 : decode cX7_image 1 = .ok (.iconst 0, 1) := by decide +kernel
theorem dX7_image_2 : decode cX7_image 2 = .ok (.putfield 41, 3) := by decide +kernel
theorem dX7_image_5 : decode cX7_image 5 = .ok (.iload_n 1, 1) := by decide +kernel
theorem dX7_image_6 : decode cX7_image 6 = .ok (.i2l, 1) := by decide +kernel
theorem dX7_image_7 : decode cX7_image 7 = .ok (.lconst 0, 1) := by decide +kernel
theorem dX7_image_8 : decode cX7_image 8 = .ok (.lconst 1, 1) := by decide +kernel
theorem dX7_image_9 : decode cX7_image 9 = .ok (.invokestatic 51, 3) := by decide +kernel
theorem dX7_image_12 : decode cX7_image 12 = .ok (.ifCond .ne 6, 3) := by decide +kernel
theorem dX7_image_15 : decode cX7_image 15 = .ok (.ldc 61, 2) := by decide +kernel
theorem dX7_image_17 : decode cX7_image 17 = .ok (.ireturn, 1) := by decide +kernel
theorem dX7_image_18 : decode cX7_image 18 = .ok (.aload_n 0, 1) := by decide +kernel
theorem dX7_image_19 : decode cX7_image 19 = .ok (.invokevirtual 209, 3) := by decide +kernel
theorem dX7_image_22 : decode cX7_image 22 = .ok (.ifCond .ne 6, 3) := by decide +kernel
theorem dX7_image_25 : decode cX7_image 25 = .ok (.ldc 213, 2) := by decide +kernel
theorem dX7_image_27 : decode cX7_image 27 = .ok (.ireturn, 1) := by decide +kernel
theorem dX7_image_28 : decode cX7_image 28 = .ok (.iconst 0, 1) := by decide +kernel
theorem dX7_image_29 : decode cX7_image 29 = .ok (.istore_n 2, 1) := by decide +kernel
theorem dX7_image_30 : decode cX7_image 30 = .ok (.iload_n 2, 1) := by decide +kernel
theorem dX7_image_31 : decode cX7_image 31 = .ok (.bipush 37, 2) := by decide +kernel
theorem dX7_image_33 : decode cX7_image 33 = .ok (.if_icmp .ge 26, 3) := by decide +kernel
theorem dX7_image_36 : decode cX7_image 36 = .ok (.aload_n 0, 1) := by decide +kernel
theorem dX7_image_37 : decode cX7_image 37 = .ok (.getfield 35, 3) := by decide +kernel
theorem dX7_image_40 : decode cX7_image 40 = .ok (.bipush 37, 2) := by decide +kernel
theorem dX7_image_42 : decode cX7_image 42 = .ok (.iload_n 1, 1) := by decide +kernel
theorem dX7_image_43 : decode cX7_image 43 = .ok (.imul, 1) := by decide +kernel
theorem dX7_image_44 : decode cX7_image 44 = .ok (.iload_n 2, 1) := by decide +kernel
theorem dX7_image_45 : decode cX7_image 45 = .ok (.iadd, 1) := by decide +kernel
theorem dX7_image_46 : decode cX7_image 46 = .ok (.aload_n 0, 1) := by decide +kernel
theorem dX7_image_47 : decode cX7_image 47 = .ok (.getfield 19, 3) := by decide +kernel
theorem dX7_image_50 : decode cX7_image 50 = .ok (.iload_n 2, 1) := by decide +kernel
theorem dX7_image_51 : decode cX7_image 51 = .ok (.iaload, 1) := by decide +kernel
theorem dX7_image_52 : decode cX7_image 52 = .ok (.iastore, 1) := by decide +kernel
theorem dX7_image_53 : decode cX7_image 53 = .ok (.iinc 2 1, 3) := by decide +kernel
theorem dX7_image_56 : decode cX7_image 56 = .ok (.goto (-26), 3) := by decide +kernel
theorem dX7_image_59 : decode cX7_image 59 = .ok (.aload_n 0, 1) := by decide +kernel
theorem dX7_image_60 : decode cX7_image 60 = .ok (.getfield 31, 3) := by decide +kernel
theorem dX7_image_63 : decode cX7_image 63 = .ok (.iload_n 1, 1) := by decide +kernel
theorem dX7_image_64 : decode cX7_image 64 = .ok (.iconst 1, 1) := by decide +kernel
theorem dX7_image_65 : decode cX7_image 65 = .ok (.bastore, 1) := by decide +kernel
theorem dX7_image_66 : decode cX7_image 66 = .ok (.iconst 1, 1) := by decide +kernel
theorem dX7_image_67 : decode cX7_image 67 = .ok (.ireturn, 1) := by decide +kernel
theorem dX7_restore_0 : decode cX7_restore 0 = .ok (.aload_n 0, 1) := by decide +kernel
theorem dX7_restore_1 : decode cX7_restore 1 = .ok (.iconst 0, 1) := by decide +kernel
theorem dX7_restore_2 : decode cX7_restore 2 = .ok (.putfield 41, 3) := by decide +kernel
theorem dX7_restore_5 : decode cX7_restore 5 = .ok (.iload_n 1, 1) := by decide +kernel
theorem dX7_restore_6 : decode cX7_restore 6 = .ok (.i2l, 1) := by decide +kernel
theorem dX7_restore_7 : decode cX7_restore 7 = .ok (.lconst 0, 1) := by decide +kernel
theorem dX7_restore_8 : decode cX7_restore 8 = .ok (.lconst 1, 1) := by decide +kernel
theorem dX7_restore_9 : decode cX7_restore 9 = .ok (.invokestatic 51, 3) := by decide +kernel
theorem dX7_restore_12 : decode cX7_restore 12 = .ok (.ifCond .ne 6, 3) := by decide +kernel
theorem dX7_restore_15 : decode cX7_restore 15 = .ok (.ldc 61, 2) := by decide +kernel
theorem dX7_restore_17 : decode cX7_restore 17 = .ok (.ireturn, 1) := by decide +kernel
theorem dX7_restore_18 : decode cX7_restore 18 = .ok (.aload_n 0, 1) := by decide +kernel
theorem dX7_restore_19 : decode cX7_restore 19 = .ok (.getfield 31, 3) := by decide +kernel
theorem dX7_restore_22 : decode cX7_restore 22 = .ok (.iload_n 1, 1) := by decide +kernel
theorem dX7_restore_23 : decode cX7_restore 23 = .ok (.baload, 1) := by decide +kernel
theorem dX7_restore_24 : decode cX7_restore 24 = .ok (.ifCond .ne 6, 3) := by decide +kernel
theorem dX7_restore_27 : decode cX7_restore 27 = .ok (.ldc 213, 2) := by decide +kernel
theorem dX7_restore_29 : decode cX7_restore 29 = .ok (.ireturn, 1) := by decide +kernel
theorem dX7_restore_30 : decode cX7_restore 30 = .ok (.iconst 0, 1) := by decide +kernel
theorem dX7_restore_31 : decode cX7_restore 31 = .ok (.istore_n 2, 1) := by decide +kernel
theorem dX7_restore_32 : decode cX7_restore 32 = .ok (.iload_n 2, 1) := by decide +kernel
theorem dX7_restore_33 : decode cX7_restore 33 = .ok (.bipush 37, 2) := by decide +kernel
theorem dX7_restore_35 : decode cX7_restore 35 = .ok (.if_icmp .ge 26, 3) := by decide +kernel
theorem dX7_restore_38 : decode cX7_restore 38 = .ok (.aload_n 0, 1) := by decide +kernel
theorem dX7_restore_39 : decode cX7_restore 39 = .ok (.getfield 19, 3) := by decide +kernel
theorem dX7_restore_42 : decode cX7_restore 42 = .ok (.iload_n 2, 1) := by decide +kernel
theorem dX7_restore_43 : decode cX7_restore 43 = .ok (.aload_n 0, 1) := by decide +kernel
theorem dX7_restore_44 : decode cX7_restore 44 = .ok (.getfield 35, 3) := by decide +kernel
theorem dX7_restore_47 : decode cX7_restore 47 = .ok (.bipush 37, 2) := by decide +kernel
theorem dX7_restore_49 : decode cX7_restore 49 = .ok (.iload_n 1, 1) := by decide +kernel
theorem dX7_restore_50 : decode cX7_restore 50 = .ok (.imul, 1) := by decide +kernel
theorem dX7_restore_51 : decode cX7_restore 51 = .ok (.iload_n 2, 1) := by decide +kernel
theorem dX7_restore_52 : decode cX7_restore 52 = .ok (.iadd, 1) := by decide +kernel
theorem dX7_restore_53 : decode cX7_restore 53 = .ok (.iaload, 1) := by decide +kernel
theorem dX7_restore_54 : decode cX7_restore 54 = .ok (.iastore, 1) := by decide +kernel
theorem dX7_restore_55 : decode cX7_restore 55 = .ok (.iinc 2 1, 3) := by decide +kernel
theorem dX7_restore_58 : decode cX7_restore 58 = .ok (.goto (-26), 3) := by decide +kernel
theorem dX7_restore_61 : decode cX7_restore 61 = .ok (.aload_n 0, 1) := by decide +kernel
theorem dX7_restore_62 : decode cX7_restore 62 = .ok (.iconst 0, 1) := by decide +kernel
theorem dX7_restore_63 : decode cX7_restore 63 = .ok (.putfield 167, 3) := by decide +kernel
theorem dX7_restore_66 : decode cX7_restore 66 = .ok (.iconst 1, 1) := by decide +kernel
theorem dX7_restore_67 : decode cX7_restore 67 = .ok (.ireturn, 1) := by decide +kernel
theorem dX7_isOf_0 : decode cX7_isOf 0 = .ok (.iload_n 1, 1) := by decide +kernel
theorem dX7_isOf_1 : decode cX7_isOf 1 = .ok (.ifCond .eq 28, 3) := by decide +kernel
theorem dX7_isOf_4 : decode cX7_isOf 4 = .ok (.iload_n 0, 1) := by decide +kernel
theorem dX7_isOf_5 : decode cX7_isOf 5 = .ok (.iload_n 1, 1) := by decide +kernel
theorem dX7_isOf_6 : decode cX7_isOf 6 = .ok (.if_icmp .eq 23, 3) := by decide +kernel
theorem dX7_isOf_9 : decode cX7_isOf 9 = .ok (.iload_n 1, 1) := by decide +kernel
theorem dX7_isOf_10 : decode cX7_isOf 10 = .ok (.iconst 1, 1) := by decide +kernel
theorem dX7_isOf_11 : decode cX7_isOf 11 = .ok (.if_icmp .ne 8, 3) := by decide +kernel
theorem dX7_isOf_14 : decode cX7_isOf 14 = .ok (.iload_n 0, 1) := by decide +kernel
theorem dX7_isOf_15 : decode cX7_isOf 15 = .ok (.iconst 4, 1) := by decide +kernel
theorem dX7_isOf_16 : decode cX7_isOf 16 = .ok (.if_icmp .lt 13, 3) := by decide +kernel
theorem dX7_isOf_19 : decode cX7_isOf 19 = .ok (.iload_n 1, 1) := by decide +kernel
theorem dX7_isOf_20 : decode cX7_isOf 20 = .ok (.iconst 4, 1) := by decide +kernel
theorem dX7_isOf_21 : decode cX7_isOf 21 = .ok (.if_icmp .ne 12, 3) := by decide +kernel
theorem dX7_isOf_24 : decode cX7_isOf 24 = .ok (.iload_n 0, 1) := by decide +kernel
theorem dX7_isOf_25 : decode cX7_isOf 25 = .ok (.iconst 5, 1) := by decide +kernel
theorem dX7_isOf_26 : decode cX7_isOf 26 = .ok (.if_icmp .ne 7, 3) := by decide +kernel
theorem dX7_isOf_29 : decode cX7_isOf 29 = .ok (.iconst 1, 1) := by decide +kernel
theorem dX7_isOf_30 : decode cX7_isOf 30 = .ok (.goto 4, 3) := by decide +kernel
theorem dX7_isOf_33 : decode cX7_isOf 33 = .ok (.iconst 0, 1) := by decide +kernel
theorem dX7_isOf_34 : decode cX7_isOf 34 = .ok (.ireturn, 1) := by decide +kernel
theorem dX7_kind_0 : decode cX7_kind 0 = .ok (.aload_n 0, 1) := by decide +kernel
theorem dX7_kind_1 : decode cX7_kind 1 = .ok (.iconst 0, 1) := by decide +kernel
theorem dX7_kind_2 : decode cX7_kind 2 = .ok (.putfield 41, 3) := by decide +kernel
theorem dX7_kind_5 : decode cX7_kind 5 = .ok (.aload_n 0, 1) := by decide +kernel
theorem dX7_kind_6 : decode cX7_kind 6 = .ok (.iload_n 1, 1) := by decide +kernel
theorem dX7_kind_7 : decode cX7_kind 7 = .ok (.invokevirtual 203, 3) := by decide +kernel
theorem dX7_kind_10 : decode cX7_kind 10 = .ok (.ifCond .eq 11, 3) := by decide +kernel
theorem dX7_kind_13 : decode cX7_kind 13 = .ok (.aload_n 0, 1) := by decide +kernel
theorem dX7_kind_14 : decode cX7_kind 14 = .ok (.iload_n 1, 1) := by decide +kernel
theorem dX7_kind_15 : decode cX7_kind 15 = .ok (.invokevirtual 173, 3) := by decide +kernel
theorem dX7_kind_18 : decode cX7_kind 18 = .ok (.goto 5, 3) := by decide +kernel
theorem dX7_kind_21 : decode cX7_kind 21 = .ok (.ldc 61, 2) := by decide +kernel
theorem dX7_kind_23 : decode cX7_kind 23 = .ok (.ireturn, 1) := by decide +kernel
theorem dX7_as_0 : decode cX7_as 0 = .ok (.aload_n 0, 1) := by decide +kernel
theorem dX7_as_1 : decode cX7_as 1 = .ok (.iconst 0, 1) := by decide +kernel
theorem dX7_as_2 : decode cX7_as 2 = .ok (.putfield 41, 3) := by decide +kernel
theorem dX7_as_5 : decode cX7_as 5 = .ok (.aload_n 0, 1) := by decide +kernel
theorem dX7_as_6 : decode cX7_as 6 = .ok (.iload_n 1, 1) := by decide +kernel
theorem dX7_as_7 : decode cX7_as 7 = .ok (.invokevirtual 203, 3) := by decide +kernel
theorem dX7_as_10 : decode cX7_as 10 = .ok (.ifCond .eq 15, 3) := by decide +kernel
theorem dX7_as_13 : decode cX7_as 13 = .ok (.iload_n 2, 1) := by decide +kernel
theorem dX7_as_14 : decode cX7_as 14 = .ok (.i2l, 1) := by decide +kernel
theorem dX7_as_15 : decode cX7_as 15 = .ok (.lconst 0, 1) := by decide +kernel
theorem dX7_as_16 : decode cX7_as 16 = .ok (.ldc2_w 242, 3) := by decide +kernel
theorem dX7_as_19 : decode cX7_as 19 = .ok (.invokestatic 51, 3) := by decide +kernel
theorem dX7_as_22 : decode cX7_as 22 = .ok (.ifCond .ne 6, 3) := by decide +kernel
theorem dX7_as_25 : decode cX7_as 25 = .ok (.ldc 61, 2) := by decide +kernel
theorem dX7_as_27 : decode cX7_as 27 = .ok (.ireturn, 1) := by decide +kernel
theorem dX7_as_28 : decode cX7_as 28 = .ok (.aload_n 0, 1) := by decide +kernel
theorem dX7_as_29 : decode cX7_as 29 = .ok (.iconst 0, 1) := by decide +kernel
theorem dX7_as_30 : decode cX7_as 30 = .ok (.putfield 45, 3) := by decide +kernel
theorem dX7_as_33 : decode cX7_as 33 = .ok (.aload_n 0, 1) := by decide +kernel
theorem dX7_as_34 : decode cX7_as 34 = .ok (.iload_n 1, 1) := by decide +kernel
theorem dX7_as_35 : decode cX7_as 35 = .ok (.invokevirtual 173, 3) := by decide +kernel
theorem dX7_as_38 : decode cX7_as 38 = .ok (.iload_n 2, 1) := by decide +kernel
theorem dX7_as_39 : decode cX7_as 39 = .ok (.invokestatic 244, 3) := by decide +kernel
theorem dX7_as_42 : decode cX7_as 42 = .ok (.ifCond .eq 7, 3) := by decide +kernel
theorem dX7_as_45 : decode cX7_as 45 = .ok (.iload_n 1, 1) := by decide +kernel
theorem dX7_as_46 : decode cX7_as 46 = .ok (.goto 8, 3) := by decide +kernel
theorem dX7_as_49 : decode cX7_as 49 = .ok (.aload_n 0, 1) := by decide +kernel
theorem dX7_as_50 : decode cX7_as 50 = .ok (.iconst 3, 1) := by decide +kernel
theorem dX7_as_51 : decode cX7_as 51 = .ok (.invokevirtual 62, 3) := by decide +kernel
theorem dX7_as_54 : decode cX7_as 54 = .ok (.ireturn, 1) := by decide +kernel
theorem dX7_began_0 : decode cX7_began 0 = .ok (.aload_n 0, 1) := by decide +kernel
theorem dX7_began_1 : decode cX7_began 1 = .ok (.getfield 248, 3) := by decide +kernel
theorem dX7_began_4 : decode cX7_began 4 = .ok (.bipush 16, 2) := by decide +kernel
theorem dX7_began_6 : decode cX7_began 6 = .ok (.if_icmp .ge 23, 3) := by decide +kernel
theorem dX7_began_9 : decode cX7_began 9 = .ok (.aload_n 0, 1) := by decide +kernel
theorem dX7_began_10 : decode cX7_began 10 = .ok (.getfield 38, 3) := by decide +kernel
theorem dX7_began_13 : decode cX7_began 13 = .ok (.aload_n 0, 1) := by decide +kernel
theorem dX7_began_14 : decode cX7_began 14 = .ok (.getfield 248, 3) := by decide +kernel
theorem dX7_began_17 : decode cX7_began 17 = .ok (.iload_n 1, 1) := by decide +kernel
theorem dX7_began_18 : decode cX7_began 18 = .ok (.iastore, 1) := by decide +kernel
theorem dX7_began_19 : decode cX7_began 19 = .ok (.aload_n 0, 1) := by decide +kernel
theorem dX7_began_20 : decode cX7_began 20 = .ok (.dup, 1) := by decide +kernel
theorem dX7_began_21 : decode cX7_began 21 = .ok (.getfield 248, 3) := by decide +kernel
theorem dX7_began_24 : decode cX7_began 24 = .ok (.iconst 1, 1) := by decide +kernel
theorem dX7_began_25 : decode cX7_began 25 = .ok (.iadd, 1) := by decide +kernel
theorem dX7_began_26 : decode cX7_began 26 = .ok (.putfield 248, 3) := by decide +kernel
theorem dX7_began_29 : decode cX7_began 29 = .ok (.return_, 1) := by decide +kernel
theorem dX7_plainSize_0 : decode cX7_plainSize 0 = .ok (.aload_n 0, 1) := by decide +kernel
theorem dX7_plainSize_1 : decode cX7_plainSize 1 = .ok (.bipush 10, 2) := by decide +kernel
theorem dX7_plainSize_3 : decode cX7_plainSize 3 = .ok (.invokevirtual 251, 3) := by decide +kernel
theorem dX7_plainSize_6 : decode cX7_plainSize 6 = .ok (.aload_n 0, 1) := by decide +kernel
theorem dX7_plainSize_7 : decode cX7_plainSize 7 = .ok (.iload_n 1, 1) := by decide +kernel
theorem dX7_plainSize_8 : decode cX7_plainSize 8 = .ok (.invokevirtual 176, 3) := by decide +kernel
theorem dX7_plainSize_11 : decode cX7_plainSize 11 = .ok (.invokestatic 185, 3) := by decide +kernel
theorem dX7_plainSize_14 : decode cX7_plainSize 14 = .ok (.ireturn, 1) := by decide +kernel
theorem dX7_markSize_0 : decode cX7_markSize 0 = .ok (.aload_n 0, 1) := by decide +kernel
theorem dX7_markSize_1 : decode cX7_markSize 1 = .ok (.iload_n 1, 1) := by decide +kernel
theorem dX7_markSize_2 : decode cX7_markSize 2 = .ok (.invokevirtual 173, 3) := by decide +kernel
theorem dX7_markSize_5 : decode cX7_markSize 5 = .ok (.iconst 5, 1) := by decide +kernel
theorem dX7_markSize_6 : decode cX7_markSize 6 = .ok (.if_icmp .ne 9, 3) := by decide +kernel
theorem dX7_markSize_9 : decode cX7_markSize 9 = .ok (.aload_n 0, 1) := by decide +kernel
theorem dX7_markSize_10 : decode cX7_markSize 10 = .ok (.bipush 14, 2) := by decide +kernel
theorem dX7_markSize_12 : decode cX7_markSize 12 = .ok (.invokevirtual 251, 3) := by decide +kernel
theorem dX7_markSize_15 : decode cX7_markSize 15 = .ok (.aload_n 0, 1) := by decide +kernel
theorem dX7_markSize_16 : decode cX7_markSize 16 = .ok (.bipush 13, 2) := by decide +kernel
theorem dX7_markSize_18 : decode cX7_markSize 18 = .ok (.invokevirtual 251, 3) := by decide +kernel
theorem dX7_markSize_21 : decode cX7_markSize 21 = .ok (.aload_n 0, 1) := by decide +kernel
theorem dX7_markSize_22 : decode cX7_markSize 22 = .ok (.iload_n 1, 1) := by decide +kernel
theorem dX7_markSize_23 : decode cX7_markSize 23 = .ok (.invokevirtual 254, 3) := by decide +kernel
theorem dX7_markSize_26 : decode cX7_markSize 26 = .ok (.bipush 100, 2) := by decide +kernel
theorem dX7_markSize_28 : decode cX7_markSize 28 = .ok (.isub, 1) := by decide +kernel
theorem dX7_markSize_29 : decode cX7_markSize 29 = .ok (.istore_n 2, 1) := by decide +kernel
theorem dX7_markSize_30 : decode cX7_markSize 30 = .ok (.aload_n 0, 1) := by decide +kernel
theorem dX7_markSize_31 : decode cX7_markSize 31 = .ok (.iload_n 1, 1) := by decide +kernel
theorem dX7_markSize_32 : decode cX7_markSize 32 = .ok (.invokevirtual 173, 3) := by decide +kernel
theorem dX7_markSize_35 : decode cX7_markSize 35 = .ok (.iconst 5, 1) := by decide +kernel
theorem dX7_markSize_36 : decode cX7_markSize 36 = .ok (.if_icmp .ne 9, 3) := by decide +kernel
theorem dX7_markSize_39 : decode cX7_markSize 39 = .ok (.iconst 2, 1) := by decide +kernel
theorem dX7_markSize_40 : decode cX7_markSize 40 = .ok (.iload_n 2, 1) := by decide +kernel
theorem dX7_markSize_41 : decode cX7_markSize 41 = .ok (.imul, 1) := by decide +kernel
theorem dX7_markSize_42 : decode cX7_markSize 42 = .ok (.goto 4, 3) := by decide +kernel
theorem dX7_markSize_45 : decode cX7_markSize 45 = .ok (.iload_n 2, 1) := by decide +kernel
theorem dX7_markSize_46 : decode cX7_markSize 46 = .ok (.ireturn, 1) := by decide +kernel
theorem dX7_markOf_0 : decode cX7_markOf 0 = .ok (.aload_n 0, 1) := by decide +kernel
theorem dX7_markOf_1 : decode cX7_markOf 1 = .ok (.iload_n 1, 1) := by decide +kernel
theorem dX7_markOf_2 : decode cX7_markOf 2 = .ok (.invokevirtual 173, 3) := by decide +kernel
theorem dX7_markOf_5 : decode cX7_markOf 5 = .ok (.istore_n 2, 1) := by decide +kernel
theorem dX7_markOf_6 : decode cX7_markOf 6 = .ok (.iload_n 2, 1) := by decide +kernel
theorem dX7_markOf_7 : decode cX7_markOf 7 = .ok (.iconst 4, 1) := by decide +kernel
theorem dX7_markOf_8 : decode cX7_markOf 8 = .ok (.if_icmp .lt 23, 3) := by decide +kernel
theorem dX7_markOf_11 : decode cX7_markOf 11 = .ok (.aload_n 0, 1) := by decide +kernel
theorem dX7_markOf_12 : decode cX7_markOf 12 = .ok (.bipush 23, 2) := by decide +kernel
theorem dX7_markOf_14 : decode cX7_markOf 14 = .ok (.invokevirtual 251, 3) := by decide +kernel
theorem dX7_markOf_17 : decode cX7_markOf 17 = .ok (.aload_n 0, 1) := by decide +kernel
theorem dX7_markOf_18 : decode cX7_markOf 18 = .ok (.bipush 20, 2) := by decide +kernel
theorem dX7_markOf_20 : decode cX7_markOf 20 = .ok (.invokevirtual 251, 3) := by decide +kernel
theorem dX7_markOf_23 : decode cX7_markOf 23 = .ok (.iload_n 1, 1) := by decide +kernel
theorem dX7_markOf_24 : decode cX7_markOf 24 = .ok (.aload_n 0, 1) := by decide +kernel
theorem dX7_markOf_25 : decode cX7_markOf 25 = .ok (.iload_n 1, 1) := by decide +kernel
theorem dX7_markOf_26 : decode cX7_markOf 26 = .ok (.invokevirtual 257, 3) := by decide +kernel
theorem dX7_markOf_29 : decode cX7_markOf 29 = .ok (.isub, 1) := by decide +kernel
theorem dX7_markOf_30 : decode cX7_markOf 30 = .ok (.ireturn, 1) := by decide +kernel
theorem dX7_markOf_31 : decode cX7_markOf 31 = .ok (.iload_n 2, 1) := by decide +kernel
theorem dX7_markOf_32 : decode cX7_markOf 32 = .ok (.iconst 1, 1) := by decide +kernel
theorem dX7_markOf_33 : decode cX7_markOf 33 = .ok (.if_icmp .eq 19, 3) := by decide +kernel
theorem dX7_markOf_36 : decode cX7_markOf 36 = .ok (.aload_n 0, 1) := by decide +kernel
theorem dX7_markOf_37 : decode cX7_markOf 37 = .ok (.iload_n 2, 1) := by decide +kernel
theorem dX7_markOf_38 : decode cX7_markOf 38 = .ok (.iconst 3, 1) := by decide +kernel
theorem dX7_markOf_39 : decode cX7_markOf 39 = .ok (.if_icmp .ne 8, 3) := by decide +kernel
theorem dX7_markOf_42 : decode cX7_markOf 42 = .ok (.bipush 22, 2) := by decide +kernel
theorem dX7_markOf_44 : decode cX7_markOf 44 = .ok (.goto 5, 3) := by decide +kernel
theorem dX7_markOf_47 : decode cX7_markOf 47 = .ok (.bipush 24, 2) := by decide +kernel
theorem dX7_markOf_49 : decode cX7_markOf 49 = .ok (.invokevirtual 251, 3) := by decide +kernel
theorem dX7_markOf_52 : decode cX7_markOf 52 = .ok (.aload_n 0, 1) := by decide +kernel
theorem dX7_markOf_53 : decode cX7_markOf 53 = .ok (.bipush 21, 2) := by decide +kernel
theorem dX7_markOf_55 : decode cX7_markOf 55 = .ok (.invokevirtual 251, 3) := by decide +kernel
theorem dX7_markOf_58 : decode cX7_markOf 58 = .ok (.aload_n 0, 1) := by decide +kernel
theorem dX7_markOf_59 : decode cX7_markOf 59 = .ok (.bipush 20, 2) := by decide +kernel
theorem dX7_markOf_61 : decode cX7_markOf 61 = .ok (.invokevirtual 251, 3) := by decide +kernel
theorem dX7_markOf_64 : decode cX7_markOf 64 = .ok (.iload_n 1, 1) := by decide +kernel
theorem dX7_markOf_65 : decode cX7_markOf 65 = .ok (.aload_n 0, 1) := by decide +kernel
theorem dX7_markOf_66 : decode cX7_markOf 66 = .ok (.iload_n 1, 1) := by decide +kernel
theorem dX7_markOf_67 : decode cX7_markOf 67 = .ok (.invokevirtual 176, 3) := by decide +kernel
theorem dX7_markOf_70 : decode cX7_markOf 70 = .ok (.iadd, 1) := by decide +kernel
theorem dX7_markOf_71 : decode cX7_markOf 71 = .ok (.istore_n 3, 1) := by decide +kernel
theorem dX7_markOf_72 : decode cX7_markOf 72 = .ok (.iload_n 2, 1) := by decide +kernel
theorem dX7_markOf_73 : decode cX7_markOf 73 = .ok (.iconst 1, 1) := by decide +kernel
theorem dX7_markOf_74 : decode cX7_markOf 74 = .ok (.if_icmp .ne 7, 3) := by decide +kernel
theorem dX7_markOf_77 : decode cX7_markOf 77 = .ok (.iload_n 3, 1) := by decide +kernel
theorem dX7_markOf_78 : decode cX7_markOf 78 = .ok (.goto 19, 3) := by decide +kernel
theorem dX7_markOf_81 : decode cX7_markOf 81 = .ok (.iload_n 2, 1) := by decide +kernel
theorem dX7_markOf_82 : decode cX7_markOf 82 = .ok (.iconst 3, 1) := by decide +kernel
theorem dX7_markOf_83 : decode cX7_markOf 83 = .ok (.if_icmp .ne 11, 3) := by decide +kernel
theorem dX7_markOf_86 : decode cX7_markOf 86 = .ok (.iload_n 3, 1) := by decide +kernel
theorem dX7_markOf_87 : decode cX7_markOf 87 = .ok (.sipush 1000, 3) := by decide +kernel
theorem dX7_markOf_90 : decode cX7_markOf 90 = .ok (.isub, 1) := by decide +kernel
theorem dX7_markOf_91 : decode cX7_markOf 91 = .ok (.goto 6, 3) := by decide +kernel
theorem dX7_markOf_94 : decode cX7_markOf 94 = .ok (.iconst 2, 1) := by decide +kernel
theorem dX7_markOf_95 : decode cX7_markOf 95 = .ok (.iload_n 3, 1) := by decide +kernel
theorem dX7_markOf_96 : decode cX7_markOf 96 = .ok (.imul, 1) := by decide +kernel
theorem dX7_markOf_97 : decode cX7_markOf 97 = .ok (.ireturn, 1) := by decide +kernel
theorem dX7_sizeOf_0 : decode cX7_sizeOf 0 = .ok (.aload_n 0, 1) := by decide +kernel
theorem dX7_sizeOf_1 : decode cX7_sizeOf 1 = .ok (.iload_n 1, 1) := by decide +kernel
theorem dX7_sizeOf_2 : decode cX7_sizeOf 2 = .ok (.invokevirtual 173, 3) := by decide +kernel
theorem dX7_sizeOf_5 : decode cX7_sizeOf 5 = .ok (.istore_n 2, 1) := by decide +kernel
theorem dX7_sizeOf_6 : decode cX7_sizeOf 6 = .ok (.iload_n 2, 1) := by decide +kernel
theorem dX7_sizeOf_7 : decode cX7_sizeOf 7 = .ok (.iconst 4, 1) := by decide +kernel
theorem dX7_sizeOf_8 : decode cX7_sizeOf 8 = .ok (.if_icmp .lt 9, 3) := by decide +kernel
theorem dX7_sizeOf_11 : decode cX7_sizeOf 11 = .ok (.aload_n 0, 1) := by decide +kernel
theorem dX7_sizeOf_12 : decode cX7_sizeOf 12 = .ok (.iload_n 1, 1) := by decide +kernel
theorem dX7_sizeOf_13 : decode cX7_sizeOf 13 = .ok (.invokevirtual 257, 3) := by decide +kernel
theorem dX7_sizeOf_16 : decode cX7_sizeOf 16 = .ok (.ireturn, 1) := by decide +kernel
theorem dX7_sizeOf_17 : decode cX7_sizeOf 17 = .ok (.iload_n 2, 1) := by decide +kernel
theorem dX7_sizeOf_18 : decode cX7_sizeOf 18 = .ok (.iconst 2, 1) := by decide +kernel
theorem dX7_sizeOf_19 : decode cX7_sizeOf 19 = .ok (.if_icmp .ne 9, 3) := by decide +kernel
theorem dX7_sizeOf_22 : decode cX7_sizeOf 22 = .ok (.aload_n 0, 1) := by decide +kernel
theorem dX7_sizeOf_23 : decode cX7_sizeOf 23 = .ok (.bipush 12, 2) := by decide +kernel
theorem dX7_sizeOf_25 : decode cX7_sizeOf 25 = .ok (.invokevirtual 251, 3) := by decide +kernel
theorem dX7_sizeOf_28 : decode cX7_sizeOf 28 = .ok (.aload_n 0, 1) := by decide +kernel
theorem dX7_sizeOf_29 : decode cX7_sizeOf 29 = .ok (.bipush 11, 2) := by decide +kernel
theorem dX7_sizeOf_31 : decode cX7_sizeOf 31 = .ok (.invokevirtual 251, 3) := by decide +kernel
theorem dX7_sizeOf_34 : decode cX7_sizeOf 34 = .ok (.aload_n 0, 1) := by decide +kernel
theorem dX7_sizeOf_35 : decode cX7_sizeOf 35 = .ok (.iload_n 1, 1) := by decide +kernel
theorem dX7_sizeOf_36 : decode cX7_sizeOf 36 = .ok (.invokevirtual 254, 3) := by decide +kernel
theorem dX7_sizeOf_39 : decode cX7_sizeOf 39 = .ok (.istore_n 3, 1) := by decide +kernel
theorem dX7_sizeOf_40 : decode cX7_sizeOf 40 = .ok (.iload_n 3, 1) := by decide +kernel
theorem dX7_sizeOf_41 : decode cX7_sizeOf 41 = .ok (.aload_n 0, 1) := by decide +kernel
theorem dX7_sizeOf_42 : decode cX7_sizeOf 42 = .ok (.iload_n 1, 1) := by decide +kernel
theorem dX7_sizeOf_43 : decode cX7_sizeOf 43 = .ok (.invokevirtual 260, 3) := by decide +kernel
theorem dX7_sizeOf_46 : decode cX7_sizeOf 46 = .ok (.iadd, 1) := by decide +kernel
theorem dX7_sizeOf_47 : decode cX7_sizeOf 47 = .ok (.istore_n 3, 1) := by decide +kernel
theorem dX7_sizeOf_48 : decode cX7_sizeOf 48 = .ok (.iload_n 2, 1) := by decide +kernel
theorem dX7_sizeOf_49 : decode cX7_sizeOf 49 = .ok (.iconst 2, 1) := by decide +kernel
theorem dX7_sizeOf_50 : decode cX7_sizeOf 50 = .ok (.if_icmp .ne 8, 3) := by decide +kernel
theorem dX7_sizeOf_53 : decode cX7_sizeOf 53 = .ok (.iload_n 3, 1) := by decide +kernel
theorem dX7_sizeOf_54 : decode cX7_sizeOf 54 = .ok (.ineg, 1) := by decide +kernel
theorem dX7_sizeOf_55 : decode cX7_sizeOf 55 = .ok (.goto 4, 3) := by decide +kernel
theorem dX7_sizeOf_58 : decode cX7_sizeOf 58 = .ok (.iload_n 3, 1) := by decide +kernel
theorem dX7_sizeOf_59 : decode cX7_sizeOf 59 = .ok (.ireturn, 1) := by decide +kernel
theorem dX7_ask_0 : decode cX7_ask 0 = .ok (.aload_n 0, 1) := by decide +kernel
theorem dX7_ask_1 : decode cX7_ask 1 = .ok (.iconst 0, 1) := by decide +kernel
theorem dX7_ask_2 : decode cX7_ask 2 = .ok (.putfield 41, 3) := by decide +kernel
theorem dX7_ask_5 : decode cX7_ask 5 = .ok (.aload_n 0, 1) := by decide +kernel
theorem dX7_ask_6 : decode cX7_ask 6 = .ok (.iload_n 1, 1) := by decide +kernel
theorem dX7_ask_7 : decode cX7_ask 7 = .ok (.invokevirtual 203, 3) := by decide +kernel
theorem dX7_ask_10 : decode cX7_ask 10 = .ok (.ifCond .eq 13, 3) := by decide +kernel
theorem dX7_ask_13 : decode cX7_ask 13 = .ok (.iload_n 2, 1) := by decide +kernel
theorem dX7_ask_14 : decode cX7_ask 14 = .ok (.i2l, 1) := by decide +kernel
theorem dX7_ask_15 : decode cX7_ask 15 = .ok (.lconst 0, 1) := by decide +kernel
theorem dX7_ask_16 : decode cX7_ask 16 = .ok (.lconst 1, 1) := by decide +kernel
theorem dX7_ask_17 : decode cX7_ask 17 = .ok (.invokestatic 51, 3) := by decide +kernel
theorem dX7_ask_20 : decode cX7_ask 20 = .ok (.ifCond .ne 6, 3) := by decide +kernel
theorem dX7_ask_23 : decode cX7_ask 23 = .ok (.ldc 61, 2) := by decide +kernel
theorem dX7_ask_25 : decode cX7_ask 25 = .ok (.ireturn, 1) := by decide +kernel
theorem dX7_ask_26 : decode cX7_ask 26 = .ok (.aload_n 0, 1) := by decide +kernel
theorem dX7_ask_27 : decode cX7_ask 27 = .ok (.iconst 0, 1) := by decide +kernel
theorem dX7_ask_28 : decode cX7_ask 28 = .ok (.putfield 248, 3) := by decide +kernel
theorem dX7_ask_31 : decode cX7_ask 31 = .ok (.iload_n 2, 1) := by decide +kernel
theorem dX7_ask_32 : decode cX7_ask 32 = .ok (.ifCond .ne 11, 3) := by decide +kernel
theorem dX7_ask_35 : decode cX7_ask 35 = .ok (.aload_n 0, 1) := by decide +kernel
theorem dX7_ask_36 : decode cX7_ask 36 = .ok (.iload_n 1, 1) := by decide +kernel
theorem dX7_ask_37 : decode cX7_ask 37 = .ok (.invokevirtual 263, 3) := by decide +kernel
theorem dX7_ask_40 : decode cX7_ask 40 = .ok (.goto 8, 3) := by decide +kernel
theorem dX7_ask_43 : decode cX7_ask 43 = .ok (.aload_n 0, 1) := by decide +kernel
theorem dX7_ask_44 : decode cX7_ask 44 = .ok (.iload_n 1, 1) := by decide +kernel
theorem dX7_ask_45 : decode cX7_ask 45 = .ok (.invokevirtual 260, 3) := by decide +kernel
theorem dX7_ask_48 : decode cX7_ask 48 = .ok (.ireturn, 1) := by decide +kernel
theorem dX7_trace_0 : decode cX7_trace 0 = .ok (.aload_n 0, 1) := by decide +kernel
theorem dX7_trace_1 : decode cX7_trace 1 = .ok (.iconst 0, 1) := by decide +kernel
theorem dX7_trace_2 : decode cX7_trace 2 = .ok (.putfield 41, 3) := by decide +kernel
theorem dX7_trace_5 : decode cX7_trace 5 = .ok (.iload_n 1, 1) := by decide +kernel
theorem dX7_trace_6 : decode cX7_trace 6 = .ok (.i2l, 1) := by decide +kernel
theorem dX7_trace_7 : decode cX7_trace 7 = .ok (.lconst 0, 1) := by decide +kernel
theorem dX7_trace_8 : decode cX7_trace 8 = .ok (.aload_n 0, 1) := by decide +kernel
theorem dX7_trace_9 : decode cX7_trace 9 = .ok (.getfield 248, 3) := by decide +kernel
theorem dX7_trace_12 : decode cX7_trace 12 = .ok (.iconst 1, 1) := by decide +kernel
theorem dX7_trace_13 : decode cX7_trace 13 = .ok (.isub, 1) := by decide +kernel
theorem dX7_trace_14 : decode cX7_trace 14 = .ok (.i2l, 1) := by decide +kernel
theorem dX7_trace_15 : decode cX7_trace 15 = .ok (.invokestatic 51, 3) := by decide +kernel
theorem dX7_trace_18 : decode cX7_trace 18 = .ok (.ifCond .eq 12, 3) := by decide +kernel
theorem dX7_trace_21 : decode cX7_trace 21 = .ok (.aload_n 0, 1) := by decide +kernel
theorem dX7_trace_22 : decode cX7_trace 22 = .ok (.getfield 38, 3) := by decide +kernel
theorem dX7_trace_25 : decode cX7_trace 25 = .ok (.iload_n 1, 1) := by decide +kernel
theorem dX7_trace_26 : decode cX7_trace 26 = .ok (.iaload, 1) := by decide +kernel
theorem dX7_trace_27 : decode cX7_trace 27 = .ok (.goto 5, 3) := by decide +kernel
theorem dX7_trace_30 : decode cX7_trace 30 = .ok (.ldc 77, 2) := by decide +kernel
theorem dX7_trace_32 : decode cX7_trace 32 = .ok (.ireturn, 1) := by decide +kernel
theorem dX7_count_0 : decode cX7_count 0 = .ok (.aload_n 0, 1) := by decide +kernel
theorem dX7_count_1 : decode cX7_count 1 = .ok (.iconst 0, 1) := by decide +kernel
theorem dX7_count_2 : decode cX7_count 2 = .ok (.putfield 41, 3) := by decide +kernel
theorem dX7_count_5 : decode cX7_count 5 = .ok (.iconst 0, 1) := by decide +kernel
theorem dX7_count_6 : decode cX7_count 6 = .ok (.istore_n 2, 1) := by decide +kernel
theorem dX7_count_7 : decode cX7_count 7 = .ok (.iload_n 1, 1) := by decide +kernel
theorem dX7_count_8 : decode cX7_count 8 = .ok (.tableswitch 150 0 5 #[40, 73, 80, 87, 140, 145], 40) := by decide +kernel
theorem dX7_count_48 : decode cX7_count 48 = .ok (.iconst 0, 1) := by decide +kernel
theorem dX7_count_49 : decode cX7_count 49 = .ok (.istore_n 3, 1) := by decide +kernel
theorem dX7_count_50 : decode cX7_count 50 = .ok (.iload_n 3, 1) := by decide +kernel
theorem dX7_count_51 : decode cX7_count 51 = .ok (.bipush 8, 2) := by decide +kernel
theorem dX7_count_53 : decode cX7_count 53 = .ok (.if_icmp .ge 26, 3) := by decide +kernel
theorem dX7_count_56 : decode cX7_count 56 = .ok (.iload_n 2, 1) := by decide +kernel
theorem dX7_count_57 : decode cX7_count 57 = .ok (.aload_n 0, 1) := by decide +kernel
theorem dX7_count_58 : decode cX7_count 58 = .ok (.getfield 7, 3) := by decide +kernel
theorem dX7_count_61 : decode cX7_count 61 = .ok (.iload_n 3, 1) := by decide +kernel
theorem dX7_count_62 : decode cX7_count 62 = .ok (.iaload, 1) := by decide +kernel
theorem dX7_count_63 : decode cX7_count 63 = .ok (.ifCond .lt 7, 3) := by decide +kernel
theorem dX7_count_66 : decode cX7_count 66 = .ok (.iconst 1, 1) := by decide +kernel
theorem dX7_count_67 : decode cX7_count 67 = .ok (.goto 4, 3) := by decide +kernel
theorem dX7_count_70 : decode cX7_count 70 = .ok (.iconst 0, 1) := by decide +kernel
theorem dX7_count_71 : decode cX7_count 71 = .ok (.iadd, 1) := by decide +kernel
theorem dX7_count_72 : decode cX7_count 72 = .ok (.istore_n 2, 1) := by decide +kernel
theorem dX7_count_73 : decode cX7_count 73 = .ok (.iinc 3 1, 3) := by decide +kernel
theorem dX7_count_76 : decode cX7_count 76 = .ok (.goto (-26), 3) := by decide +kernel
theorem dX7_count_79 : decode cX7_count 79 = .ok (.iload_n 2, 1) := by decide +kernel
theorem dX7_count_80 : decode cX7_count 80 = .ok (.ireturn, 1) := by decide +kernel
theorem dX7_count_81 : decode cX7_count 81 = .ok (.aload_n 0, 1) := by decide +kernel
theorem dX7_count_82 : decode cX7_count 82 = .ok (.getfield 19, 3) := by decide +kernel
theorem dX7_count_85 : decode cX7_count 85 = .ok (.iconst 1, 1) := by decide +kernel
theorem dX7_count_86 : decode cX7_count 86 = .ok (.iaload, 1) := by decide +kernel
theorem dX7_count_87 : decode cX7_count 87 = .ok (.ireturn, 1) := by decide +kernel
theorem dX7_count_88 : decode cX7_count 88 = .ok (.aload_n 0, 1) := by decide +kernel
theorem dX7_count_89 : decode cX7_count 89 = .ok (.getfield 19, 3) := by decide +kernel
theorem dX7_count_92 : decode cX7_count 92 = .ok (.iconst 2, 1) := by decide +kernel
theorem dX7_count_93 : decode cX7_count 93 = .ok (.iaload, 1) := by decide +kernel
theorem dX7_count_94 : decode cX7_count 94 = .ok (.ireturn, 1) := by decide +kernel
theorem dX7_count_95 : decode cX7_count 95 = .ok (.iconst 0, 1) := by decide +kernel
theorem dX7_count_96 : decode cX7_count 96 = .ok (.istore_n 3, 1) := by decide +kernel
theorem dX7_count_97 : decode cX7_count 97 = .ok (.iload_n 3, 1) := by decide +kernel
theorem dX7_count_98 : decode cX7_count 98 = .ok (.aload_n 0, 1) := by decide +kernel
theorem dX7_count_99 : decode cX7_count 99 = .ok (.getfield 19, 3) := by decide +kernel
theorem dX7_count_102 : decode cX7_count 102 = .ok (.iconst 2, 1) := by decide +kernel
theorem dX7_count_103 : decode cX7_count 103 = .ok (.iaload, 1) := by decide +kernel
theorem dX7_count_104 : decode cX7_count 104 = .ok (.if_icmp .ge 42, 3) := by decide +kernel
theorem dX7_count_107 : decode cX7_count 107 = .ok (.iload_n 2, 1) := by decide +kernel
theorem dX7_count_108 : decode cX7_count 108 = .ok (.aload_n 0, 1) := by decide +kernel
theorem dX7_count_109 : decode cX7_count 109 = .ok (.aload_n 0, 1) := by decide +kernel
theorem dX7_count_110 : decode cX7_count 110 = .ok (.iconst 0, 1) := by decide +kernel
theorem dX7_count_111 : decode cX7_count 111 = .ok (.iload_n 3, 1) := by decide +kernel
theorem dX7_count_112 : decode cX7_count 112 = .ok (.invokevirtual 170, 3) := by decide +kernel
theorem dX7_count_115 : decode cX7_count 115 = .ok (.aload_n 0, 1) := by decide +kernel
theorem dX7_count_116 : decode cX7_count 116 = .ok (.iconst 0, 1) := by decide +kernel
theorem dX7_count_117 : decode cX7_count 117 = .ok (.iload_n 3, 1) := by decide +kernel
theorem dX7_count_118 : decode cX7_count 118 = .ok (.invokevirtual 216, 3) := by decide +kernel
theorem dX7_count_121 : decode cX7_count 121 = .ok (.invokevirtual 226, 3) := by decide +kernel
theorem dX7_count_124 : decode cX7_count 124 = .ok (.aload_n 0, 1) := by decide +kernel
theorem dX7_count_125 : decode cX7_count 125 = .ok (.iconst 0, 1) := by decide +kernel
theorem dX7_count_126 : decode cX7_count 126 = .ok (.iload_n 3, 1) := by decide +kernel
theorem dX7_count_127 : decode cX7_count 127 = .ok (.invokevirtual 170, 3) := by decide +kernel
theorem dX7_count_130 : decode cX7_count 130 = .ok (.if_icmp .ne 7, 3) := by decide +kernel
theorem dX7_count_133 : decode cX7_count 133 = .ok (.iconst 1, 1) := by decide +kernel
theorem dX7_count_134 : decode cX7_count 134 = .ok (.goto 4, 3) := by decide +kernel
theorem dX7_count_137 : decode cX7_count 137 = .ok (.iconst 0, 1) := by decide +kernel
theorem dX7_count_138 : decode cX7_count 138 = .ok (.iadd, 1) := by decide +kernel
theorem dX7_count_139 : decode cX7_count 139 = .ok (.istore_n 2, 1) := by decide +kernel
theorem dX7_count_140 : decode cX7_count 140 = .ok (.iinc 3 1, 3) := by decide +kernel
theorem dX7_count_143 : decode cX7_count 143 = .ok (.goto (-46), 3) := by decide +kernel
theorem dX7_count_146 : decode cX7_count 146 = .ok (.iload_n 2, 1) := by decide +kernel
theorem dX7_count_147 : decode cX7_count 147 = .ok (.ireturn, 1) := by decide +kernel
theorem dX7_count_148 : decode cX7_count 148 = .ok (.aload_n 0, 1) := by decide +kernel
theorem dX7_count_149 : decode cX7_count 149 = .ok (.getfield 167, 3) := by decide +kernel
theorem dX7_count_152 : decode cX7_count 152 = .ok (.ireturn, 1) := by decide +kernel
theorem dX7_count_153 : decode cX7_count 153 = .ok (.aload_n 0, 1) := by decide +kernel
theorem dX7_count_154 : decode cX7_count 154 = .ok (.getfield 68, 3) := by decide +kernel
theorem dX7_count_157 : decode cX7_count 157 = .ok (.ireturn, 1) := by decide +kernel
theorem dX7_count_158 : decode cX7_count 158 = .ok (.ldc 61, 2) := by decide +kernel
theorem dX7_count_160 : decode cX7_count 160 = .ok (.ireturn, 1) := by decide +kernel
theorem dX7_status_0 : decode cX7_status 0 = .ok (.aload_n 0, 1) := by decide +kernel
theorem dX7_status_1 : decode cX7_status 1 = .ok (.iconst 0, 1) := by decide +kernel
theorem dX7_status_2 : decode cX7_status 2 = .ok (.putfield 41, 3) := by decide +kernel
theorem dX7_status_5 : decode cX7_status 5 = .ok (.aload_n 0, 1) := by decide +kernel
theorem dX7_status_6 : decode cX7_status 6 = .ok (.getfield 45, 3) := by decide +kernel
theorem dX7_status_9 : decode cX7_status 9 = .ok (.ireturn, 1) := by decide +kernel
theorem dJ6_bitCount_0f7a4_0 : decode cJ6_bitCount_0f7a4 0 = .ok (.iload_n 0, 1) := by decide +kernel
theorem dJ6_bitCount_0f7a4_1 : decode cJ6_bitCount_0f7a4 1 = .ok (.iload_n 0, 1) := by decide +kernel
theorem dJ6_bitCount_0f7a4_2 : decode cJ6_bitCount_0f7a4 2 = .ok (.iconst 1, 1) := by decide +kernel
theorem dJ6_bitCount_0f7a4_3 : decode cJ6_bitCount_0f7a4 3 = .ok (.iushr, 1) := by decide +kernel
theorem dJ6_bitCount_0f7a4_4 : decode cJ6_bitCount_0f7a4 4 = .ok (.ldc_w 265, 3) := by decide +kernel
theorem dJ6_bitCount_0f7a4_7 : decode cJ6_bitCount_0f7a4 7 = .ok (.iand, 1) := by decide +kernel
theorem dJ6_bitCount_0f7a4_8 : decode cJ6_bitCount_0f7a4 8 = .ok (.isub, 1) := by decide +kernel
theorem dJ6_bitCount_0f7a4_9 : decode cJ6_bitCount_0f7a4 9 = .ok (.istore_n 0, 1) := by decide +kernel
theorem dJ6_bitCount_0f7a4_10 : decode cJ6_bitCount_0f7a4 10 = .ok (.iload_n 0, 1) := by decide +kernel
theorem dJ6_bitCount_0f7a4_11 : decode cJ6_bitCount_0f7a4 11 = .ok (.ldc_w 266, 3) := by decide +kernel
theorem dJ6_bitCount_0f7a4_14 : decode cJ6_bitCount_0f7a4 14 = .ok (.iand, 1) := by decide +kernel
theorem dJ6_bitCount_0f7a4_15 : decode cJ6_bitCount_0f7a4 15 = .ok (.iload_n 0, 1) := by decide +kernel
theorem dJ6_bitCount_0f7a4_16 : decode cJ6_bitCount_0f7a4 16 = .ok (.iconst 2, 1) := by decide +kernel
theorem dJ6_bitCount_0f7a4_17 : decode cJ6_bitCount_0f7a4 17 = .ok (.iushr, 1) := by decide +kernel
theorem dJ6_bitCount_0f7a4_18 : decode cJ6_bitCount_0f7a4 18 = .ok (.ldc_w 266, 3) := by decide +kernel
theorem dJ6_bitCount_0f7a4_21 : decode cJ6_bitCount_0f7a4 21 = .ok (.iand, 1) := by decide +kernel
theorem dJ6_bitCount_0f7a4_22 : decode cJ6_bitCount_0f7a4 22 = .ok (.iadd, 1) := by decide +kernel
theorem dJ6_bitCount_0f7a4_23 : decode cJ6_bitCount_0f7a4 23 = .ok (.istore_n 0, 1) := by decide +kernel
theorem dJ6_bitCount_0f7a4_24 : decode cJ6_bitCount_0f7a4 24 = .ok (.iload_n 0, 1) := by decide +kernel
theorem dJ6_bitCount_0f7a4_25 : decode cJ6_bitCount_0f7a4 25 = .ok (.iload_n 0, 1) := by decide +kernel
theorem dJ6_bitCount_0f7a4_26 : decode cJ6_bitCount_0f7a4 26 = .ok (.iconst 4, 1) := by decide +kernel
theorem dJ6_bitCount_0f7a4_27 : decode cJ6_bitCount_0f7a4 27 = .ok (.iushr, 1) := by decide +kernel
theorem dJ6_bitCount_0f7a4_28 : decode cJ6_bitCount_0f7a4 28 = .ok (.iadd, 1) := by decide +kernel
theorem dJ6_bitCount_0f7a4_29 : decode cJ6_bitCount_0f7a4 29 = .ok (.ldc_w 267, 3) := by decide +kernel
theorem dJ6_bitCount_0f7a4_32 : decode cJ6_bitCount_0f7a4 32 = .ok (.iand, 1) := by decide +kernel
theorem dJ6_bitCount_0f7a4_33 : decode cJ6_bitCount_0f7a4 33 = .ok (.istore_n 0, 1) := by decide +kernel
theorem dJ6_bitCount_0f7a4_34 : decode cJ6_bitCount_0f7a4 34 = .ok (.iload_n 0, 1) := by decide +kernel
theorem dJ6_bitCount_0f7a4_35 : decode cJ6_bitCount_0f7a4 35 = .ok (.iload_n 0, 1) := by decide +kernel
theorem dJ6_bitCount_0f7a4_36 : decode cJ6_bitCount_0f7a4 36 = .ok (.bipush 8, 2) := by decide +kernel
theorem dJ6_bitCount_0f7a4_38 : decode cJ6_bitCount_0f7a4 38 = .ok (.iushr, 1) := by decide +kernel
theorem dJ6_bitCount_0f7a4_39 : decode cJ6_bitCount_0f7a4 39 = .ok (.iadd, 1) := by decide +kernel
theorem dJ6_bitCount_0f7a4_40 : decode cJ6_bitCount_0f7a4 40 = .ok (.istore_n 0, 1) := by decide +kernel
theorem dJ6_bitCount_0f7a4_41 : decode cJ6_bitCount_0f7a4 41 = .ok (.iload_n 0, 1) := by decide +kernel
theorem dJ6_bitCount_0f7a4_42 : decode cJ6_bitCount_0f7a4 42 = .ok (.iload_n 0, 1) := by decide +kernel
theorem dJ6_bitCount_0f7a4_43 : decode cJ6_bitCount_0f7a4 43 = .ok (.bipush 16, 2) := by decide +kernel
theorem dJ6_bitCount_0f7a4_45 : decode cJ6_bitCount_0f7a4 45 = .ok (.iushr, 1) := by decide +kernel
theorem dJ6_bitCount_0f7a4_46 : decode cJ6_bitCount_0f7a4 46 = .ok (.iadd, 1) := by decide +kernel
theorem dJ6_bitCount_0f7a4_47 : decode cJ6_bitCount_0f7a4 47 = .ok (.istore_n 0, 1) := by decide +kernel
theorem dJ6_bitCount_0f7a4_48 : decode cJ6_bitCount_0f7a4 48 = .ok (.iload_n 0, 1) := by decide +kernel
theorem dJ6_bitCount_0f7a4_49 : decode cJ6_bitCount_0f7a4 49 = .ok (.bipush 63, 2) := by decide +kernel
theorem dJ6_bitCount_0f7a4_51 : decode cJ6_bitCount_0f7a4 51 = .ok (.iand, 1) := by decide +kernel
theorem dJ6_bitCount_0f7a4_52 : decode cJ6_bitCount_0f7a4 52 = .ok (.ireturn, 1) := by decide +kernel
theorem dJ9_max_7cf53_0 : decode cJ9_max_7cf53 0 = .ok (.iload_n 0, 1) := by decide +kernel
theorem dJ9_max_7cf53_1 : decode cJ9_max_7cf53 1 = .ok (.iload_n 1, 1) := by decide +kernel
theorem dJ9_max_7cf53_2 : decode cJ9_max_7cf53 2 = .ok (.if_icmp .lt 7, 3) := by decide +kernel
theorem dJ9_max_7cf53_5 : decode cJ9_max_7cf53 5 = .ok (.iload_n 0, 1) := by decide +kernel
theorem dJ9_max_7cf53_6 : decode cJ9_max_7cf53 6 = .ok (.goto 4, 3) := by decide +kernel
theorem dJ9_max_7cf53_9 : decode cJ9_max_7cf53 9 = .ok (.iload_n 1, 1) := by decide +kernel
theorem dJ9_max_7cf53_10 : decode cJ9_max_7cf53 10 = .ok (.ireturn, 1) := by decide +kernel
theorem dJ9_min_7cf53_0 : decode cJ9_min_7cf53 0 = .ok (.iload_n 0, 1) := by decide +kernel
theorem dJ9_min_7cf53_1 : decode cJ9_min_7cf53 1 = .ok (.iload_n 1, 1) := by decide +kernel
theorem dJ9_min_7cf53_2 : decode cJ9_min_7cf53 2 = .ok (.if_icmp .gt 7, 3) := by decide +kernel
theorem dJ9_min_7cf53_5 : decode cJ9_min_7cf53 5 = .ok (.iload_n 0, 1) := by decide +kernel
theorem dJ9_min_7cf53_6 : decode cJ9_min_7cf53 6 = .ok (.goto 4, 3) := by decide +kernel
theorem dJ9_min_7cf53_9 : decode cJ9_min_7cf53 9 = .ok (.iload_n 1, 1) := by decide +kernel
theorem dJ9_min_7cf53_10 : decode cJ9_min_7cf53 10 = .ok (.ireturn, 1) := by decide +kernel
theorem dJ0_length_8abf5_0 : decode cJ0_length_8abf5 0 = .ok (.aload_n 0, 1) := by decide +kernel
theorem dJ0_length_8abf5_1 : decode cJ0_length_8abf5 1 = .ok (.getfield 9, 3) := by decide +kernel
theorem dJ0_length_8abf5_4 : decode cJ0_length_8abf5 4 = .ok (.arraylength, 1) := by decide +kernel
theorem dJ0_length_8abf5_5 : decode cJ0_length_8abf5 5 = .ok (.aload_n 0, 1) := by decide +kernel
theorem dJ0_length_8abf5_6 : decode cJ0_length_8abf5 6 = .ok (.invokevirtual 335, 3) := by decide +kernel
theorem dJ0_length_8abf5_9 : decode cJ0_length_8abf5 9 = .ok (.ishr, 1) := by decide +kernel
theorem dJ0_length_8abf5_10 : decode cJ0_length_8abf5 10 = .ok (.ireturn, 1) := by decide +kernel
theorem dJ0_charAt_5068e_0 : decode cJ0_charAt_5068e 0 = .ok (.aload_n 0, 1) := by decide +kernel
theorem dJ0_charAt_5068e_1 : decode cJ0_charAt_5068e 1 = .ok (.invokevirtual 492, 3) := by decide +kernel
theorem dJ0_charAt_5068e_4 : decode cJ0_charAt_5068e 4 = .ok (.ifCond .eq 12, 3) := by decide +kernel
theorem dJ0_charAt_5068e_7 : decode cJ0_charAt_5068e 7 = .ok (.aload_n 0, 1) := by decide +kernel
theorem dJ0_charAt_5068e_8 : decode cJ0_charAt_5068e 8 = .ok (.getfield 9, 3) := by decide +kernel
theorem dJ0_charAt_5068e_11 : decode cJ0_charAt_5068e 11 = .ok (.iload_n 1, 1) := by decide +kernel
theorem dJ0_charAt_5068e_12 : decode cJ0_charAt_5068e 12 = .ok (.invokestatic 495, 3) := by decide +kernel
theorem dJ0_charAt_5068e_15 : decode cJ0_charAt_5068e 15 = .ok (.ireturn, 1) := by decide +kernel
theorem dJ0_charAt_5068e_16 : decode cJ0_charAt_5068e 16 = .ok (.aload_n 0, 1) := by decide +kernel
theorem dJ0_charAt_5068e_17 : decode cJ0_charAt_5068e 17 = .ok (.getfield 9, 3) := by decide +kernel
theorem dJ0_charAt_5068e_20 : decode cJ0_charAt_5068e 20 = .ok (.iload_n 1, 1) := by decide +kernel
theorem dJ0_charAt_5068e_21 : decode cJ0_charAt_5068e 21 = .ok (.invokestatic 498, 3) := by decide +kernel
theorem dJ0_charAt_5068e_24 : decode cJ0_charAt_5068e 24 = .ok (.ireturn, 1) := by decide +kernel
theorem dJ0_coder_7d493_0 : decode cJ0_coder_7d493 0 = .ok (.getstatic 38, 3) := by decide +kernel
theorem dJ0_coder_7d493_3 : decode cJ0_coder_7d493 3 = .ok (.ifCond .eq 10, 3) := by decide +kernel
theorem dJ0_coder_7d493_6 : decode cJ0_coder_7d493 6 = .ok (.aload_n 0, 1) := by decide +kernel
theorem dJ0_coder_7d493_7 : decode cJ0_coder_7d493 7 = .ok (.getfield 15, 3) := by decide +kernel
theorem dJ0_coder_7d493_10 : decode cJ0_coder_7d493 10 = .ok (.goto 4, 3) := by decide +kernel
theorem dJ0_coder_7d493_13 : decode cJ0_coder_7d493 13 = .ok (.iconst 1, 1) := by decide +kernel
theorem dJ0_coder_7d493_14 : decode cJ0_coder_7d493 14 = .ok (.ireturn, 1) := by decide +kernel
theorem dJ0_isLatin1_aae02_0 : decode cJ0_isLatin1_aae02 0 = .ok (.getstatic 38, 3) := by decide +kernel
theorem dJ0_isLatin1_aae02_3 : decode cJ0_isLatin1_aae02 3 = .ok (.ifCond .eq 14, 3) := by decide +kernel
theorem dJ0_isLatin1_aae02_6 : decode cJ0_isLatin1_aae02 6 = .ok (.aload_n 0, 1) := by decide +kernel
theorem dJ0_isLatin1_aae02_7 : decode cJ0_isLatin1_aae02 7 = .ok (.getfield 15, 3) := by decide +kernel
theorem dJ0_isLatin1_aae02_10 : decode cJ0_isLatin1_aae02 10 = .ok (.ifCond .ne 7, 3) := by decide +kernel
theorem dJ0_isLatin1_aae02_13 : decode cJ0_isLatin1_aae02 13 = .ok (.iconst 1, 1) := by decide +kernel
theorem dJ0_isLatin1_aae02_14 : decode cJ0_isLatin1_aae02 14 = .ok (.goto 4, 3) := by decide +kernel
theorem dJ0_isLatin1_aae02_17 : decode cJ0_isLatin1_aae02 17 = .ok (.iconst 0, 1) := by decide +kernel
theorem dJ0_isLatin1_aae02_18 : decode cJ0_isLatin1_aae02 18 = .ok (.ireturn, 1) := by decide +kernel
theorem dJ0_checkIndex_df160_0 : decode cJ0_checkIndex_df160 0 = .ok (.iload_n 0, 1) := by decide +kernel
theorem dJ0_checkIndex_df160_1 : decode cJ0_checkIndex_df160 1 = .ok (.iload_n 1, 1) := by decide +kernel
theorem dJ0_checkIndex_df160_2 : decode cJ0_checkIndex_df160 2 = .ok (.getstatic 1053, 3) := by decide +kernel
theorem dJ0_checkIndex_df160_5 : decode cJ0_checkIndex_df160 5 = .ok (.invokestatic 1059, 3) := by decide +kernel
theorem dJ0_checkIndex_df160_8 : decode cJ0_checkIndex_df160 8 = .ok (.pop, 1) := by decide +kernel
theorem dJ0_checkIndex_df160_9 : decode cJ0_checkIndex_df160 9 = .ok (.return_, 1) := by decide +kernel
theorem dJ1_charAt_3b067_0 : decode cJ1_charAt_3b067 0 = .ok (.iload_n 1, 1) := by decide +kernel
theorem dJ1_charAt_3b067_1 : decode cJ1_charAt_3b067 1 = .ok (.aload_n 0, 1) := by decide +kernel
theorem dJ1_charAt_3b067_2 : decode cJ1_charAt_3b067 2 = .ok (.arraylength, 1) := by decide +kernel
theorem dJ1_charAt_3b067_3 : decode cJ1_charAt_3b067 3 = .ok (.invokestatic 9, 3) := by decide +kernel
theorem dJ1_charAt_3b067_6 : decode cJ1_charAt_3b067 6 = .ok (.aload_n 0, 1) := by decide +kernel
theorem dJ1_charAt_3b067_7 : decode cJ1_charAt_3b067 7 = .ok (.iload_n 1, 1) := by decide +kernel
theorem dJ1_charAt_3b067_8 : decode cJ1_charAt_3b067 8 = .ok (.baload, 1) := by decide +kernel
theorem dJ1_charAt_3b067_9 : decode cJ1_charAt_3b067 9 = .ok (.sipush 255, 3) := by decide +kernel
theorem dJ1_charAt_3b067_12 : decode cJ1_charAt_3b067 12 = .ok (.iand, 1) := by decide +kernel
theorem dJ1_charAt_3b067_13 : decode cJ1_charAt_3b067 13 = .ok (.i2c, 1) := by decide +kernel
theorem dJ1_charAt_3b067_14 : decode cJ1_charAt_3b067 14 = .ok (.ireturn, 1) := by decide +kernel
theorem dJ2_getChar_3b067_0 : decode cJ2_getChar_3b067 0 = .ok (.getstatic 44, 3) := by decide +kernel
theorem dJ2_getChar_3b067_3 : decode cJ2_getChar_3b067 3 = .ok (.ifCond .ne 25, 3) := by decide +kernel
theorem dJ2_getChar_3b067_6 : decode cJ2_getChar_3b067 6 = .ok (.iload_n 1, 1) := by decide +kernel
theorem dJ2_getChar_3b067_7 : decode cJ2_getChar_3b067 7 = .ok (.ifCond .lt 11, 3) := by decide +kernel
theorem dJ2_getChar_3b067_10 : decode cJ2_getChar_3b067 10 = .ok (.iload_n 1, 1) := by decide +kernel
theorem dJ2_getChar_3b067_11 : decode cJ2_getChar_3b067 11 = .ok (.aload_n 0, 1) := by decide +kernel
theorem dJ2_getChar_3b067_12 : decode cJ2_getChar_3b067 12 = .ok (.invokestatic 48, 3) := by decide +kernel
theorem dJ2_getChar_3b067_15 : decode cJ2_getChar_3b067 15 = .ok (.if_icmp .lt 13, 3) := by decide +kernel
theorem dJ2_getChar_3b067_18 : decode cJ2_getChar_3b067 18 = .ok (.new 52, 3) := by decide +kernel
theorem dJ2_getChar_3b067_21 : decode cJ2_getChar_3b067 21 = .ok (.dup, 1) := by decide +kernel
theorem dJ2_getChar_3b067_22 : decode cJ2_getChar_3b067 22 = .ok (.ldc 54, 2) := by decide +kernel
theorem dJ2_getChar_3b067_24 : decode cJ2_getChar_3b067 24 = .ok (.invokespecial 56, 3) := by decide +kernel
theorem dJ2_getChar_3b067_27 : decode cJ2_getChar_3b067 27 = .ok (.athrow, 1) := by decide +kernel
theorem dJ2_getChar_3b067_28 : decode cJ2_getChar_3b067 28 = .ok (.iload_n 1, 1) := by decide +kernel
theorem dJ2_getChar_3b067_29 : decode cJ2_getChar_3b067 29 = .ok (.iconst 1, 1) := by decide +kernel
theorem dJ2_getChar_3b067_30 : decode cJ2_getChar_3b067 30 = .ok (.ishl, 1) := by decide +kernel
theorem dJ2_getChar_3b067_31 : decode cJ2_getChar_3b067 31 = .ok (.istore_n 1, 1) := by decide +kernel
theorem dJ2_getChar_3b067_32 : decode cJ2_getChar_3b067 32 = .ok (.aload_n 0, 1) := by decide +kernel
theorem dJ2_getChar_3b067_33 : decode cJ2_getChar_3b067 33 = .ok (.iload_n 1, 1) := by decide +kernel
theorem dJ2_getChar_3b067_34 : decode cJ2_getChar_3b067 34 = .ok (.iinc 1 1, 3) := by decide +kernel
theorem dJ2_getChar_3b067_37 : decode cJ2_getChar_3b067 37 = .ok (.baload, 1) := by decide +kernel
theorem dJ2_getChar_3b067_38 : decode cJ2_getChar_3b067 38 = .ok (.sipush 255, 3) := by decide +kernel
theorem dJ2_getChar_3b067_41 : decode cJ2_getChar_3b067 41 = .ok (.iand, 1) := by decide +kernel
theorem dJ2_getChar_3b067_42 : decode cJ2_getChar_3b067 42 = .ok (.getstatic 59, 3) := by decide +kernel
theorem dJ2_getChar_3b067_45 : decode cJ2_getChar_3b067 45 = .ok (.ishl, 1) := by decide +kernel
theorem dJ2_getChar_3b067_46 : decode cJ2_getChar_3b067 46 = .ok (.aload_n 0, 1) := by decide +kernel
theorem dJ2_getChar_3b067_47 : decode cJ2_getChar_3b067 47 = .ok (.iload_n 1, 1) := by decide +kernel
theorem dJ2_getChar_3b067_48 : decode cJ2_getChar_3b067 48 = .ok (.baload, 1) := by decide +kernel
theorem dJ2_getChar_3b067_49 : decode cJ2_getChar_3b067 49 = .ok (.sipush 255, 3) := by decide +kernel
theorem dJ2_getChar_3b067_52 : decode cJ2_getChar_3b067 52 = .ok (.iand, 1) := by decide +kernel
theorem dJ2_getChar_3b067_53 : decode cJ2_getChar_3b067 53 = .ok (.getstatic 63, 3) := by decide +kernel
theorem dJ2_getChar_3b067_56 : decode cJ2_getChar_3b067 56 = .ok (.ishl, 1) := by decide +kernel
theorem dJ2_getChar_3b067_57 : decode cJ2_getChar_3b067 57 = .ok (.ior, 1) := by decide +kernel
theorem dJ2_getChar_3b067_58 : decode cJ2_getChar_3b067 58 = .ok (.i2c, 1) := by decide +kernel
theorem dJ2_getChar_3b067_59 : decode cJ2_getChar_3b067 59 = .ok (.ireturn, 1) := by decide +kernel
theorem dJ2_length_9d52b_0 : decode cJ2_length_9d52b 0 = .ok (.aload_n 0, 1) := by decide +kernel
theorem dJ2_length_9d52b_1 : decode cJ2_length_9d52b 1 = .ok (.arraylength, 1) := by decide +kernel
theorem dJ2_length_9d52b_2 : decode cJ2_length_9d52b 2 = .ok (.iconst 1, 1) := by decide +kernel
theorem dJ2_length_9d52b_3 : decode cJ2_length_9d52b 3 = .ok (.ishr, 1) := by decide +kernel
theorem dJ2_length_9d52b_4 : decode cJ2_length_9d52b 4 = .ok (.ireturn, 1) := by decide +kernel
theorem dJ2_charAt_3b067_0 : decode cJ2_charAt_3b067 0 = .ok (.iload_n 1, 1) := by decide +kernel
theorem dJ2_charAt_3b067_1 : decode cJ2_charAt_3b067 1 = .ok (.aload_n 0, 1) := by decide +kernel
theorem dJ2_charAt_3b067_2 : decode cJ2_charAt_3b067 2 = .ok (.invokestatic 67, 3) := by decide +kernel
theorem dJ2_charAt_3b067_5 : decode cJ2_charAt_3b067 5 = .ok (.aload_n 0, 1) := by decide +kernel
theorem dJ2_charAt_3b067_6 : decode cJ2_charAt_3b067 6 = .ok (.iload_n 1, 1) := by decide +kernel
theorem dJ2_charAt_3b067_7 : decode cJ2_charAt_3b067 7 = .ok (.invokestatic 71, 3) := by decide +kernel
theorem dJ2_charAt_3b067_10 : decode cJ2_charAt_3b067 10 = .ok (.ireturn, 1) := by decide +kernel
theorem dJ2_checkIndex_2214a_0 : decode cJ2_checkIndex_2214a 0 = .ok (.iload_n 0, 1) := by decide +kernel
theorem dJ2_checkIndex_2214a_1 : decode cJ2_checkIndex_2214a 1 = .ok (.aload_n 1, 1) := by decide +kernel
theorem dJ2_checkIndex_2214a_2 : decode cJ2_checkIndex_2214a 2 = .ok (.invokestatic 48, 3) := by decide +kernel
theorem dJ2_checkIndex_2214a_5 : decode cJ2_checkIndex_2214a 5 = .ok (.invokestatic 414, 3) := by decide +kernel
theorem dJ2_checkIndex_2214a_8 : decode cJ2_checkIndex_2214a 8 = .ok (.return_, 1) := by decide +kernel
theorem dJ3_checkIndex_8e157_0 : decode cJ3_checkIndex_8e157 0 = .ok (.iload_n 0, 1) := by decide +kernel
theorem dJ3_checkIndex_8e157_1 : decode cJ3_checkIndex_8e157 1 = .ok (.ifCond .lt 8, 3) := by decide +kernel
theorem dJ3_checkIndex_8e157_4 : decode cJ3_checkIndex_8e157 4 = .ok (.iload_n 0, 1) := by decide +kernel
theorem dJ3_checkIndex_8e157_5 : decode cJ3_checkIndex_8e157 5 = .ok (.iload_n 1, 1) := by decide +kernel
theorem dJ3_checkIndex_8e157_6 : decode cJ3_checkIndex_8e157 6 = .ok (.if_icmp .lt 10, 3) := by decide +kernel
theorem dJ3_checkIndex_8e157_9 : decode cJ3_checkIndex_8e157 9 = .ok (.aload_n 2, 1) := by decide +kernel
theorem dJ3_checkIndex_8e157_10 : decode cJ3_checkIndex_8e157 10 = .ok (.iload_n 0, 1) := by decide +kernel
theorem dJ3_checkIndex_8e157_11 : decode cJ3_checkIndex_8e157 11 = .ok (.iload_n 1, 1) := by decide +kernel
theorem dJ3_checkIndex_8e157_12 : decode cJ3_checkIndex_8e157 12 = .ok (.invokestatic 95, 3) := by decide +kernel
theorem dJ3_checkIndex_8e157_15 : decode cJ3_checkIndex_8e157 15 = .ok (.athrow, 1) := by decide +kernel
theorem dJ3_checkIndex_8e157_16 : decode cJ3_checkIndex_8e157 16 = .ok (.iload_n 0, 1) := by decide +kernel
theorem dJ3_checkIndex_8e157_17 : decode cJ3_checkIndex_8e157 17 = .ok (.ireturn, 1) := by decide +kernel
theorem dL_law_0 : decode cL_law 0 = .ok (.new 7, 3) := by decide +kernel
theorem dL_law_3 : decode cL_law 3 = .ok (.dup, 1) := by decide +kernel
theorem dL_law_4 : decode cL_law 4 = .ok (.invokespecial 9, 3) := by decide +kernel
theorem dL_law_7 : decode cL_law 7 = .ok (.astore_n 1, 1) := by decide +kernel
theorem dL_law_8 : decode cL_law 8 = .ok (.new 10, 3) := by decide +kernel
theorem dL_law_11 : decode cL_law 11 = .ok (.dup, 1) := by decide +kernel
theorem dL_law_12 : decode cL_law 12 = .ok (.invokespecial 12, 3) := by decide +kernel
theorem dL_law_15 : decode cL_law 15 = .ok (.astore_n 2, 1) := by decide +kernel
theorem dL_law_16 : decode cL_law 16 = .ok (.iconst 0, 1) := by decide +kernel
theorem dL_law_17 : decode cL_law 17 = .ok (.istore_n 3, 1) := by decide +kernel
theorem dL_law_18 : decode cL_law 18 = .ok (.iload_n 3, 1) := by decide +kernel
theorem dL_law_19 : decode cL_law 19 = .ok (.aload_n 0, 1) := by decide +kernel
theorem dL_law_20 : decode cL_law 20 = .ok (.arraylength, 1) := by decide +kernel
theorem dL_law_21 : decode cL_law 21 = .ok (.bipush 6, 2) := by decide +kernel
theorem dL_law_23 : decode cL_law 23 = .ok (.isub, 1) := by decide +kernel
theorem dL_law_24 : decode cL_law 24 = .ok (.if_icmp .gt 1097, 3) := by decide +kernel
theorem dL_law_27 : decode cL_law 27 = .ok (.aload_n 0, 1) := by decide +kernel
theorem dL_law_28 : decode cL_law 28 = .ok (.iload_n 3, 1) := by decide +kernel
theorem dL_law_29 : decode cL_law 29 = .ok (.iaload, 1) := by decide +kernel
theorem dL_law_30 : decode cL_law 30 = .ok (.bipush 31, 2) := by decide +kernel
theorem dL_law_32 : decode cL_law 32 = .ok (.iand, 1) := by decide +kernel
theorem dL_law_33 : decode cL_law 33 = .ok (.tableswitch 1082 0 30 #[139, 182, 225, 288, 311, 374, 387, 400, 443, 456, 469, 502, 535, 578, 631, 664, 697, 720, 743, 776, 799, 822, 845, 888, 911, 934, 957, 990, 1023, 1046, 1069], 139) := by decide +kernel
theorem dL_law_172 : decode cL_law 172 = .ok (.aload_n 1, 1) := by decide +kernel
theorem dL_law_173 : decode cL_law 173 = .ok (.aload_n 0, 1) := by decide +kernel
theorem dL_law_174 : decode cL_law 174 = .ok (.iload_n 3, 1) := by decide +kernel
theorem dL_law_175 : decode cL_law 175 = .ok (.iconst 1, 1) := by decide +kernel
theorem dL_law_176 : decode cL_law 176 = .ok (.iadd, 1) := by decide +kernel
theorem dL_law_177 : decode cL_law 177 = .ok (.iaload, 1) := by decide +kernel
theorem dL_law_178 : decode cL_law 178 = .ok (.aload_n 0, 1) := by decide +kernel
theorem dL_law_179 : decode cL_law 179 = .ok (.iload_n 3, 1) := by decide +kernel
theorem dL_law_180 : decode cL_law 180 = .ok (.iconst 2, 1) := by decide +kernel
theorem dL_law_181 : decode cL_law 181 = .ok (.iadd, 1) := by decide +kernel
theorem dL_law_182 : decode cL_law 182 = .ok (.iaload, 1) := by decide +kernel
theorem dL_law_183 : decode cL_law 183 = .ok (.aload_n 0, 1) := by decide +kernel
theorem dL_law_184 : decode cL_law 184 = .ok (.iload_n 3, 1) := by decide +kernel
theorem dL_law_185 : decode cL_law 185 = .ok (.iconst 3, 1) := by decide +kernel
theorem dL_law_186 : decode cL_law 186 = .ok (.iadd, 1) := by decide +kernel
theorem dL_law_187 : decode cL_law 187 = .ok (.iaload, 1) := by decide +kernel
theorem dL_law_188 : decode cL_law 188 = .ok (.invokevirtual 13, 3) := by decide +kernel
theorem dL_law_191 : decode cL_law 191 = .ok (.aload_n 2, 1) := by decide +kernel
theorem dL_law_192 : decode cL_law 192 = .ok (.aload_n 0, 1) := by decide +kernel
theorem dL_law_193 : decode cL_law 193 = .ok (.iload_n 3, 1) := by decide +kernel
theorem dL_law_194 : decode cL_law 194 = .ok (.iconst 1, 1) := by decide +kernel
theorem dL_law_195 : decode cL_law 195 = .ok (.iadd, 1) := by decide +kernel
theorem dL_law_196 : decode cL_law 196 = .ok (.iaload, 1) := by decide +kernel
theorem dL_law_197 : decode cL_law 197 = .ok (.aload_n 0, 1) := by decide +kernel
theorem dL_law_198 : decode cL_law 198 = .ok (.iload_n 3, 1) := by decide +kernel
theorem dL_law_199 : decode cL_law 199 = .ok (.iconst 2, 1) := by decide +kernel
theorem dL_law_200 : decode cL_law 200 = .ok (.iadd, 1) := by decide +kernel
theorem dL_law_201 : decode cL_law 201 = .ok (.iaload, 1) := by decide +kernel
theorem dL_law_202 : decode cL_law 202 = .ok (.aload_n 0, 1) := by decide +kernel
theorem dL_law_203 : decode cL_law 203 = .ok (.iload_n 3, 1) := by decide +kernel
theorem dL_law_204 : decode cL_law 204 = .ok (.iconst 3, 1) := by decide +kernel
theorem dL_law_205 : decode cL_law 205 = .ok (.iadd, 1) := by decide +kernel
theorem dL_law_206 : decode cL_law 206 = .ok (.iaload, 1) := by decide +kernel
theorem dL_law_207 : decode cL_law 207 = .ok (.invokevirtual 17, 3) := by decide +kernel
theorem dL_law_210 : decode cL_law 210 = .ok (.if_icmp .eq 905, 3) := by decide +kernel
theorem dL_law_213 : decode cL_law 213 = .ok (.iconst 0, 1) := by decide +kernel
theorem dL_law_214 : decode cL_law 214 = .ok (.ireturn, 1) := by decide +kernel
theorem dL_law_215 : decode cL_law 215 = .ok (.aload_n 1, 1) := by decide +kernel
theorem dL_law_216 : decode cL_law 216 = .ok (.aload_n 0, 1) := by decide +kernel
theorem dL_law_217 : decode cL_law 217 = .ok (.iload_n 3, 1) := by decide +kernel
theorem dL_law_218 : decode cL_law 218 = .ok (.iconst 1, 1) := by decide +kernel
theorem dL_law_219 : decode cL_law 219 = .ok (.iadd, 1) := by decide +kernel
theorem dL_law_220 : decode cL_law 220 = .ok (.iaload, 1) := by decide +kernel
theorem dL_law_221 : decode cL_law 221 = .ok (.aload_n 0, 1) := by decide +kernel
theorem dL_law_222 : decode cL_law 222 = .ok (.iload_n 3, 1) := by decide +kernel
theorem dL_law_223 : decode cL_law 223 = .ok (.iconst 2, 1) := by decide +kernel
theorem dL_law_224 : decode cL_law 224 = .ok (.iadd, 1) := by decide +kernel
theorem dL_law_225 : decode cL_law 225 = .ok (.iaload, 1) := by decide +kernel
theorem dL_law_226 : decode cL_law 226 = .ok (.aload_n 0, 1) := by decide +kernel
theorem dL_law_227 : decode cL_law 227 = .ok (.iload_n 3, 1) := by decide +kernel
theorem dL_law_228 : decode cL_law 228 = .ok (.iconst 3, 1) := by decide +kernel
theorem dL_law_229 : decode cL_law 229 = .ok (.iadd, 1) := by decide +kernel
theorem dL_law_230 : decode cL_law 230 = .ok (.iaload, 1) := by decide +kernel
theorem dL_law_231 : decode cL_law 231 = .ok (.invokevirtual 18, 3) := by decide +kernel
theorem dL_law_234 : decode cL_law 234 = .ok (.aload_n 2, 1) := by decide +kernel
theorem dL_law_235 : decode cL_law 235 = .ok (.aload_n 0, 1) := by decide +kernel
theorem dL_law_236 : decode cL_law 236 = .ok (.iload_n 3, 1) := by decide +kernel
theorem dL_law_237 : decode cL_law 237 = .ok (.iconst 1, 1) := by decide +kernel
theorem dL_law_238 : decode cL_law 238 = .ok (.iadd, 1) := by decide +kernel
theorem dL_law_239 : decode cL_law 239 = .ok (.iaload, 1) := by decide +kernel
theorem dL_law_240 : decode cL_law 240 = .ok (.aload_n 0, 1) := by decide +kernel
theorem dL_law_241 : decode cL_law 241 = .ok (.iload_n 3, 1) := by decide +kernel
theorem dL_law_242 : decode cL_law 242 = .ok (.iconst 2, 1) := by decide +kernel
theorem dL_law_243 : decode cL_law 243 = .ok (.iadd, 1) := by decide +kernel
theorem dL_law_244 : decode cL_law 244 = .ok (.iaload, 1) := by decide +kernel
theorem dL_law_245 : decode cL_law 245 = .ok (.aload_n 0, 1) := by decide +kernel
theorem dL_law_246 : decode cL_law 246 = .ok (.iload_n 3, 1) := by decide +kernel
theorem dL_law_247 : decode cL_law 247 = .ok (.iconst 3, 1) := by decide +kernel
theorem dL_law_248 : decode cL_law 248 = .ok (.iadd, 1) := by decide +kernel
theorem dL_law_249 : decode cL_law 249 = .ok (.iaload, 1) := by decide +kernel
theorem dL_law_250 : decode cL_law 250 = .ok (.invokevirtual 21, 3) := by decide +kernel
theorem dL_law_253 : decode cL_law 253 = .ok (.if_icmp .eq 862, 3) := by decide +kernel
theorem dL_law_256 : decode cL_law 256 = .ok (.iconst 0, 1) := by decide +kernel
theorem dL_law_257 : decode cL_law 257 = .ok (.ireturn, 1) := by decide +kernel
theorem dL_law_258 : decode cL_law 258 = .ok (.aload_n 1, 1) := by decide +kernel
theorem dL_law_259 : decode cL_law 259 = .ok (.aload_n 0, 1) := by decide +kernel
theorem dL_law_260 : decode cL_law 260 = .ok (.iload_n 3, 1) := by decide +kernel
theorem dL_law_261 : decode cL_law 261 = .ok (.iconst 1, 1) := by decide +kernel
theorem dL_law_262 : decode cL_law 262 = .ok (.iadd, 1) := by decide +kernel
theorem dL_law_263 : decode cL_law 263 = .ok (.iaload, 1) := by decide +kernel
theorem dL_law_264 : decode cL_law 264 = .ok (.aload_n 0, 1) := by decide +kernel
theorem dL_law_265 : decode cL_law 265 = .ok (.iload_n 3, 1) := by decide +kernel
theorem dL_law_266 : decode cL_law 266 = .ok (.iconst 2, 1) := by decide +kernel
theorem dL_law_267 : decode cL_law 267 = .ok (.iadd, 1) := by decide +kernel
theorem dL_law_268 : decode cL_law 268 = .ok (.iaload, 1) := by decide +kernel
theorem dL_law_269 : decode cL_law 269 = .ok (.aload_n 0, 1) := by decide +kernel
theorem dL_law_270 : decode cL_law 270 = .ok (.iload_n 3, 1) := by decide +kernel
theorem dL_law_271 : decode cL_law 271 = .ok (.iconst 3, 1) := by decide +kernel
theorem dL_law_272 : decode cL_law 272 = .ok (.iadd, 1) := by decide +kernel
theorem dL_law_273 : decode cL_law 273 = .ok (.iaload, 1) := by decide +kernel
theorem dL_law_274 : decode cL_law 274 = .ok (.aload_n 0, 1) := by decide +kernel
theorem dL_law_275 : decode cL_law 275 = .ok (.iload_n 3, 1) := by decide +kernel
theorem dL_law_276 : decode cL_law 276 = .ok (.iconst 4, 1) := by decide +kernel
theorem dL_law_277 : decode cL_law 277 = .ok (.iadd, 1) := by decide +kernel
theorem dL_law_278 : decode cL_law 278 = .ok (.iaload, 1) := by decide +kernel
theorem dL_law_279 : decode cL_law 279 = .ok (.aload_n 0, 1) := by decide +kernel
theorem dL_law_280 : decode cL_law 280 = .ok (.iload_n 3, 1) := by decide +kernel
theorem dL_law_281 : decode cL_law 281 = .ok (.iconst 5, 1) := by decide +kernel
theorem dL_law_282 : decode cL_law 282 = .ok (.iadd, 1) := by decide +kernel
theorem dL_law_283 : decode cL_law 283 = .ok (.iaload, 1) := by decide +kernel
theorem dL_law_284 : decode cL_law 284 = .ok (.invokevirtual 22, 3) := by decide +kernel
theorem dL_law_287 : decode cL_law 287 = .ok (.aload_n 2, 1) := by decide +kernel
theorem dL_law_288 : decode cL_law 288 = .ok (.aload_n 0, 1) := by decide +kernel
theorem dL_law_289 : decode cL_law 289 = .ok (.iload_n 3, 1) := by decide +kernel
theorem dL_law_290 : decode cL_law 290 = .ok (.iconst 1, 1) := by decide +kernel
theorem dL_law_291 : decode cL_law 291 = .ok (.iadd, 1) := by decide +kernel
theorem dL_law_292 : decode cL_law 292 = .ok (.iaload, 1) := by decide +kernel
theorem dL_law_293 : decode cL_law 293 = .ok (.aload_n 0, 1) := by decide +kernel
theorem dL_law_294 : decode cL_law 294 = .ok (.iload_n 3, 1) := by decide +kernel
theorem dL_law_295 : decode cL_law 295 = .ok (.iconst 2, 1) := by decide +kernel
theorem dL_law_296 : decode cL_law 296 = .ok (.iadd, 1) := by decide +kernel
theorem dL_law_297 : decode cL_law 297 = .ok (.iaload, 1) := by decide +kernel
theorem dL_law_298 : decode cL_law 298 = .ok (.aload_n 0, 1) := by decide +kernel
theorem dL_law_299 : decode cL_law 299 = .ok (.iload_n 3, 1) := by decide +kernel
theorem dL_law_300 : decode cL_law 300 = .ok (.iconst 3, 1) := by decide +kernel
theorem dL_law_301 : decode cL_law 301 = .ok (.iadd, 1) := by decide +kernel
theorem dL_law_302 : decode cL_law 302 = .ok (.iaload, 1) := by decide +kernel
theorem dL_law_303 : decode cL_law 303 = .ok (.aload_n 0, 1) := by decide +kernel
theorem dL_law_304 : decode cL_law 304 = .ok (.iload_n 3, 1) := by decide +kernel
theorem dL_law_305 : decode cL_law 305 = .ok (.iconst 4, 1) := by decide +kernel
theorem dL_law_306 : decode cL_law 306 = .ok (.iadd, 1) := by decide +kernel
theorem dL_law_307 : decode cL_law 307 = .ok (.iaload, 1) := by decide +kernel
theorem dL_law_308 : decode cL_law 308 = .ok (.aload_n 0, 1) := by decide +kernel
theorem dL_law_309 : decode cL_law 309 = .ok (.iload_n 3, 1) := by decide +kernel
theorem dL_law_310 : decode cL_law 310 = .ok (.iconst 5, 1) := by decide +kernel
theorem dL_law_311 : decode cL_law 311 = .ok (.iadd, 1) := by decide +kernel
theorem dL_law_312 : decode cL_law 312 = .ok (.iaload, 1) := by decide +kernel
theorem dL_law_313 : decode cL_law 313 = .ok (.invokevirtual 26, 3) := by decide +kernel
theorem dL_law_316 : decode cL_law 316 = .ok (.if_icmp .eq 799, 3) := by decide +kernel
theorem dL_law_319 : decode cL_law 319 = .ok (.iconst 0, 1) := by decide +kernel
theorem dL_law_320 : decode cL_law 320 = .ok (.ireturn, 1) := by decide +kernel
theorem dL_law_321 : decode cL_law 321 = .ok (.aload_n 1, 1) := by decide +kernel
theorem dL_law_322 : decode cL_law 322 = .ok (.aload_n 0, 1) := by decide +kernel
theorem dL_law_323 : decode cL_law 323 = .ok (.iload_n 3, 1) := by decide +kernel
theorem dL_law_324 : decode cL_law 324 = .ok (.iconst 1, 1) := by decide +kernel
theorem dL_law_325 : decode cL_law 325 = .ok (.iadd, 1) := by decide +kernel
theorem dL_law_326 : decode cL_law 326 = .ok (.iaload, 1) := by decide +kernel
theorem dL_law_327 : decode cL_law 327 = .ok (.invokevirtual 27, 3) := by decide +kernel
theorem dL_law_330 : decode cL_law 330 = .ok (.aload_n 2, 1) := by decide +kernel
theorem dL_law_331 : decode cL_law 331 = .ok (.aload_n 0, 1) := by decide +kernel
theorem dL_law_332 : decode cL_law 332 = .ok (.iload_n 3, 1) := by decide +kernel
theorem dL_law_333 : decode cL_law 333 = .ok (.iconst 1, 1) := by decide +kernel
theorem dL_law_334 : decode cL_law 334 = .ok (.iadd, 1) := by decide +kernel
theorem dL_law_335 : decode cL_law 335 = .ok (.iaload, 1) := by decide +kernel
theorem dL_law_336 : decode cL_law 336 = .ok (.invokevirtual 31, 3) := by decide +kernel
theorem dL_law_339 : decode cL_law 339 = .ok (.if_icmp .eq 776, 3) := by decide +kernel
theorem dL_law_342 : decode cL_law 342 = .ok (.iconst 0, 1) := by decide +kernel
theorem dL_law_343 : decode cL_law 343 = .ok (.ireturn, 1) := by decide +kernel
theorem dL_law_344 : decode cL_law 344 = .ok (.aload_n 1, 1) := by decide +kernel
theorem dL_law_345 : decode cL_law 345 = .ok (.aload_n 0, 1) := by decide +kernel
theorem dL_law_346 : decode cL_law 346 = .ok (.iload_n 3, 1) := by decide +kernel
theorem dL_law_347 : decode cL_law 347 = .ok (.iconst 1, 1) := by decide +kernel
theorem dL_law_348 : decode cL_law 348 = .ok (.iadd, 1) := by decide +kernel
theorem dL_law_349 : decode cL_law 349 = .ok (.iaload, 1) := by decide +kernel
theorem dL_law_350 : decode cL_law 350 = .ok (.i2l, 1) := by decide +kernel
theorem dL_law_351 : decode cL_law 351 = .ok (.bipush 32, 2) := by decide +kernel
theorem dL_law_353 : decode cL_law 353 = .ok (.lshl, 1) := by decide +kernel
theorem dL_law_354 : decode cL_law 354 = .ok (.aload_n 0, 1) := by decide +kernel
theorem dL_law_355 : decode cL_law 355 = .ok (.iload_n 3, 1) := by decide +kernel
theorem dL_law_356 : decode cL_law 356 = .ok (.iconst 2, 1) := by decide +kernel
theorem dL_law_357 : decode cL_law 357 = .ok (.iadd, 1) := by decide +kernel
theorem dL_law_358 : decode cL_law 358 = .ok (.iaload, 1) := by decide +kernel
theorem dL_law_359 : decode cL_law 359 = .ok (.i2l, 1) := by decide +kernel
theorem dL_law_360 : decode cL_law 360 = .ok (.ldc2_w 32, 3) := by decide +kernel
theorem dL_law_363 : decode cL_law 363 = .ok (.land, 1) := by decide +kernel
theorem dL_law_364 : decode cL_law 364 = .ok (.lor, 1) := by decide +kernel
theorem dL_law_365 : decode cL_law 365 = .ok (.aload_n 0, 1) := by decide +kernel
theorem dL_law_366 : decode cL_law 366 = .ok (.iload_n 3, 1) := by decide +kernel
theorem dL_law_367 : decode cL_law 367 = .ok (.iconst 3, 1) := by decide +kernel
theorem dL_law_368 : decode cL_law 368 = .ok (.iadd, 1) := by decide +kernel
theorem dL_law_369 : decode cL_law 369 = .ok (.iaload, 1) := by decide +kernel
theorem dL_law_370 : decode cL_law 370 = .ok (.invokevirtual 34, 3) := by decide +kernel
theorem dL_law_373 : decode cL_law 373 = .ok (.aload_n 2, 1) := by decide +kernel
theorem dL_law_374 : decode cL_law 374 = .ok (.aload_n 0, 1) := by decide +kernel
theorem dL_law_375 : decode cL_law 375 = .ok (.iload_n 3, 1) := by decide +kernel
theorem dL_law_376 : decode cL_law 376 = .ok (.iconst 1, 1) := by decide +kernel
theorem dL_law_377 : decode cL_law 377 = .ok (.iadd, 1) := by decide +kernel
theorem dL_law_378 : decode cL_law 378 = .ok (.iaload, 1) := by decide +kernel
theorem dL_law_379 : decode cL_law 379 = .ok (.i2l, 1) := by decide +kernel
theorem dL_law_380 : decode cL_law 380 = .ok (.bipush 32, 2) := by decide +kernel
theorem dL_law_382 : decode cL_law 382 = .ok (.lshl, 1) := by decide +kernel
theorem dL_law_383 : decode cL_law 383 = .ok (.aload_n 0, 1) := by decide +kernel
theorem dL_law_384 : decode cL_law 384 = .ok (.iload_n 3, 1) := by decide +kernel
theorem dL_law_385 : decode cL_law 385 = .ok (.iconst 2, 1) := by decide +kernel
theorem dL_law_386 : decode cL_law 386 = .ok (.iadd, 1) := by decide +kernel
theorem dL_law_387 : decode cL_law 387 = .ok (.iaload, 1) := by decide +kernel
theorem dL_law_388 : decode cL_law 388 = .ok (.i2l, 1) := by decide +kernel
theorem dL_law_389 : decode cL_law 389 = .ok (.ldc2_w 32, 3) := by decide +kernel
theorem dL_law_392 : decode cL_law 392 = .ok (.land, 1) := by decide +kernel
theorem dL_law_393 : decode cL_law 393 = .ok (.lor, 1) := by decide +kernel
theorem dL_law_394 : decode cL_law 394 = .ok (.aload_n 0, 1) := by decide +kernel
theorem dL_law_395 : decode cL_law 395 = .ok (.iload_n 3, 1) := by decide +kernel
theorem dL_law_396 : decode cL_law 396 = .ok (.iconst 3, 1) := by decide +kernel
theorem dL_law_397 : decode cL_law 397 = .ok (.iadd, 1) := by decide +kernel
theorem dL_law_398 : decode cL_law 398 = .ok (.iaload, 1) := by decide +kernel
theorem dL_law_399 : decode cL_law 399 = .ok (.invokevirtual 38, 3) := by decide +kernel
theorem dL_law_402 : decode cL_law 402 = .ok (.if_icmp .eq 713, 3) := by decide +kernel
theorem dL_law_405 : decode cL_law 405 = .ok (.iconst 0, 1) := by decide +kernel
theorem dL_law_406 : decode cL_law 406 = .ok (.ireturn, 1) := by decide +kernel
theorem dL_law_407 : decode cL_law 407 = .ok (.aload_n 1, 1) := by decide +kernel
theorem dL_law_408 : decode cL_law 408 = .ok (.invokevirtual 39, 3) := by decide +kernel
theorem dL_law_411 : decode cL_law 411 = .ok (.aload_n 2, 1) := by decide +kernel
theorem dL_law_412 : decode cL_law 412 = .ok (.invokevirtual 43, 3) := by decide +kernel
theorem dL_law_415 : decode cL_law 415 = .ok (.if_icmp .eq 700, 3) := by decide +kernel
theorem dL_law_418 : decode cL_law 418 = .ok (.iconst 0, 1) := by decide +kernel
theorem dL_law_419 : decode cL_law 419 = .ok (.ireturn, 1) := by decide +kernel
theorem dL_law_420 : decode cL_law 420 = .ok (.aload_n 1, 1) := by decide +kernel
theorem dL_law_421 : decode cL_law 421 = .ok (.invokevirtual 44, 3) := by decide +kernel
theorem dL_law_424 : decode cL_law 424 = .ok (.aload_n 2, 1) := by decide +kernel
theorem dL_law_425 : decode cL_law 425 = .ok (.invokevirtual 47, 3) := by decide +kernel
theorem dL_law_428 : decode cL_law 428 = .ok (.if_icmp .eq 687, 3) := by decide +kernel
theorem dL_law_431 : decode cL_law 431 = .ok (.iconst 0, 1) := by decide +kernel
theorem dL_law_432 : decode cL_law 432 = .ok (.ireturn, 1) := by decide +kernel
theorem dL_law_433 : decode cL_law 433 = .ok (.aload_n 1, 1) := by decide +kernel
theorem dL_law_434 : decode cL_law 434 = .ok (.aload_n 0, 1) := by decide +kernel
theorem dL_law_435 : decode cL_law 435 = .ok (.iload_n 3, 1) := by decide +kernel
theorem dL_law_436 : decode cL_law 436 = .ok (.iconst 1, 1) := by decide +kernel
theorem dL_law_437 : decode cL_law 437 = .ok (.iadd, 1) := by decide +kernel
theorem dL_law_438 : decode cL_law 438 = .ok (.iaload, 1) := by decide +kernel
theorem dL_law_439 : decode cL_law 439 = .ok (.aload_n 0, 1) := by decide +kernel
theorem dL_law_440 : decode cL_law 440 = .ok (.iload_n 3, 1) := by decide +kernel
theorem dL_law_441 : decode cL_law 441 = .ok (.iconst 2, 1) := by decide +kernel
theorem dL_law_442 : decode cL_law 442 = .ok (.iadd, 1) := by decide +kernel
theorem dL_law_443 : decode cL_law 443 = .ok (.iaload, 1) := by decide +kernel
theorem dL_law_444 : decode cL_law 444 = .ok (.aload_n 0, 1) := by decide +kernel
theorem dL_law_445 : decode cL_law 445 = .ok (.iload_n 3, 1) := by decide +kernel
theorem dL_law_446 : decode cL_law 446 = .ok (.iconst 3, 1) := by decide +kernel
theorem dL_law_447 : decode cL_law 447 = .ok (.iadd, 1) := by decide +kernel
theorem dL_law_448 : decode cL_law 448 = .ok (.iaload, 1) := by decide +kernel
theorem dL_law_449 : decode cL_law 449 = .ok (.invokevirtual 48, 3) := by decide +kernel
theorem dL_law_452 : decode cL_law 452 = .ok (.aload_n 2, 1) := by decide +kernel
theorem dL_law_453 : decode cL_law 453 = .ok (.aload_n 0, 1) := by decide +kernel
theorem dL_law_454 : decode cL_law 454 = .ok (.iload_n 3, 1) := by decide +kernel
theorem dL_law_455 : decode cL_law 455 = .ok (.iconst 1, 1) := by decide +kernel
theorem dL_law_456 : decode cL_law 456 = .ok (.iadd, 1) := by decide +kernel
theorem dL_law_457 : decode cL_law 457 = .ok (.iaload, 1) := by decide +kernel
theorem dL_law_458 : decode cL_law 458 = .ok (.aload_n 0, 1) := by decide +kernel
theorem dL_law_459 : decode cL_law 459 = .ok (.iload_n 3, 1) := by decide +kernel
theorem dL_law_460 : decode cL_law 460 = .ok (.iconst 2, 1) := by decide +kernel
theorem dL_law_461 : decode cL_law 461 = .ok (.iadd, 1) := by decide +kernel
theorem dL_law_462 : decode cL_law 462 = .ok (.iaload, 1) := by decide +kernel
theorem dL_law_463 : decode cL_law 463 = .ok (.aload_n 0, 1) := by decide +kernel
theorem dL_law_464 : decode cL_law 464 = .ok (.iload_n 3, 1) := by decide +kernel
theorem dL_law_465 : decode cL_law 465 = .ok (.iconst 3, 1) := by decide +kernel
theorem dL_law_466 : decode cL_law 466 = .ok (.iadd, 1) := by decide +kernel
theorem dL_law_467 : decode cL_law 467 = .ok (.iaload, 1) := by decide +kernel
theorem dL_law_468 : decode cL_law 468 = .ok (.invokevirtual 51, 3) := by decide +kernel
theorem dL_law_471 : decode cL_law 471 = .ok (.if_icmp .eq 644, 3) := by decide +kernel
theorem dL_law_474 : decode cL_law 474 = .ok (.iconst 0, 1) := by decide +kernel
theorem dL_law_475 : decode cL_law 475 = .ok (.ireturn, 1) := by decide +kernel
theorem dL_law_476 : decode cL_law 476 = .ok (.aload_n 1, 1) := by decide +kernel
theorem dL_law_477 : decode cL_law 477 = .ok (.invokevirtual 52, 3) := by decide +kernel
theorem dL_law_480 : decode cL_law 480 = .ok (.aload_n 2, 1) := by decide +kernel
theorem dL_law_481 : decode cL_law 481 = .ok (.invokevirtual 55, 3) := by decide +kernel
theorem dL_law_484 : decode cL_law 484 = .ok (.if_icmp .eq 631, 3) := by decide +kernel
theorem dL_law_487 : decode cL_law 487 = .ok (.iconst 0, 1) := by decide +kernel
theorem dL_law_488 : decode cL_law 488 = .ok (.ireturn, 1) := by decide +kernel
theorem dL_law_489 : decode cL_law 489 = .ok (.aload_n 1, 1) := by decide +kernel
theorem dL_law_490 : decode cL_law 490 = .ok (.invokevirtual 56, 3) := by decide +kernel
theorem dL_law_493 : decode cL_law 493 = .ok (.aload_n 2, 1) := by decide +kernel
theorem dL_law_494 : decode cL_law 494 = .ok (.invokevirtual 59, 3) := by decide +kernel
theorem dL_law_497 : decode cL_law 497 = .ok (.if_icmp .eq 618, 3) := by decide +kernel
theorem dL_law_500 : decode cL_law 500 = .ok (.iconst 0, 1) := by decide +kernel
theorem dL_law_501 : decode cL_law 501 = .ok (.ireturn, 1) := by decide +kernel
theorem dL_law_502 : decode cL_law 502 = .ok (.aload_n 1, 1) := by decide +kernel
theorem dL_law_503 : decode cL_law 503 = .ok (.aload_n 0, 1) := by decide +kernel
theorem dL_law_504 : decode cL_law 504 = .ok (.iload_n 3, 1) := by decide +kernel
theorem dL_law_505 : decode cL_law 505 = .ok (.iconst 1, 1) := by decide +kernel
theorem dL_law_506 : decode cL_law 506 = .ok (.iadd, 1) := by decide +kernel
theorem dL_law_507 : decode cL_law 507 = .ok (.iaload, 1) := by decide +kernel
theorem dL_law_508 : decode cL_law 508 = .ok (.aload_n 0, 1) := by decide +kernel
theorem dL_law_509 : decode cL_law 509 = .ok (.iload_n 3, 1) := by decide +kernel
theorem dL_law_510 : decode cL_law 510 = .ok (.iconst 2, 1) := by decide +kernel
theorem dL_law_511 : decode cL_law 511 = .ok (.iadd, 1) := by decide +kernel
theorem dL_law_512 : decode cL_law 512 = .ok (.iaload, 1) := by decide +kernel
theorem dL_law_513 : decode cL_law 513 = .ok (.invokevirtual 60, 3) := by decide +kernel
theorem dL_law_516 : decode cL_law 516 = .ok (.aload_n 2, 1) := by decide +kernel
theorem dL_law_517 : decode cL_law 517 = .ok (.aload_n 0, 1) := by decide +kernel
theorem dL_law_518 : decode cL_law 518 = .ok (.iload_n 3, 1) := by decide +kernel
theorem dL_law_519 : decode cL_law 519 = .ok (.iconst 1, 1) := by decide +kernel
theorem dL_law_520 : decode cL_law 520 = .ok (.iadd, 1) := by decide +kernel
theorem dL_law_521 : decode cL_law 521 = .ok (.iaload, 1) := by decide +kernel
theorem dL_law_522 : decode cL_law 522 = .ok (.aload_n 0, 1) := by decide +kernel
theorem dL_law_523 : decode cL_law 523 = .ok (.iload_n 3, 1) := by decide +kernel
theorem dL_law_524 : decode cL_law 524 = .ok (.iconst 2, 1) := by decide +kernel
theorem dL_law_525 : decode cL_law 525 = .ok (.iadd, 1) := by decide +kernel
theorem dL_law_526 : decode cL_law 526 = .ok (.iaload, 1) := by decide +kernel
theorem dL_law_527 : decode cL_law 527 = .ok (.invokevirtual 64, 3) := by decide +kernel
theorem dL_law_530 : decode cL_law 530 = .ok (.if_icmp .eq 585, 3) := by decide +kernel
theorem dL_law_533 : decode cL_law 533 = .ok (.iconst 0, 1) := by decide +kernel
theorem dL_law_534 : decode cL_law 534 = .ok (.ireturn, 1) := by decide +kernel
theorem dL_law_535 : decode cL_law 535 = .ok (.aload_n 1, 1) := by decide +kernel
theorem dL_law_536 : decode cL_law 536 = .ok (.aload_n 0, 1) := by decide +kernel
theorem dL_law_537 : decode cL_law 537 = .ok (.iload_n 3, 1) := by decide +kernel
theorem dL_law_538 : decode cL_law 538 = .ok (.iconst 1, 1) := by decide +kernel
theorem dL_law_539 : decode cL_law 539 = .ok (.iadd, 1) := by decide +kernel
theorem dL_law_540 : decode cL_law 540 = .ok (.iaload, 1) := by decide +kernel
theorem dL_law_541 : decode cL_law 541 = .ok (.aload_n 0, 1) := by decide +kernel
theorem dL_law_542 : decode cL_law 542 = .ok (.iload_n 3, 1) := by decide +kernel
theorem dL_law_543 : decode cL_law 543 = .ok (.iconst 2, 1) := by decide +kernel
theorem dL_law_544 : decode cL_law 544 = .ok (.iadd, 1) := by decide +kernel
theorem dL_law_545 : decode cL_law 545 = .ok (.iaload, 1) := by decide +kernel
theorem dL_law_546 : decode cL_law 546 = .ok (.invokevirtual 65, 3) := by decide +kernel
theorem dL_law_549 : decode cL_law 549 = .ok (.aload_n 2, 1) := by decide +kernel
theorem dL_law_550 : decode cL_law 550 = .ok (.aload_n 0, 1) := by decide +kernel
theorem dL_law_551 : decode cL_law 551 = .ok (.iload_n 3, 1) := by decide +kernel
theorem dL_law_552 : decode cL_law 552 = .ok (.iconst 1, 1) := by decide +kernel
theorem dL_law_553 : decode cL_law 553 = .ok (.iadd, 1) := by decide +kernel
theorem dL_law_554 : decode cL_law 554 = .ok (.iaload, 1) := by decide +kernel
theorem dL_law_555 : decode cL_law 555 = .ok (.aload_n 0, 1) := by decide +kernel
theorem dL_law_556 : decode cL_law 556 = .ok (.iload_n 3, 1) := by decide +kernel
theorem dL_law_557 : decode cL_law 557 = .ok (.iconst 2, 1) := by decide +kernel
theorem dL_law_558 : decode cL_law 558 = .ok (.iadd, 1) := by decide +kernel
theorem dL_law_559 : decode cL_law 559 = .ok (.iaload, 1) := by decide +kernel
theorem dL_law_560 : decode cL_law 560 = .ok (.invokevirtual 68, 3) := by decide +kernel
theorem dL_law_563 : decode cL_law 563 = .ok (.if_icmp .eq 552, 3) := by decide +kernel
theorem dL_law_566 : decode cL_law 566 = .ok (.iconst 0, 1) := by decide +kernel
theorem dL_law_567 : decode cL_law 567 = .ok (.ireturn, 1) := by decide +kernel
theorem dL_law_568 : decode cL_law 568 = .ok (.aload_n 1, 1) := by decide +kernel
theorem dL_law_569 : decode cL_law 569 = .ok (.aload_n 0, 1) := by decide +kernel
theorem dL_law_570 : decode cL_law 570 = .ok (.iload_n 3, 1) := by decide +kernel
theorem dL_law_571 : decode cL_law 571 = .ok (.iconst 1, 1) := by decide +kernel
theorem dL_law_572 : decode cL_law 572 = .ok (.iadd, 1) := by decide +kernel
theorem dL_law_573 : decode cL_law 573 = .ok (.iaload, 1) := by decide +kernel
theorem dL_law_574 : decode cL_law 574 = .ok (.aload_n 0, 1) := by decide +kernel
theorem dL_law_575 : decode cL_law 575 = .ok (.iload_n 3, 1) := by decide +kernel
theorem dL_law_576 : decode cL_law 576 = .ok (.iconst 2, 1) := by decide +kernel
theorem dL_law_577 : decode cL_law 577 = .ok (.iadd, 1) := by decide +kernel
theorem dL_law_578 : decode cL_law 578 = .ok (.iaload, 1) := by decide +kernel
theorem dL_law_579 : decode cL_law 579 = .ok (.aload_n 0, 1) := by decide +kernel
theorem dL_law_580 : decode cL_law 580 = .ok (.iload_n 3, 1) := by decide +kernel
theorem dL_law_581 : decode cL_law 581 = .ok (.iconst 3, 1) := by decide +kernel
theorem dL_law_582 : decode cL_law 582 = .ok (.iadd, 1) := by decide +kernel
theorem dL_law_583 : decode cL_law 583 = .ok (.iaload, 1) := by decide +kernel
theorem dL_law_584 : decode cL_law 584 = .ok (.invokevirtual 69, 3) := by decide +kernel
theorem dL_law_587 : decode cL_law 587 = .ok (.aload_n 2, 1) := by decide +kernel
theorem dL_law_588 : decode cL_law 588 = .ok (.aload_n 0, 1) := by decide +kernel
theorem dL_law_589 : decode cL_law 589 = .ok (.iload_n 3, 1) := by decide +kernel
theorem dL_law_590 : decode cL_law 590 = .ok (.iconst 1, 1) := by decide +kernel
theorem dL_law_591 : decode cL_law 591 = .ok (.iadd, 1) := by decide +kernel
theorem dL_law_592 : decode cL_law 592 = .ok (.iaload, 1) := by decide +kernel
theorem dL_law_593 : decode cL_law 593 = .ok (.aload_n 0, 1) := by decide +kernel
theorem dL_law_594 : decode cL_law 594 = .ok (.iload_n 3, 1) := by decide +kernel
theorem dL_law_595 : decode cL_law 595 = .ok (.iconst 2, 1) := by decide +kernel
theorem dL_law_596 : decode cL_law 596 = .ok (.iadd, 1) := by decide +kernel
theorem dL_law_597 : decode cL_law 597 = .ok (.iaload, 1) := by decide +kernel
theorem dL_law_598 : decode cL_law 598 = .ok (.aload_n 0, 1) := by decide +kernel
theorem dL_law_599 : decode cL_law 599 = .ok (.iload_n 3, 1) := by decide +kernel
theorem dL_law_600 : decode cL_law 600 = .ok (.iconst 3, 1) := by decide +kernel
theorem dL_law_601 : decode cL_law 601 = .ok (.iadd, 1) := by decide +kernel
theorem dL_law_602 : decode cL_law 602 = .ok (.iaload, 1) := by decide +kernel
theorem dL_law_603 : decode cL_law 603 = .ok (.invokevirtual 72, 3) := by decide +kernel
theorem dL_law_606 : decode cL_law 606 = .ok (.if_icmp .eq 509, 3) := by decide +kernel
theorem dL_law_609 : decode cL_law 609 = .ok (.iconst 0, 1) := by decide +kernel
theorem dL_law_610 : decode cL_law 610 = .ok (.ireturn, 1) := by decide +kernel
theorem dL_law_611 : decode cL_law 611 = .ok (.aload_n 1, 1) := by decide +kernel
theorem dL_law_612 : decode cL_law 612 = .ok (.aload_n 0, 1) := by decide +kernel
theorem dL_law_613 : decode cL_law 613 = .ok (.iload_n 3, 1) := by decide +kernel
theorem dL_law_614 : decode cL_law 614 = .ok (.iconst 1, 1) := by decide +kernel
theorem dL_law_615 : decode cL_law 615 = .ok (.iadd, 1) := by decide +kernel
theorem dL_law_616 : decode cL_law 616 = .ok (.iaload, 1) := by decide +kernel
theorem dL_law_617 : decode cL_law 617 = .ok (.aload_n 0, 1) := by decide +kernel
theorem dL_law_618 : decode cL_law 618 = .ok (.iload_n 3, 1) := by decide +kernel
theorem dL_law_619 : decode cL_law 619 = .ok (.iconst 2, 1) := by decide +kernel
theorem dL_law_620 : decode cL_law 620 = .ok (.iadd, 1) := by decide +kernel
theorem dL_law_621 : decode cL_law 621 = .ok (.iaload, 1) := by decide +kernel
theorem dL_law_622 : decode cL_law 622 = .ok (.aload_n 0, 1) := by decide +kernel
theorem dL_law_623 : decode cL_law 623 = .ok (.iload_n 3, 1) := by decide +kernel
theorem dL_law_624 : decode cL_law 624 = .ok (.iconst 3, 1) := by decide +kernel
theorem dL_law_625 : decode cL_law 625 = .ok (.iadd, 1) := by decide +kernel
theorem dL_law_626 : decode cL_law 626 = .ok (.iaload, 1) := by decide +kernel
theorem dL_law_627 : decode cL_law 627 = .ok (.aload_n 0, 1) := by decide +kernel
theorem dL_law_628 : decode cL_law 628 = .ok (.iload_n 3, 1) := by decide +kernel
theorem dL_law_629 : decode cL_law 629 = .ok (.iconst 4, 1) := by decide +kernel
theorem dL_law_630 : decode cL_law 630 = .ok (.iadd, 1) := by decide +kernel
theorem dL_law_631 : decode cL_law 631 = .ok (.iaload, 1) := by decide +kernel
theorem dL_law_632 : decode cL_law 632 = .ok (.invokevirtual 73, 3) := by decide +kernel
theorem dL_law_635 : decode cL_law 635 = .ok (.aload_n 2, 1) := by decide +kernel
theorem dL_law_636 : decode cL_law 636 = .ok (.aload_n 0, 1) := by decide +kernel
theorem dL_law_637 : decode cL_law 637 = .ok (.iload_n 3, 1) := by decide +kernel
theorem dL_law_638 : decode cL_law 638 = .ok (.iconst 1, 1) := by decide +kernel
theorem dL_law_639 : decode cL_law 639 = .ok (.iadd, 1) := by decide +kernel
theorem dL_law_640 : decode cL_law 640 = .ok (.iaload, 1) := by decide +kernel
theorem dL_law_641 : decode cL_law 641 = .ok (.aload_n 0, 1) := by decide +kernel
theorem dL_law_642 : decode cL_law 642 = .ok (.iload_n 3, 1) := by decide +kernel
theorem dL_law_643 : decode cL_law 643 = .ok (.iconst 2, 1) := by decide +kernel
theorem dL_law_644 : decode cL_law 644 = .ok (.iadd, 1) := by decide +kernel
theorem dL_law_645 : decode cL_law 645 = .ok (.iaload, 1) := by decide +kernel
theorem dL_law_646 : decode cL_law 646 = .ok (.aload_n 0, 1) := by decide +kernel
theorem dL_law_647 : decode cL_law 647 = .ok (.iload_n 3, 1) := by decide +kernel
theorem dL_law_648 : decode cL_law 648 = .ok (.iconst 3, 1) := by decide +kernel
theorem dL_law_649 : decode cL_law 649 = .ok (.iadd, 1) := by decide +kernel
theorem dL_law_650 : decode cL_law 650 = .ok (.iaload, 1) := by decide +kernel
theorem dL_law_651 : decode cL_law 651 = .ok (.aload_n 0, 1) := by decide +kernel
theorem dL_law_652 : decode cL_law 652 = .ok (.iload_n 3, 1) := by decide +kernel
theorem dL_law_653 : decode cL_law 653 = .ok (.iconst 4, 1) := by decide +kernel
theorem dL_law_654 : decode cL_law 654 = .ok (.iadd, 1) := by decide +kernel
theorem dL_law_655 : decode cL_law 655 = .ok (.iaload, 1) := by decide +kernel
theorem dL_law_656 : decode cL_law 656 = .ok (.invokevirtual 77, 3) := by decide +kernel
theorem dL_law_659 : decode cL_law 659 = .ok (.if_icmp .eq 456, 3) := by decide +kernel
theorem dL_law_662 : decode cL_law 662 = .ok (.iconst 0, 1) := by decide +kernel
theorem dL_law_663 : decode cL_law 663 = .ok (.ireturn, 1) := by decide +kernel
theorem dL_law_664 : decode cL_law 664 = .ok (.aload_n 1, 1) := by decide +kernel
theorem dL_law_665 : decode cL_law 665 = .ok (.aload_n 0, 1) := by decide +kernel
theorem dL_law_666 : decode cL_law 666 = .ok (.iload_n 3, 1) := by decide +kernel
theorem dL_law_667 : decode cL_law 667 = .ok (.iconst 1, 1) := by decide +kernel
theorem dL_law_668 : decode cL_law 668 = .ok (.iadd, 1) := by decide +kernel
theorem dL_law_669 : decode cL_law 669 = .ok (.iaload, 1) := by decide +kernel
theorem dL_law_670 : decode cL_law 670 = .ok (.aload_n 0, 1) := by decide +kernel
theorem dL_law_671 : decode cL_law 671 = .ok (.iload_n 3, 1) := by decide +kernel
theorem dL_law_672 : decode cL_law 672 = .ok (.iconst 2, 1) := by decide +kernel
theorem dL_law_673 : decode cL_law 673 = .ok (.iadd, 1) := by decide +kernel
theorem dL_law_674 : decode cL_law 674 = .ok (.iaload, 1) := by decide +kernel
theorem dL_law_675 : decode cL_law 675 = .ok (.invokevirtual 78, 3) := by decide +kernel
theorem dL_law_678 : decode cL_law 678 = .ok (.aload_n 2, 1) := by decide +kernel
theorem dL_law_679 : decode cL_law 679 = .ok (.aload_n 0, 1) := by decide +kernel
theorem dL_law_680 : decode cL_law 680 = .ok (.iload_n 3, 1) := by decide +kernel
theorem dL_law_681 : decode cL_law 681 = .ok (.iconst 1, 1) := by decide +kernel
theorem dL_law_682 : decode cL_law 682 = .ok (.iadd, 1) := by decide +kernel
theorem dL_law_683 : decode cL_law 683 = .ok (.iaload, 1) := by decide +kernel
theorem dL_law_684 : decode cL_law 684 = .ok (.aload_n 0, 1) := by decide +kernel
theorem dL_law_685 : decode cL_law 685 = .ok (.iload_n 3, 1) := by decide +kernel
theorem dL_law_686 : decode cL_law 686 = .ok (.iconst 2, 1) := by decide +kernel
theorem dL_law_687 : decode cL_law 687 = .ok (.iadd, 1) := by decide +kernel
theorem dL_law_688 : decode cL_law 688 = .ok (.iaload, 1) := by decide +kernel
theorem dL_law_689 : decode cL_law 689 = .ok (.invokevirtual 81, 3) := by decide +kernel
theorem dL_law_692 : decode cL_law 692 = .ok (.if_icmp .eq 423, 3) := by decide +kernel
theorem dL_law_695 : decode cL_law 695 = .ok (.iconst 0, 1) := by decide +kernel
theorem dL_law_696 : decode cL_law 696 = .ok (.ireturn, 1) := by decide +kernel
theorem dL_law_697 : decode cL_law 697 = .ok (.aload_n 1, 1) := by decide +kernel
theorem dL_law_698 : decode cL_law 698 = .ok (.aload_n 0, 1) := by decide +kernel
theorem dL_law_699 : decode cL_law 699 = .ok (.iload_n 3, 1) := by decide +kernel
theorem dL_law_700 : decode cL_law 700 = .ok (.iconst 1, 1) := by decide +kernel
theorem dL_law_701 : decode cL_law 701 = .ok (.iadd, 1) := by decide +kernel
theorem dL_law_702 : decode cL_law 702 = .ok (.iaload, 1) := by decide +kernel
theorem dL_law_703 : decode cL_law 703 = .ok (.aload_n 0, 1) := by decide +kernel
theorem dL_law_704 : decode cL_law 704 = .ok (.iload_n 3, 1) := by decide +kernel
theorem dL_law_705 : decode cL_law 705 = .ok (.iconst 2, 1) := by decide +kernel
theorem dL_law_706 : decode cL_law 706 = .ok (.iadd, 1) := by decide +kernel
theorem dL_law_707 : decode cL_law 707 = .ok (.iaload, 1) := by decide +kernel
theorem dL_law_708 : decode cL_law 708 = .ok (.invokevirtual 82, 3) := by decide +kernel
theorem dL_law_711 : decode cL_law 711 = .ok (.aload_n 2, 1) := by decide +kernel
theorem dL_law_712 : decode cL_law 712 = .ok (.aload_n 0, 1) := by decide +kernel
theorem dL_law_713 : decode cL_law 713 = .ok (.iload_n 3, 1) := by decide +kernel
theorem dL_law_714 : decode cL_law 714 = .ok (.iconst 1, 1) := by decide +kernel
theorem dL_law_715 : decode cL_law 715 = .ok (.iadd, 1) := by decide +kernel
theorem dL_law_716 : decode cL_law 716 = .ok (.iaload, 1) := by decide +kernel
theorem dL_law_717 : decode cL_law 717 = .ok (.aload_n 0, 1) := by decide +kernel
theorem dL_law_718 : decode cL_law 718 = .ok (.iload_n 3, 1) := by decide +kernel
theorem dL_law_719 : decode cL_law 719 = .ok (.iconst 2, 1) := by decide +kernel
theorem dL_law_720 : decode cL_law 720 = .ok (.iadd, 1) := by decide +kernel
theorem dL_law_721 : decode cL_law 721 = .ok (.iaload, 1) := by decide +kernel
theorem dL_law_722 : decode cL_law 722 = .ok (.invokevirtual 85, 3) := by decide +kernel
theorem dL_law_725 : decode cL_law 725 = .ok (.if_icmp .eq 390, 3) := by decide +kernel
theorem dL_law_728 : decode cL_law 728 = .ok (.iconst 0, 1) := by decide +kernel
theorem dL_law_729 : decode cL_law 729 = .ok (.ireturn, 1) := by decide +kernel
theorem dL_law_730 : decode cL_law 730 = .ok (.aload_n 1, 1) := by decide +kernel
theorem dL_law_731 : decode cL_law 731 = .ok (.aload_n 0, 1) := by decide +kernel
theorem dL_law_732 : decode cL_law 732 = .ok (.iload_n 3, 1) := by decide +kernel
theorem dL_law_733 : decode cL_law 733 = .ok (.iconst 1, 1) := by decide +kernel
theorem dL_law_734 : decode cL_law 734 = .ok (.iadd, 1) := by decide +kernel
theorem dL_law_735 : decode cL_law 735 = .ok (.iaload, 1) := by decide +kernel
theorem dL_law_736 : decode cL_law 736 = .ok (.invokevirtual 86, 3) := by decide +kernel
theorem dL_law_739 : decode cL_law 739 = .ok (.aload_n 2, 1) := by decide +kernel
theorem dL_law_740 : decode cL_law 740 = .ok (.aload_n 0, 1) := by decide +kernel
theorem dL_law_741 : decode cL_law 741 = .ok (.iload_n 3, 1) := by decide +kernel
theorem dL_law_742 : decode cL_law 742 = .ok (.iconst 1, 1) := by decide +kernel
theorem dL_law_743 : decode cL_law 743 = .ok (.iadd, 1) := by decide +kernel
theorem dL_law_744 : decode cL_law 744 = .ok (.iaload, 1) := by decide +kernel
theorem dL_law_745 : decode cL_law 745 = .ok (.invokevirtual 89, 3) := by decide +kernel
theorem dL_law_748 : decode cL_law 748 = .ok (.if_icmp .eq 367, 3) := by decide +kernel
theorem dL_law_751 : decode cL_law 751 = .ok (.iconst 0, 1) := by decide +kernel
theorem dL_law_752 : decode cL_law 752 = .ok (.ireturn, 1) := by decide +kernel
theorem dL_law_753 : decode cL_law 753 = .ok (.aload_n 1, 1) := by decide +kernel
theorem dL_law_754 : decode cL_law 754 = .ok (.aload_n 0, 1) := by decide +kernel
theorem dL_law_755 : decode cL_law 755 = .ok (.iload_n 3, 1) := by decide +kernel
theorem dL_law_756 : decode cL_law 756 = .ok (.iconst 1, 1) := by decide +kernel
theorem dL_law_757 : decode cL_law 757 = .ok (.iadd, 1) := by decide +kernel
theorem dL_law_758 : decode cL_law 758 = .ok (.iaload, 1) := by decide +kernel
theorem dL_law_759 : decode cL_law 759 = .ok (.invokevirtual 90, 3) := by decide +kernel
theorem dL_law_762 : decode cL_law 762 = .ok (.aload_n 2, 1) := by decide +kernel
theorem dL_law_763 : decode cL_law 763 = .ok (.aload_n 0, 1) := by decide +kernel
theorem dL_law_764 : decode cL_law 764 = .ok (.iload_n 3, 1) := by decide +kernel
theorem dL_law_765 : decode cL_law 765 = .ok (.iconst 1, 1) := by decide +kernel
theorem dL_law_766 : decode cL_law 766 = .ok (.iadd, 1) := by decide +kernel
theorem dL_law_767 : decode cL_law 767 = .ok (.iaload, 1) := by decide +kernel
theorem dL_law_768 : decode cL_law 768 = .ok (.invokevirtual 93, 3) := by decide +kernel
theorem dL_law_771 : decode cL_law 771 = .ok (.if_icmp .eq 344, 3) := by decide +kernel
theorem dL_law_774 : decode cL_law 774 = .ok (.iconst 0, 1) := by decide +kernel
theorem dL_law_775 : decode cL_law 775 = .ok (.ireturn, 1) := by decide +kernel
theorem dL_law_776 : decode cL_law 776 = .ok (.aload_n 1, 1) := by decide +kernel
theorem dL_law_777 : decode cL_law 777 = .ok (.aload_n 0, 1) := by decide +kernel
theorem dL_law_778 : decode cL_law 778 = .ok (.iload_n 3, 1) := by decide +kernel
theorem dL_law_779 : decode cL_law 779 = .ok (.iconst 1, 1) := by decide +kernel
theorem dL_law_780 : decode cL_law 780 = .ok (.iadd, 1) := by decide +kernel
theorem dL_law_781 : decode cL_law 781 = .ok (.iaload, 1) := by decide +kernel
theorem dL_law_782 : decode cL_law 782 = .ok (.aload_n 0, 1) := by decide +kernel
theorem dL_law_783 : decode cL_law 783 = .ok (.iload_n 3, 1) := by decide +kernel
theorem dL_law_784 : decode cL_law 784 = .ok (.iconst 2, 1) := by decide +kernel
theorem dL_law_785 : decode cL_law 785 = .ok (.iadd, 1) := by decide +kernel
theorem dL_law_786 : decode cL_law 786 = .ok (.iaload, 1) := by decide +kernel
theorem dL_law_787 : decode cL_law 787 = .ok (.invokevirtual 94, 3) := by decide +kernel
theorem dL_law_790 : decode cL_law 790 = .ok (.aload_n 2, 1) := by decide +kernel
theorem dL_law_791 : decode cL_law 791 = .ok (.aload_n 0, 1) := by decide +kernel
theorem dL_law_792 : decode cL_law 792 = .ok (.iload_n 3, 1) := by decide +kernel
theorem dL_law_793 : decode cL_law 793 = .ok (.iconst 1, 1) := by decide +kernel
theorem dL_law_794 : decode cL_law 794 = .ok (.iadd, 1) := by decide +kernel
theorem dL_law_795 : decode cL_law 795 = .ok (.iaload, 1) := by decide +kernel
theorem dL_law_796 : decode cL_law 796 = .ok (.aload_n 0, 1) := by decide +kernel
theorem dL_law_797 : decode cL_law 797 = .ok (.iload_n 3, 1) := by decide +kernel
theorem dL_law_798 : decode cL_law 798 = .ok (.iconst 2, 1) := by decide +kernel
theorem dL_law_799 : decode cL_law 799 = .ok (.iadd, 1) := by decide +kernel
theorem dL_law_800 : decode cL_law 800 = .ok (.iaload, 1) := by decide +kernel
theorem dL_law_801 : decode cL_law 801 = .ok (.invokevirtual 97, 3) := by decide +kernel
theorem dL_law_804 : decode cL_law 804 = .ok (.if_icmp .eq 311, 3) := by decide +kernel
theorem dL_law_807 : decode cL_law 807 = .ok (.iconst 0, 1) := by decide +kernel
theorem dL_law_808 : decode cL_law 808 = .ok (.ireturn, 1) := by decide +kernel
theorem dL_law_809 : decode cL_law 809 = .ok (.aload_n 1, 1) := by decide +kernel
theorem dL_law_810 : decode cL_law 810 = .ok (.aload_n 0, 1) := by decide +kernel
theorem dL_law_811 : decode cL_law 811 = .ok (.iload_n 3, 1) := by decide +kernel
theorem dL_law_812 : decode cL_law 812 = .ok (.iconst 1, 1) := by decide +kernel
theorem dL_law_813 : decode cL_law 813 = .ok (.iadd, 1) := by decide +kernel
theorem dL_law_814 : decode cL_law 814 = .ok (.iaload, 1) := by decide +kernel
theorem dL_law_815 : decode cL_law 815 = .ok (.invokevirtual 98, 3) := by decide +kernel
theorem dL_law_818 : decode cL_law 818 = .ok (.aload_n 2, 1) := by decide +kernel
theorem dL_law_819 : decode cL_law 819 = .ok (.aload_n 0, 1) := by decide +kernel
theorem dL_law_820 : decode cL_law 820 = .ok (.iload_n 3, 1) := by decide +kernel
theorem dL_law_821 : decode cL_law 821 = .ok (.iconst 1, 1) := by decide +kernel
theorem dL_law_822 : decode cL_law 822 = .ok (.iadd, 1) := by decide +kernel
theorem dL_law_823 : decode cL_law 823 = .ok (.iaload, 1) := by decide +kernel
theorem dL_law_824 : decode cL_law 824 = .ok (.invokevirtual 101, 3) := by decide +kernel
theorem dL_law_827 : decode cL_law 827 = .ok (.if_icmp .eq 288, 3) := by decide +kernel
theorem dL_law_830 : decode cL_law 830 = .ok (.iconst 0, 1) := by decide +kernel
theorem dL_law_831 : decode cL_law 831 = .ok (.ireturn, 1) := by decide +kernel
theorem dL_law_832 : decode cL_law 832 = .ok (.aload_n 1, 1) := by decide +kernel
theorem dL_law_833 : decode cL_law 833 = .ok (.aload_n 0, 1) := by decide +kernel
theorem dL_law_834 : decode cL_law 834 = .ok (.iload_n 3, 1) := by decide +kernel
theorem dL_law_835 : decode cL_law 835 = .ok (.iconst 1, 1) := by decide +kernel
theorem dL_law_836 : decode cL_law 836 = .ok (.iadd, 1) := by decide +kernel
theorem dL_law_837 : decode cL_law 837 = .ok (.iaload, 1) := by decide +kernel
theorem dL_law_838 : decode cL_law 838 = .ok (.invokevirtual 102, 3) := by decide +kernel
theorem dL_law_841 : decode cL_law 841 = .ok (.aload_n 2, 1) := by decide +kernel
theorem dL_law_842 : decode cL_law 842 = .ok (.aload_n 0, 1) := by decide +kernel
theorem dL_law_843 : decode cL_law 843 = .ok (.iload_n 3, 1) := by decide +kernel
theorem dL_law_844 : decode cL_law 844 = .ok (.iconst 1, 1) := by decide +kernel
theorem dL_law_845 : decode cL_law 845 = .ok (.iadd, 1) := by decide +kernel
theorem dL_law_846 : decode cL_law 846 = .ok (.iaload, 1) := by decide +kernel
theorem dL_law_847 : decode cL_law 847 = .ok (.invokevirtual 105, 3) := by decide +kernel
theorem dL_law_850 : decode cL_law 850 = .ok (.if_icmp .eq 265, 3) := by decide +kernel
theorem dL_law_853 : decode cL_law 853 = .ok (.iconst 0, 1) := by decide +kernel
theorem dL_law_854 : decode cL_law 854 = .ok (.ireturn, 1) := by decide +kernel
theorem dL_law_855 : decode cL_law 855 = .ok (.aload_n 1, 1) := by decide +kernel
theorem dL_law_856 : decode cL_law 856 = .ok (.aload_n 0, 1) := by decide +kernel
theorem dL_law_857 : decode cL_law 857 = .ok (.iload_n 3, 1) := by decide +kernel
theorem dL_law_858 : decode cL_law 858 = .ok (.iconst 1, 1) := by decide +kernel
theorem dL_law_859 : decode cL_law 859 = .ok (.iadd, 1) := by decide +kernel
theorem dL_law_860 : decode cL_law 860 = .ok (.iaload, 1) := by decide +kernel
theorem dL_law_861 : decode cL_law 861 = .ok (.invokevirtual 106, 3) := by decide +kernel
theorem dL_law_864 : decode cL_law 864 = .ok (.aload_n 2, 1) := by decide +kernel
theorem dL_law_865 : decode cL_law 865 = .ok (.aload_n 0, 1) := by decide +kernel
theorem dL_law_866 : decode cL_law 866 = .ok (.iload_n 3, 1) := by decide +kernel
theorem dL_law_867 : decode cL_law 867 = .ok (.iconst 1, 1) := by decide +kernel
theorem dL_law_868 : decode cL_law 868 = .ok (.iadd, 1) := by decide +kernel
theorem dL_law_869 : decode cL_law 869 = .ok (.iaload, 1) := by decide +kernel
theorem dL_law_870 : decode cL_law 870 = .ok (.invokevirtual 109, 3) := by decide +kernel
theorem dL_law_873 : decode cL_law 873 = .ok (.if_icmp .eq 242, 3) := by decide +kernel
theorem dL_law_876 : decode cL_law 876 = .ok (.iconst 0, 1) := by decide +kernel
theorem dL_law_877 : decode cL_law 877 = .ok (.ireturn, 1) := by decide +kernel
theorem dL_law_878 : decode cL_law 878 = .ok (.aload_n 1, 1) := by decide +kernel
theorem dL_law_879 : decode cL_law 879 = .ok (.aload_n 0, 1) := by decide +kernel
theorem dL_law_880 : decode cL_law 880 = .ok (.iload_n 3, 1) := by decide +kernel
theorem dL_law_881 : decode cL_law 881 = .ok (.iconst 1, 1) := by decide +kernel
theorem dL_law_882 : decode cL_law 882 = .ok (.iadd, 1) := by decide +kernel
theorem dL_law_883 : decode cL_law 883 = .ok (.iaload, 1) := by decide +kernel
theorem dL_law_884 : decode cL_law 884 = .ok (.aload_n 0, 1) := by decide +kernel
theorem dL_law_885 : decode cL_law 885 = .ok (.iload_n 3, 1) := by decide +kernel
theorem dL_law_886 : decode cL_law 886 = .ok (.iconst 2, 1) := by decide +kernel
theorem dL_law_887 : decode cL_law 887 = .ok (.iadd, 1) := by decide +kernel
theorem dL_law_888 : decode cL_law 888 = .ok (.iaload, 1) := by decide +kernel
theorem dL_law_889 : decode cL_law 889 = .ok (.aload_n 0, 1) := by decide +kernel
theorem dL_law_890 : decode cL_law 890 = .ok (.iload_n 3, 1) := by decide +kernel
theorem dL_law_891 : decode cL_law 891 = .ok (.iconst 3, 1) := by decide +kernel
theorem dL_law_892 : decode cL_law 892 = .ok (.iadd, 1) := by decide +kernel
theorem dL_law_893 : decode cL_law 893 = .ok (.iaload, 1) := by decide +kernel
theorem dL_law_894 : decode cL_law 894 = .ok (.invokevirtual 110, 3) := by decide +kernel
theorem dL_law_897 : decode cL_law 897 = .ok (.aload_n 2, 1) := by decide +kernel
theorem dL_law_898 : decode cL_law 898 = .ok (.aload_n 0, 1) := by decide +kernel
theorem dL_law_899 : decode cL_law 899 = .ok (.iload_n 3, 1) := by decide +kernel
theorem dL_law_900 : decode cL_law 900 = .ok (.iconst 1, 1) := by decide +kernel
theorem dL_law_901 : decode cL_law 901 = .ok (.iadd, 1) := by decide +kernel
theorem dL_law_902 : decode cL_law 902 = .ok (.iaload, 1) := by decide +kernel
theorem dL_law_903 : decode cL_law 903 = .ok (.aload_n 0, 1) := by decide +kernel
theorem dL_law_904 : decode cL_law 904 = .ok (.iload_n 3, 1) := by decide +kernel
theorem dL_law_905 : decode cL_law 905 = .ok (.iconst 2, 1) := by decide +kernel
theorem dL_law_906 : decode cL_law 906 = .ok (.iadd, 1) := by decide +kernel
theorem dL_law_907 : decode cL_law 907 = .ok (.iaload, 1) := by decide +kernel
theorem dL_law_908 : decode cL_law 908 = .ok (.aload_n 0, 1) := by decide +kernel
theorem dL_law_909 : decode cL_law 909 = .ok (.iload_n 3, 1) := by decide +kernel
theorem dL_law_910 : decode cL_law 910 = .ok (.iconst 3, 1) := by decide +kernel
theorem dL_law_911 : decode cL_law 911 = .ok (.iadd, 1) := by decide +kernel
theorem dL_law_912 : decode cL_law 912 = .ok (.iaload, 1) := by decide +kernel
theorem dL_law_913 : decode cL_law 913 = .ok (.invokevirtual 113, 3) := by decide +kernel
theorem dL_law_916 : decode cL_law 916 = .ok (.if_icmp .eq 199, 3) := by decide +kernel
theorem dL_law_919 : decode cL_law 919 = .ok (.iconst 0, 1) := by decide +kernel
theorem dL_law_920 : decode cL_law 920 = .ok (.ireturn, 1) := by decide +kernel
theorem dL_law_921 : decode cL_law 921 = .ok (.aload_n 1, 1) := by decide +kernel
theorem dL_law_922 : decode cL_law 922 = .ok (.aload_n 0, 1) := by decide +kernel
theorem dL_law_923 : decode cL_law 923 = .ok (.iload_n 3, 1) := by decide +kernel
theorem dL_law_924 : decode cL_law 924 = .ok (.iconst 1, 1) := by decide +kernel
theorem dL_law_925 : decode cL_law 925 = .ok (.iadd, 1) := by decide +kernel
theorem dL_law_926 : decode cL_law 926 = .ok (.iaload, 1) := by decide +kernel
theorem dL_law_927 : decode cL_law 927 = .ok (.invokevirtual 114, 3) := by decide +kernel
theorem dL_law_930 : decode cL_law 930 = .ok (.aload_n 2, 1) := by decide +kernel
theorem dL_law_931 : decode cL_law 931 = .ok (.aload_n 0, 1) := by decide +kernel
theorem dL_law_932 : decode cL_law 932 = .ok (.iload_n 3, 1) := by decide +kernel
theorem dL_law_933 : decode cL_law 933 = .ok (.iconst 1, 1) := by decide +kernel
theorem dL_law_934 : decode cL_law 934 = .ok (.iadd, 1) := by decide +kernel
theorem dL_law_935 : decode cL_law 935 = .ok (.iaload, 1) := by decide +kernel
theorem dL_law_936 : decode cL_law 936 = .ok (.invokevirtual 117, 3) := by decide +kernel
theorem dL_law_939 : decode cL_law 939 = .ok (.if_icmp .eq 176, 3) := by decide +kernel
theorem dL_law_942 : decode cL_law 942 = .ok (.iconst 0, 1) := by decide +kernel
theorem dL_law_943 : decode cL_law 943 = .ok (.ireturn, 1) := by decide +kernel
theorem dL_law_944 : decode cL_law 944 = .ok (.aload_n 1, 1) := by decide +kernel
theorem dL_law_945 : decode cL_law 945 = .ok (.aload_n 0, 1) := by decide +kernel
theorem dL_law_946 : decode cL_law 946 = .ok (.iload_n 3, 1) := by decide +kernel
theorem dL_law_947 : decode cL_law 947 = .ok (.iconst 1, 1) := by decide +kernel
theorem dL_law_948 : decode cL_law 948 = .ok (.iadd, 1) := by decide +kernel
theorem dL_law_949 : decode cL_law 949 = .ok (.iaload, 1) := by decide +kernel
theorem dL_law_950 : decode cL_law 950 = .ok (.invokevirtual 118, 3) := by decide +kernel
theorem dL_law_953 : decode cL_law 953 = .ok (.aload_n 2, 1) := by decide +kernel
theorem dL_law_954 : decode cL_law 954 = .ok (.aload_n 0, 1) := by decide +kernel
theorem dL_law_955 : decode cL_law 955 = .ok (.iload_n 3, 1) := by decide +kernel
theorem dL_law_956 : decode cL_law 956 = .ok (.iconst 1, 1) := by decide +kernel
theorem dL_law_957 : decode cL_law 957 = .ok (.iadd, 1) := by decide +kernel
theorem dL_law_958 : decode cL_law 958 = .ok (.iaload, 1) := by decide +kernel
theorem dL_law_959 : decode cL_law 959 = .ok (.invokevirtual 121, 3) := by decide +kernel
theorem dL_law_962 : decode cL_law 962 = .ok (.if_icmp .eq 153, 3) := by decide +kernel
theorem dL_law_965 : decode cL_law 965 = .ok (.iconst 0, 1) := by decide +kernel
theorem dL_law_966 : decode cL_law 966 = .ok (.ireturn, 1) := by decide +kernel
theorem dL_law_967 : decode cL_law 967 = .ok (.aload_n 1, 1) := by decide +kernel
theorem dL_law_968 : decode cL_law 968 = .ok (.aload_n 0, 1) := by decide +kernel
theorem dL_law_969 : decode cL_law 969 = .ok (.iload_n 3, 1) := by decide +kernel
theorem dL_law_970 : decode cL_law 970 = .ok (.iconst 1, 1) := by decide +kernel
theorem dL_law_971 : decode cL_law 971 = .ok (.iadd, 1) := by decide +kernel
theorem dL_law_972 : decode cL_law 972 = .ok (.iaload, 1) := by decide +kernel
theorem dL_law_973 : decode cL_law 973 = .ok (.invokevirtual 122, 3) := by decide +kernel
theorem dL_law_976 : decode cL_law 976 = .ok (.aload_n 2, 1) := by decide +kernel
theorem dL_law_977 : decode cL_law 977 = .ok (.aload_n 0, 1) := by decide +kernel
theorem dL_law_978 : decode cL_law 978 = .ok (.iload_n 3, 1) := by decide +kernel
theorem dL_law_979 : decode cL_law 979 = .ok (.iconst 1, 1) := by decide +kernel
theorem dL_law_980 : decode cL_law 980 = .ok (.iadd, 1) := by decide +kernel
theorem dL_law_981 : decode cL_law 981 = .ok (.iaload, 1) := by decide +kernel
theorem dL_law_982 : decode cL_law 982 = .ok (.invokevirtual 125, 3) := by decide +kernel
theorem dL_law_985 : decode cL_law 985 = .ok (.if_icmp .eq 130, 3) := by decide +kernel
theorem dL_law_988 : decode cL_law 988 = .ok (.iconst 0, 1) := by decide +kernel
theorem dL_law_989 : decode cL_law 989 = .ok (.ireturn, 1) := by decide +kernel
theorem dL_law_990 : decode cL_law 990 = .ok (.aload_n 1, 1) := by decide +kernel
theorem dL_law_991 : decode cL_law 991 = .ok (.aload_n 0, 1) := by decide +kernel
theorem dL_law_992 : decode cL_law 992 = .ok (.iload_n 3, 1) := by decide +kernel
theorem dL_law_993 : decode cL_law 993 = .ok (.iconst 1, 1) := by decide +kernel
theorem dL_law_994 : decode cL_law 994 = .ok (.iadd, 1) := by decide +kernel
theorem dL_law_995 : decode cL_law 995 = .ok (.iaload, 1) := by decide +kernel
theorem dL_law_996 : decode cL_law 996 = .ok (.aload_n 0, 1) := by decide +kernel
theorem dL_law_997 : decode cL_law 997 = .ok (.iload_n 3, 1) := by decide +kernel
theorem dL_law_998 : decode cL_law 998 = .ok (.iconst 2, 1) := by decide +kernel
theorem dL_law_999 : decode cL_law 999 = .ok (.iadd, 1) := by decide +kernel
theorem dL_law_1000 : decode cL_law 1000 = .ok (.iaload, 1) := by decide +kernel
theorem dL_law_1001 : decode cL_law 1001 = .ok (.invokevirtual 126, 3) := by decide +kernel
theorem dL_law_1004 : decode cL_law 1004 = .ok (.aload_n 2, 1) := by decide +kernel
theorem dL_law_1005 : decode cL_law 1005 = .ok (.aload_n 0, 1) := by decide +kernel
theorem dL_law_1006 : decode cL_law 1006 = .ok (.iload_n 3, 1) := by decide +kernel
theorem dL_law_1007 : decode cL_law 1007 = .ok (.iconst 1, 1) := by decide +kernel
theorem dL_law_1008 : decode cL_law 1008 = .ok (.iadd, 1) := by decide +kernel
theorem dL_law_1009 : decode cL_law 1009 = .ok (.iaload, 1) := by decide +kernel
theorem dL_law_1010 : decode cL_law 1010 = .ok (.aload_n 0, 1) := by decide +kernel
theorem dL_law_1011 : decode cL_law 1011 = .ok (.iload_n 3, 1) := by decide +kernel
theorem dL_law_1012 : decode cL_law 1012 = .ok (.iconst 2, 1) := by decide +kernel
theorem dL_law_1013 : decode cL_law 1013 = .ok (.iadd, 1) := by decide +kernel
theorem dL_law_1014 : decode cL_law 1014 = .ok (.iaload, 1) := by decide +kernel
theorem dL_law_1015 : decode cL_law 1015 = .ok (.invokevirtual 129, 3) := by decide +kernel
theorem dL_law_1018 : decode cL_law 1018 = .ok (.if_icmp .eq 97, 3) := by decide +kernel
theorem dL_law_1021 : decode cL_law 1021 = .ok (.iconst 0, 1) := by decide +kernel
theorem dL_law_1022 : decode cL_law 1022 = .ok (.ireturn, 1) := by decide +kernel
theorem dL_law_1023 : decode cL_law 1023 = .ok (.aload_n 1, 1) := by decide +kernel
theorem dL_law_1024 : decode cL_law 1024 = .ok (.aload_n 0, 1) := by decide +kernel
theorem dL_law_1025 : decode cL_law 1025 = .ok (.iload_n 3, 1) := by decide +kernel
theorem dL_law_1026 : decode cL_law 1026 = .ok (.iconst 1, 1) := by decide +kernel
theorem dL_law_1027 : decode cL_law 1027 = .ok (.iadd, 1) := by decide +kernel
theorem dL_law_1028 : decode cL_law 1028 = .ok (.iaload, 1) := by decide +kernel
theorem dL_law_1029 : decode cL_law 1029 = .ok (.aload_n 0, 1) := by decide +kernel
theorem dL_law_1030 : decode cL_law 1030 = .ok (.iload_n 3, 1) := by decide +kernel
theorem dL_law_1031 : decode cL_law 1031 = .ok (.iconst 2, 1) := by decide +kernel
theorem dL_law_1032 : decode cL_law 1032 = .ok (.iadd, 1) := by decide +kernel
theorem dL_law_1033 : decode cL_law 1033 = .ok (.iaload, 1) := by decide +kernel
theorem dL_law_1034 : decode cL_law 1034 = .ok (.invokevirtual 130, 3) := by decide +kernel
theorem dL_law_1037 : decode cL_law 1037 = .ok (.aload_n 2, 1) := by decide +kernel
theorem dL_law_1038 : decode cL_law 1038 = .ok (.aload_n 0, 1) := by decide +kernel
theorem dL_law_1039 : decode cL_law 1039 = .ok (.iload_n 3, 1) := by decide +kernel
theorem dL_law_1040 : decode cL_law 1040 = .ok (.iconst 1, 1) := by decide +kernel
theorem dL_law_1041 : decode cL_law 1041 = .ok (.iadd, 1) := by decide +kernel
theorem dL_law_1042 : decode cL_law 1042 = .ok (.iaload, 1) := by decide +kernel
theorem dL_law_1043 : decode cL_law 1043 = .ok (.aload_n 0, 1) := by decide +kernel
theorem dL_law_1044 : decode cL_law 1044 = .ok (.iload_n 3, 1) := by decide +kernel
theorem dL_law_1045 : decode cL_law 1045 = .ok (.iconst 2, 1) := by decide +kernel
theorem dL_law_1046 : decode cL_law 1046 = .ok (.iadd, 1) := by decide +kernel
theorem dL_law_1047 : decode cL_law 1047 = .ok (.iaload, 1) := by decide +kernel
theorem dL_law_1048 : decode cL_law 1048 = .ok (.invokevirtual 133, 3) := by decide +kernel
theorem dL_law_1051 : decode cL_law 1051 = .ok (.if_icmp .eq 64, 3) := by decide +kernel
theorem dL_law_1054 : decode cL_law 1054 = .ok (.iconst 0, 1) := by decide +kernel
theorem dL_law_1055 : decode cL_law 1055 = .ok (.ireturn, 1) := by decide +kernel
theorem dL_law_1056 : decode cL_law 1056 = .ok (.aload_n 1, 1) := by decide +kernel
theorem dL_law_1057 : decode cL_law 1057 = .ok (.aload_n 0, 1) := by decide +kernel
theorem dL_law_1058 : decode cL_law 1058 = .ok (.iload_n 3, 1) := by decide +kernel
theorem dL_law_1059 : decode cL_law 1059 = .ok (.iconst 1, 1) := by decide +kernel
theorem dL_law_1060 : decode cL_law 1060 = .ok (.iadd, 1) := by decide +kernel
theorem dL_law_1061 : decode cL_law 1061 = .ok (.iaload, 1) := by decide +kernel
theorem dL_law_1062 : decode cL_law 1062 = .ok (.invokevirtual 134, 3) := by decide +kernel
theorem dL_law_1065 : decode cL_law 1065 = .ok (.aload_n 2, 1) := by decide +kernel
theorem dL_law_1066 : decode cL_law 1066 = .ok (.aload_n 0, 1) := by decide +kernel
theorem dL_law_1067 : decode cL_law 1067 = .ok (.iload_n 3, 1) := by decide +kernel
theorem dL_law_1068 : decode cL_law 1068 = .ok (.iconst 1, 1) := by decide +kernel
theorem dL_law_1069 : decode cL_law 1069 = .ok (.iadd, 1) := by decide +kernel
theorem dL_law_1070 : decode cL_law 1070 = .ok (.iaload, 1) := by decide +kernel
theorem dL_law_1071 : decode cL_law 1071 = .ok (.invokevirtual 137, 3) := by decide +kernel
theorem dL_law_1074 : decode cL_law 1074 = .ok (.if_icmp .eq 41, 3) := by decide +kernel
theorem dL_law_1077 : decode cL_law 1077 = .ok (.iconst 0, 1) := by decide +kernel
theorem dL_law_1078 : decode cL_law 1078 = .ok (.ireturn, 1) := by decide +kernel
theorem dL_law_1079 : decode cL_law 1079 = .ok (.aload_n 1, 1) := by decide +kernel
theorem dL_law_1080 : decode cL_law 1080 = .ok (.aload_n 0, 1) := by decide +kernel
theorem dL_law_1081 : decode cL_law 1081 = .ok (.iload_n 3, 1) := by decide +kernel
theorem dL_law_1082 : decode cL_law 1082 = .ok (.iconst 1, 1) := by decide +kernel
theorem dL_law_1083 : decode cL_law 1083 = .ok (.iadd, 1) := by decide +kernel
theorem dL_law_1084 : decode cL_law 1084 = .ok (.iaload, 1) := by decide +kernel
theorem dL_law_1085 : decode cL_law 1085 = .ok (.invokevirtual 138, 3) := by decide +kernel
theorem dL_law_1088 : decode cL_law 1088 = .ok (.aload_n 2, 1) := by decide +kernel
theorem dL_law_1089 : decode cL_law 1089 = .ok (.aload_n 0, 1) := by decide +kernel
theorem dL_law_1090 : decode cL_law 1090 = .ok (.iload_n 3, 1) := by decide +kernel
theorem dL_law_1091 : decode cL_law 1091 = .ok (.iconst 1, 1) := by decide +kernel
theorem dL_law_1092 : decode cL_law 1092 = .ok (.iadd, 1) := by decide +kernel
theorem dL_law_1093 : decode cL_law 1093 = .ok (.iaload, 1) := by decide +kernel
theorem dL_law_1094 : decode cL_law 1094 = .ok (.invokevirtual 141, 3) := by decide +kernel
theorem dL_law_1097 : decode cL_law 1097 = .ok (.if_icmp .eq 18, 3) := by decide +kernel
theorem dL_law_1100 : decode cL_law 1100 = .ok (.iconst 0, 1) := by decide +kernel
theorem dL_law_1101 : decode cL_law 1101 = .ok (.ireturn, 1) := by decide +kernel
theorem dL_law_1102 : decode cL_law 1102 = .ok (.aload_n 1, 1) := by decide +kernel
theorem dL_law_1103 : decode cL_law 1103 = .ok (.invokevirtual 142, 3) := by decide +kernel
theorem dL_law_1106 : decode cL_law 1106 = .ok (.aload_n 2, 1) := by decide +kernel
theorem dL_law_1107 : decode cL_law 1107 = .ok (.invokevirtual 145, 3) := by decide +kernel
theorem dL_law_1110 : decode cL_law 1110 = .ok (.if_icmp .eq 5, 3) := by decide +kernel
theorem dL_law_1113 : decode cL_law 1113 = .ok (.iconst 0, 1) := by decide +kernel
theorem dL_law_1114 : decode cL_law 1114 = .ok (.ireturn, 1) := by decide +kernel
theorem dL_law_1115 : decode cL_law 1115 = .ok (.iinc 3 6, 3) := by decide +kernel
theorem dL_law_1118 : decode cL_law 1118 = .ok (.goto (-1100), 3) := by decide +kernel
theorem dL_law_1121 : decode cL_law 1121 = .ok (.iconst 1, 1) := by decide +kernel
theorem dL_law_1122 : decode cL_law 1122 = .ok (.ireturn, 1) := by decide +kernel
end
section
/-- the words that every method is given: all of the tables that outlive a step -/
def zWs : List Cond := lw_tbl.filter goodWord
theorem zWs_at {w : Cond} (i : Nat) (h : lw_tbl[i]? = some w) (g : goodWord w = true) : w ∈ zWs := List.mem_filter.mpr ⟨List.mem_of_getElem? h, g⟩
theorem zWs_r (ws : List Cond) (ps : List Nat) (hp : ws = ps.filterMap (fun i => lw_tbl[i]?)) (g : ws.all goodWord = true) : ∀ w ∈ ws, w ∈ zWs := by
  intro w hw
  have h1 := List.all_eq_true.mp g w hw
  rw [hp] at hw
  obtain ⟨i, -, hi⟩ := List.mem_filterMap.mp hw
  exact zWs_at i hi h1
theorem zWs_good {w : Cond} (h : w ∈ zWs) : w ∈ lw_tbl ∧ ((w.onTables && w.keeps) = true ∨ ∃ ty, w = .arrayClass ty) := ⟨(List.mem_filter.mp h).1, good_of_word (List.mem_filter.mp h).2⟩
/-! ===== the abstract machine: the cells by their numbers (cell k lies at h0 + k), the ints of all cells as one function ===== -/
abbrev zE : Type := va_G × (Nat → ClassId) × Nat × (Nat → Nat)
abbrev zF : Type := Nat → Nat → Int32
abbrev zS : Type := Nat × Nat × (Nat → Nat × Nat) × (Nat → Nat → Option Nat) × zF
abbrev zMt : Type := MethodName × ByteArray × Nat × Option FieldType × Nat
abbrev zX : Type := Program × Launch × Env × Room × State × MethodId × Array Value × List Frame × Method × Code × zE × Nat × Nat × (State → Prop)
def zad (E : zE) (k : Nat) : Nat := if k < 1000 then E.2.2.1 + k else E.2.2.2 (k - 1000)
def zv (E : zE) : Value → Value
  | .ref k => .ref (zad E k)
  | v => v
def zft : Nat → List Bool
  | 0 => [true, true, true, false, false]
  | 1 => [true, false]
  | 2 => [false, false, false, true, true, true, true, true]
  | 3 => [true, true, false, false, false]
  | 4 => [true, false, false]
  | 5 => [true, false, false, false, false]
  | 6 => [true, true, true, true, true, true, false]
  | 7 => [false, false, true, true, true, true, true, true, false, true, false, false, false, false, false, false, false, false, false, false, false, true, true, true, false]
  | _ => []
def zfs (E : zE) (S : zS) (k c : Nat) : List Value := (List.range (zft c).length).map (fun j => if (zft c).getD j false = true then va_rf ((S.2.2.2.1 k j).map (zad E)) else .int (S.2.2.2.2 k j))
def zcel (E : zE) (S : zS) (k : Nat) : va_E :=
  if (S.2.2.1 k).1 < 8 then .inr ((S.2.2.1 k).1, zfs E S k (S.2.2.1 k).1)
  else if (S.2.2.1 k).1 < 10 then .inl (E.2.1 ((S.2.2.1 k).1 - 8), ((S.2.2.1 k).2, .inl (S.2.2.2.2 k)))
  else .inl (E.2.1 ((S.2.2.1 k).1 - 8), ((S.2.2.1 k).2, .inr (.inr (.inr (.inr (fun j => (S.2.2.2.1 k j).map (zad E)))))))
def zws (E : zE) (S : zS) : va_W := (List.range S.1).map (fun k => (E.2.2.1 + k, zcel E S k))
def zA (E : zE) : Nat → Prop := fun q => E.2.2.1 ≤ q
def ztys (E : zE) : List (ClassId × FieldType) := [(E.2.1 0, .int), (E.2.1 1, .boolean), (E.2.1 2, .object "LightSheets$Page"), (E.2.1 3, .object "LightSheets$Row")]
def zup {α : Type} (f : Nat → Nat → α) (k j : Nat) (v : α) : Nat → Nat → α := fun a b => if a = k ∧ b = j then v else f a b
theorem zcel_o {E : zE} {S : zS} {k c : Nat} (h : (S.2.2.1 k).1 = c) (hc : c < 8) : zcel E S k = .inr (c, zfs E S k c) := by
  subst h
  simp [zcel, hc]
theorem zcel_i {E : zE} {S : zS} {k c n : Nat} (h : S.2.2.1 k = (c + 8, n)) (hc : c < 2) : zcel E S k = .inl (E.2.1 c, (n, .inl (S.2.2.2.2 k))) := by
  simp [zcel, h, show c + 8 < 10 by omega]
theorem zcel_q {E : zE} {S : zS} {k c n : Nat} (h : S.2.2.1 k = (c + 10, n)) : zcel E S k = .inl (E.2.1 (c + 2), (n, .inr (.inr (.inr (.inr (fun j => (S.2.2.2.1 k j).map (zad E))))))) := by
  simp [zcel, h, show ¬ c + 10 < 8 by omega, show ¬ c + 10 < 10 by omega]
theorem zws_at {E : zE} {S : zS} {k : Nat} (hk : k < S.1) : (zws E S)[k]? = some (E.2.2.1 + k, zcel E S k) := by
  simp [zws, List.getElem?_map, List.getElem?_range hk]
theorem zws_get {E : zE} {S : zS} {i : Nat} {q : Nat × va_E} (h : (zws E S)[i]? = some q) : i < S.1 ∧ q = (E.2.2.1 + i, zcel E S i) := by
  by_cases hi : i < S.1
  · rw [zws_at hi] at h
    exact ⟨hi, (Option.some.inj h).symm⟩
  · have : (zws E S)[i]? = none := List.getElem?_eq_none (by simp [zws]; omega)
    rw [this] at h
    cases h
theorem zws_D (E : zE) (S : zS) : va_D (zA E) (zws E S) := by
  refine ⟨fun i j p q hi hj e => ?_, fun k q hk => ?_⟩
  · obtain ⟨-, rfl⟩ := zws_get hi
    obtain ⟨-, rfl⟩ := zws_get hj
    have e2 : E.2.2.1 + i = E.2.2.1 + j := e
    omega
  · obtain ⟨-, rfl⟩ := zws_get hk
    exact Nat.le_add_right _ _
theorem zws_set {E : zE} {S S' : zS} {k : Nat} {x : va_E} (hn : S'.1 = S.1) (hx : x = zcel E S' k) (ho : ∀ q, q ≠ k → zcel E S' q = zcel E S q) : (zws E S).set k (E.2.2.1 + k, x) = zws E S' := by
  subst hx
  apply List.ext_getElem?
  intro i
  rw [List.getElem?_set]
  by_cases h : k = i
  · subst h
    rw [if_pos rfl]
    by_cases hk : k < S.1
    · rw [if_pos (by simp [zws]; exact hk), zws_at (by rw [hn]; exact hk)]
    · rw [if_neg (by simp [zws]; omega), List.getElem?_eq_none (by simp [zws]; omega)]
  · rw [if_neg h]
    by_cases hi : i < S.1
    · rw [zws_at hi, zws_at (by rw [hn]; exact hi), ho i (Ne.symm h)]
    · rw [List.getElem?_eq_none (by simp [zws]; omega), List.getElem?_eq_none (by simp [zws]; omega)]
theorem zup_ne {α : Type} {f : Nat → Nat → α} {k j : Nat} {v : α} {q : Nat} (h : q ≠ k) : zup f k j v q = f q := by
  funext b
  simp [zup, h]
theorem zup_eq {α : Type} {f : Nat → Nat → α} {k j : Nat} {v : α} : zup f k j v k = fun b => if b = j then v else f k b := by
  funext b
  simp [zup]
def zset (S : zS) (k j : Nat) (v : Int32) : zS := (S.1, S.2.1, S.2.2.1, S.2.2.2.1, zup S.2.2.2.2 k j v)
def zsetr (S : zS) (k j : Nat) (v : Option Nat) : zS := (S.1, S.2.1, S.2.2.1, zup S.2.2.2.1 k j v, S.2.2.2.2)
theorem zcel_ne {E : zE} {S : zS} {k j : Nat} {v : Int32} {q : Nat} (h : q ≠ k) : zcel E (zset S k j v) q = zcel E S q := by
  simp only [zcel, zset, zfs, zup_ne h]
theorem zcel_neR {E : zE} {S : zS} {k j : Nat} {v : Option Nat} {q : Nat} (h : q ≠ k) : zcel E (zsetr S k j v) q = zcel E S q := by
  simp only [zcel, zsetr, zfs, zup_ne h]
/-- a field of ints is written -/
theorem zfs_set {E : zE} {S : zS} {k c j : Nat} {v : Int32} (hj : (zft c).getD j false = false) : (zfs E S k c).set j (.int v) = zfs E (zset S k j v) k c := by
  apply List.ext_getElem?
  intro i
  rw [List.getElem?_set]
  by_cases h : j = i
  · subst h
    rw [if_pos rfl]
    by_cases hk : j < (zft c).length
    · rw [if_pos (by simp [zfs]; exact hk)]
      simp only [zfs, List.getElem?_map, List.getElem?_range hk, Option.map_some, hj, zset, zup_eq]
      simp
    · rw [if_neg (by simp [zfs]; omega), List.getElem?_eq_none (by simp [zfs]; omega)]
  · rw [if_neg h]
    by_cases hi : i < (zft c).length
    · simp only [zfs, List.getElem?_map, List.getElem?_range hi, Option.map_some, zset, zup_eq, if_neg (Ne.symm h)]
    · rw [List.getElem?_eq_none (by simp [zfs]; omega), List.getElem?_eq_none (by simp [zfs]; omega)]
/-- a field of references is written -/
theorem zfs_setR {E : zE} {S : zS} {k c j : Nat} {v : Option Nat} (hj : (zft c).getD j false = true) : (zfs E S k c).set j (va_rf (v.map (zad E))) = zfs E (zsetr S k j v) k c := by
  apply List.ext_getElem?
  intro i
  rw [List.getElem?_set]
  by_cases h : j = i
  · subst h
    rw [if_pos rfl]
    by_cases hk : j < (zft c).length
    · rw [if_pos (by simp [zfs]; exact hk)]
      simp only [zfs, List.getElem?_map, List.getElem?_range hk, Option.map_some, hj, zsetr, zup_eq]
      simp
    · rw [if_neg (by simp [zfs]; omega), List.getElem?_eq_none (by simp [zfs]; omega)]
  · rw [if_neg h]
    by_cases hi : i < (zft c).length
    · simp only [zfs, List.getElem?_map, List.getElem?_range hi, Option.map_some, zsetr, zup_eq, if_neg (Ne.symm h)]
    · rw [List.getElem?_eq_none (by simp [zfs]; omega), List.getElem?_eq_none (by simp [zfs]; omega)]
theorem zfs_at {E : zE} {S : zS} {k c j : Nat} (hj : j < (zft c).length) : (zfs E S k c)[j]? = some (if (zft c).getD j false = true then va_rf ((S.2.2.2.1 k j).map (zad E)) else .int (S.2.2.2.2 k j)) := by
  simp only [zfs, List.getElem?_map, List.getElem?_range hj, Option.map_some]
/-- what is known of the tables: classes, arrays, nest mates, String constants -/
def zIsNest : Cond → Bool
  | .methodLinkNest .. => true
  | _ => false
def zNw : List Cond := lw_tbl.filter zIsNest
def zStr : List (String × Nat × String × Nat) := [("LightSheets$PageReader", 45, "law", 0), ("LightSheets$PageReader", 65, "letter", 1), ("LightSheets$PageReader", 87, "plain", 2), ("LightSheets$PageReader", 89, "bold", 3), ("LightSheets$PageReader", 91, "thin", 4), ("LightSheets$PageReader", 93, "mark", 5), ("LightSheets$PageReader", 95, "dry", 6), ("LightSheets$PageReader", 97, "sheet", 7)]
def zLen : List Nat := [3, 6, 5, 4, 4, 4, 3, 5]
def zByt : List (List Int32) := [[108, 97, 119], [108, 101, 116, 116, 101, 114], [112, 108, 97, 105, 110], [98, 111, 108, 100], [116, 104, 105, 110], [109, 97, 114, 107], [100, 114, 121], [115, 104, 101, 101, 116]]
def zK (E : zE) (U : State) : Prop := va_K E.1 vwCl (ztys E) U ∧ (∀ w ∈ zNw, va_Nw w U) ∧ (∀ r ∈ zStr, vk_R r.1 r.2.1 r.2.2.1 (E.2.2.2 r.2.2.2) U) ∧ va_AO "LightSheets$Page" U ∧ va_AO "LightSheets$Row" U
/-- what lies outside our cells and is never written -/
def zKh (E : zE) (U : State) (H : Heap) : Prop := vk_S 8 zLen zByt (fun i => E.2.2.2 i) (fun i => E.2.2.2 (100 + i)) (zA E) U H ∧ va_Z "java/lang/String" "COMPACT_STRINGS" "Z" (.int 1) (zA E) U H ∧ (∃ v, (v = .null ∨ v = .ref (E.2.2.2 300)) ∧ va_Z "jdk/internal/util/Preconditions" "SIOOBE_FORMATTER" "Ljava/util/function/BiFunction;" v (zA E) U H)
def zWp (E : zE) (S : zS) (U : State) : Prop := U.heap.size = E.2.2.1 + S.1 ∧ va_P E.1 vwCl (zws E S) U.heap ∧ zK E U ∧ zKh E U U.heap
theorem zNest_of {w : Cond} (h : zIsNest w = true) : ∃ a i x b, w = .methodLinkNest a i x b := by
  cases w <;> first | exact ⟨_, _, _, _, rfl⟩ | (simp [zIsNest] at h)
theorem zK.warm {E : zE} {s U : State} (hW : s.WarmedH U.vm) (h : zK E s) : zK E U := by
  obtain ⟨h1, h2, h3, h4, h5⟩ := h
  refine ⟨va_K.moved hW.alike h1, fun w hw => ?_, fun r hr => vk_R.warm hW (h3 r hr), va_AO.moved hW.alike h4, va_AO.moved hW.alike h5⟩
  have h6 := h2 w hw
  obtain ⟨a, i, x, b, rfl⟩ := zNest_of (List.mem_filter.mp hw).2
  exact va_Nw.warmM hW h6
theorem zK.same {E : zE} {u U : State} (hv : u.vm = U.vm) (h : zK E u) : zK E U := by
  obtain ⟨h1, h2, h3, h4, h5⟩ := h
  have ha : u.vm.Alike U.vm := by rw [hv]; exact Vm.Alike.refl _
  refine ⟨va_K.moved ha h1, fun w hw => ?_, fun r hr => vk_R.same hv.symm (h3 r hr), va_AO.moved ha h4, va_AO.moved ha h5⟩
  have h6 := h2 w hw
  obtain ⟨a, i, x, b, rfl⟩ := zNest_of (List.mem_filter.mp hw).2
  exact va_Nw.same rfl hv h6
theorem zKh.moved {E : zE} {u U : State} {H H1 : Heap} (hvm : u.vm.Alike U.vm) (h : zKh E u H) (hq : ∀ a : Nat, a < H.size → ¬ zA E a → H1[a]? = H[a]?) : zKh E U H1 := by
  obtain ⟨h1, h2, v, h3, h4⟩ := h
  exact ⟨(vk_S.moved hvm h1).kept hq, (va_Z.moved hvm h2).kept hq, v, h3, (va_Z.moved hvm h4).kept hq⟩
def zPc (E : zE) (av : List Value) (S : zS) : Array Value → State → Prop := va_Pc (av.map (zv E)) (fun U => zWp E S U)
def zQc (E : zE) (Rt : Option Value → zS → Prop) : Array Value → State → Outcome → State → Prop := fun _ st o t => (∃ v S', Rt v S' ∧ o = .returned (v.map (zv E)) ∧ va_P E.1 vwCl (zws E S') t.heap) ∧ va_F (zA E) st t
theorem zPc_blind (E : zE) (av : List Value) (S : zS) : FrameBlind (zPc E av S) := by
  intro a U g mk q
  obtain ⟨q1, q2, q3, q4, q5⟩ := q
  exact ⟨q1, q2, q3, zK.same (u := U) (U := U.calling g mk a) rfl q4, zKh.moved (u := U) (U := U.calling g mk a) (Vm.Alike.refl U.vm) q5 (fun _ _ _ => rfl)⟩
/-- a method's contract: from the cells S with these arguments it comes to an answer and cells with Rt -/
def zM (M : zMt) (mc ms : Nat) (av : List Value) (S : zS) (Rt : Option Value → zS → Prop) : Prop := ∀ (l : Launch) (E : zE), Met l M.1 (.code M.1 M.2.1 M.2.2.1 M.2.2.2.1 :: zWs) { frames := M.2.2.2.2, cells := mc, slots := ms, locals := 28 * M.2.2.2.2 } (zPc E av S) (zQc E Rt) mc ms (zA E)
def zOK (p : Program) (R : Room) (s : State) (m : MethodId) (args : Array Value) (meth : Method) (c : Code) (E : zE) (n0 : Nat) (M : zMt) : Prop := p.tables.exec = Jvm.exec ∧ c.code = M.2.1 ∧ c.maxLocals = M.2.2.1 ∧ s.vm.findClass M.1.cls = some m.cls ∧ (∀ w ∈ zWs, w.before args s = true) ∧ meth.sig.returnType = M.2.2.2.1 ∧ meth.locks = false ∧ meth.name = M.1.name ∧ M.2.2.2.2 ≤ R.frames ∧ 28 * M.2.2.2.2 ≤ R.locals ∧ zK E s ∧ zKh E s s.heap ∧ s.heap.size = E.2.2.1 + n0
/-- the machine at an instruction of M, with these locals, this stack and these cells, comes to an end -/
def Z (X : zX) (M : zMt) (pc : Nat) (lv : List (Nat × Value)) (st : List Value) (S : zS) : Prop :=
  match X with
  | (p, l, e, R, s, m, args, below, meth, c, E, n0, z0, Q) =>
    zOK p R s m args meth c E n0 M → (n0 ≤ S.1 ∧ z0 ≤ S.2.1 ∧ S.1 ≤ n0 + R.cells ∧ S.2.1 ≤ z0 + R.slots ∧ S.1 ≤ 1000) →
    ∀ (H : Heap) (locs : List Loc) (ls : Array Slot), va_P E.1 vwCl (zws E S) H → va_S (zA E) s.heap H locs → lv_has ls M.2.2.1 (lv.map (fun q => (q.1, zv E q.2))) →
    W p l e R s m args below meth c H locs (S.1 - n0) (S.2.1 - z0) Q (F0 m pc ls (st.map (zv E)))
def zR (X : zX) (n0 z0 mc ms : Nat) (Rt : Option Value → zS → Prop) : Prop :=
  match X with
  | (_, _, _, R, s, _, args, below, _, _, E, n1, z1, Q) => n1 = n0 ∧ z1 = z0 ∧ R.cells = mc ∧ R.slots = ms ∧ Q = MQ below (zQc E Rt) args s mc ms (zA E)
theorem zv_cat (E : zE) (v : Value) : (zv E v).category = v.category := by cases v <;> rfl
theorem zcats (E : zE) (st : List Value) : ((st.map (zv E)).map fun v => v.category).sum = (st.map fun v => v.category).sum := by
  rw [List.map_map]
  congr 1
  apply List.map_congr_left
  intro v _
  exact zv_cat E v
theorem zslen (E : zE) : ∀ av : List Value, (lg_sl (av.map (zv E))).length = (lg_sl av).length
  | [] => rfl
  | v :: av => by
    have ih := zslen E av
    simp only [lg_sl] at ih ⊢
    simp only [List.map_cons, List.flatMap_cons, List.length_append, ih, zv_cat]
    by_cases h : v.category = 2 <;> simp [h]
theorem zargs (E : zE) : ∀ (av : List Value) (i : Nat), lv_args i (av.map (zv E)) = (lv_args i av).map (fun q => (q.1, zv E q.2))
  | [], _ => rfl
  | v :: av, i => by
    simp only [List.map_cons, lv_args, zv_cat, zargs E av]
/-- a contract out of the walk of the body -/
theorem zM_of {M : zMt} {mc ms : Nat} {av : List Value} {S : zS} {Rt : Option Value → zS → Prop} (hy : plainName M.1.cls = true) (hlen : (lg_sl av).length ≤ M.2.2.1) (hS : S.1 ≤ 1000) (h : ∀ X, zR X S.1 S.2.1 mc ms Rt → Z X M 0 (lv_args 0 av) [] S) : zM M mc ms av S Rt := by
  intro l E
  refine Met.ofW (cc := M.2.1) (maxL := M.2.2.1) (ret := M.2.2.2.1) hy rfl ?_
  intro p e s m args below meth c s₁ B hml hv
  obtain ⟨rfl, hsz, hP, hK, hKh⟩ := hv
  have hts := atoms_spec (ws := Cond.code M.1 M.2.1 M.2.2.1 M.2.2.2.1 :: zWs) B.pre
  have hown : s.vm.findClass M.1.cls = some m.cls := findClass_of_methodNamed B.named
  have hin : meth.name = M.1.name := (name_of_methodNamed B.named B.method).1
  have key := h (p, l, e, { frames := M.2.2.2.2, cells := mc, slots := ms, locals := 28 * M.2.2.2.2 }, s, m, (av.map (zv E)).toArray, below, meth, c, E, S.1, S.2.1, MQ below (zQc E Rt) (av.map (zv E)).toArray s mc ms (zA E)) ⟨rfl, rfl, rfl, rfl, rfl⟩
  have hl := lv_entry (av.map (zv E)) (n := M.2.2.1) (by rw [zslen]; exact hlen)
  rw [zargs] at hl
  rw [lg_entry_eq]
  generalize (lg_sl (av.map (zv E)) ++ List.replicate (M.2.2.1 - (lg_sl (av.map (zv E))).length) Slot.unset).toArray = ls at hl ⊢
  have key2 := key ⟨B.exec, B.bytes, hml, hown, fun w hw => hts w (List.mem_cons_of_mem _ hw), B.returns, B.notSynchronized, hin, Nat.le_refl _, Nat.le_refl _, hK, hKh, hsz⟩ ⟨Nat.le_refl _, Nat.le_refl _, Nat.le_add_right _ _, Nat.le_add_right _ _, hS⟩ s.heap [] ls hP va_S.rf hl
  rw [Nat.sub_self, Nat.sub_self] at key2
  exact key2
/-- how large the heap is, at any point of a walk -/
theorem zsize {p : Program} {l : Launch} {e : Env} {R : Room} {s : State} {m : MethodId} {args : Array Value} {below : List Frame} {meth : Method} {c : Code} {T : State} {locs : List Loc} {E : zE} {n0 : Nat} {S : zS} {slots : Nat} (X : Stand p l e R s m args below meth c T locs (S.1 - n0) slots) (hs : s.heap.size = E.2.2.1 + n0) (hn : n0 ≤ S.1) (hP : va_P E.1 vwCl (zws E S) T.heap) (hS : va_S (zA E) s.heap T.heap locs) : T.heap.size = E.2.2.1 + S.1 := by
  have h1 : T.heap.size ≤ s.heap.size + (S.1 - n0) := X.same.2.2.1
  have h2 := hS.1
  rcases Nat.lt_or_ge n0 S.1 with h | h
  · have h3 := (hP (S.1 - 1) _ (zws_at (by omega))).lt
    have h4 : E.2.2.1 + (S.1 - 1) < T.heap.size := h3
    omega
  · omega
theorem zad_lt {E : zE} {k : Nat} (h : k < 1000) : zad E k = E.2.2.1 + k := by simp [zad, h]
end
section
/-! ===== the rules: an instruction a row, over the abstract machine ===== -/
def zl : List (Nat × Value) → Nat → Option Value
  | [], _ => none
  | q :: r, i => match Nat.beq q.1 i with
    | true => some q.2
    | false => zl r i
theorem zl_mem : ∀ {lv : List (Nat × Value)} {i : Nat} {v : Value}, zl lv i = some v → (i, v) ∈ lv
  | [], _, _, h => by cases h
  | q :: r, i, v, h => by
    unfold zl at h
    split at h
    next hb =>
      have e := Nat.eq_of_beq_eq_true hb
      cases h
      rw [← e]
      exact List.mem_cons_self
    next => exact List.mem_cons_of_mem _ (zl_mem h)
theorem zl_has {E : zE} {ls : Array Slot} {nL : Nat} {lv : List (Nat × Value)} {i : Nat} {v : Value} (h : lv_has ls nL (lv.map (fun q => (q.1, zv E q.2)))) (hl : zl lv i = some v) : ls[i]? = some (.val (zv E v)) := h.2.2 (i, zv E v) (List.mem_map.mpr ⟨(i, v), zl_mem hl, rfl⟩)
def zrm (i : Nat) : List (Nat × Value) → List (Nat × Value)
  | [] => []
  | q :: r => match Nat.beq q.1 i || (Nat.beq (q.1 + 1) i && Nat.beq q.2.category 2) with
    | true => zrm i r
    | false => q :: zrm i r
def zst (lv : List (Nat × Value)) (i : Nat) (v : Value) : List (Nat × Value) := (i, v) :: zrm i lv
def zst2 (lv : List (Nat × Value)) (i : Nat) (v : Value) : List (Nat × Value) := (i, v) :: zrm i (zrm (i + 1) lv)
theorem zrm_mem {i : Nat} : ∀ {lv : List (Nat × Value)} {q : Nat × Value}, q ∈ zrm i lv → q ∈ lv ∧ q.1 ≠ i ∧ ¬ (q.1 + 1 = i ∧ q.2.category = 2)
  | [], _, h => by cases h
  | a :: r, q, h => by
    unfold zrm at h
    split at h
    next =>
      have h2 := zrm_mem h
      exact ⟨List.mem_cons_of_mem _ h2.1, h2.2⟩
    next hb =>
      rcases List.mem_cons.mp h with rfl | h
      · refine ⟨List.mem_cons_self, fun e => ?_, fun e => ?_⟩
        · simp [e] at hb
        · simp [e.1, e.2] at hb
      · have h2 := zrm_mem h
        exact ⟨List.mem_cons_of_mem _ h2.1, h2.2⟩
theorem zst_has {E : zE} {ls : Array Slot} {nL : Nat} {lv : List (Nat × Value)} {i : Nat} {v : Value} (h : lv_has ls nL ((i, zv E v) :: (lv.map (fun q => (q.1, zv E q.2))).filter (fun q => !(q.1 == i) && !(q.1 + 1 == i && q.2.category == 2)))) : lv_has ls nL ((zst lv i v).map (fun q => (q.1, zv E q.2))) := by
  refine ⟨h.1, h.2.1, fun q hq => h.2.2 q ?_⟩
  obtain ⟨q0, h0, rfl⟩ := List.mem_map.mp hq
  rcases List.mem_cons.mp h0 with rfl | h0
  · exact List.mem_cons_self
  · obtain ⟨a, b, d⟩ := zrm_mem h0
    refine List.mem_cons_of_mem _ (List.mem_filter.mpr ⟨List.mem_map.mpr ⟨q0, a, rfl⟩, ?_⟩)
    simp only [zv_cat]
    simp only [Bool.and_eq_true, Bool.not_eq_true', beq_eq_false_iff_ne, ne_eq, Bool.and_eq_false_iff]
    refine ⟨b, ?_⟩
    by_cases e : q0.1 + 1 = i
    · exact Or.inr (fun z => d ⟨e, z⟩)
    · exact Or.inl e
theorem zst2_has {E : zE} {ls : Array Slot} {nL : Nat} {lv : List (Nat × Value)} {i : Nat} {v : Value} (h : lv_has ls nL ((i, zv E v) :: (lv.map (fun q => (q.1, zv E q.2))).filter (fun q => !(q.1 == i) && (!(q.1 == i + 1) && !(q.1 + 1 == i && q.2.category == 2))))) : lv_has ls nL ((zst2 lv i v).map (fun q => (q.1, zv E q.2))) := by
  refine ⟨h.1, h.2.1, fun q hq => h.2.2 q ?_⟩
  obtain ⟨q0, h0, rfl⟩ := List.mem_map.mp hq
  rcases List.mem_cons.mp h0 with rfl | h0
  · exact List.mem_cons_self
  · obtain ⟨a, b, d⟩ := zrm_mem h0
    obtain ⟨a2, b2, d2⟩ := zrm_mem a
    refine List.mem_cons_of_mem _ (List.mem_filter.mpr ⟨List.mem_map.mpr ⟨q0, a2, rfl⟩, ?_⟩)
    simp only [zv_cat]
    simp only [Bool.and_eq_true, Bool.not_eq_true', beq_eq_false_iff_ne, ne_eq, Bool.and_eq_false_iff]
    refine ⟨b, b2, ?_⟩
    by_cases e : q0.1 + 1 = i
    · exact Or.inr (fun z => d ⟨e, z⟩)
    · exact Or.inl e
section ZR1
variable {X : zX} {M : zMt} {pc : Nat} {lv lv' : List (Nat × Value)} {st : List Value} {S : zS}
theorem z_iadd {x y : Int32} (hd : decode M.2.1 pc = .ok (.iadd, 1))  (k : Z X M (pc + 1) lv (.int (x + y) :: st) S) : Z X M pc lv (.int y :: .int x :: st) S := by
  obtain ⟨p, l, e, R, s, m, args, below, meth, c, E, n0, z0, Q⟩ := X
  intro ok cap H locs ls hP hS hl
  exact lv_iadd ok.1 ok.2.1 hd (k ok cap H locs ls hP hS hl)
theorem z_isub {x y : Int32} (hd : decode M.2.1 pc = .ok (.isub, 1))  (k : Z X M (pc + 1) lv (.int (x - y) :: st) S) : Z X M pc lv (.int y :: .int x :: st) S := by
  obtain ⟨p, l, e, R, s, m, args, below, meth, c, E, n0, z0, Q⟩ := X
  intro ok cap H locs ls hP hS hl
  exact lv_isub ok.1 ok.2.1 hd (k ok cap H locs ls hP hS hl)
theorem z_imul {x y : Int32} (hd : decode M.2.1 pc = .ok (.imul, 1))  (k : Z X M (pc + 1) lv (.int (x * y) :: st) S) : Z X M pc lv (.int y :: .int x :: st) S := by
  obtain ⟨p, l, e, R, s, m, args, below, meth, c, E, n0, z0, Q⟩ := X
  intro ok cap H locs ls hP hS hl
  exact lv_imul ok.1 ok.2.1 hd (k ok cap H locs ls hP hS hl)
theorem z_iand {x y : Int32} (hd : decode M.2.1 pc = .ok (.iand, 1))  (k : Z X M (pc + 1) lv (.int (x &&& y) :: st) S) : Z X M pc lv (.int y :: .int x :: st) S := by
  obtain ⟨p, l, e, R, s, m, args, below, meth, c, E, n0, z0, Q⟩ := X
  intro ok cap H locs ls hP hS hl
  exact lv_iand ok.1 ok.2.1 hd (k ok cap H locs ls hP hS hl)
theorem z_ior {x y : Int32} (hd : decode M.2.1 pc = .ok (.ior, 1))  (k : Z X M (pc + 1) lv (.int (x ||| y) :: st) S) : Z X M pc lv (.int y :: .int x :: st) S := by
  obtain ⟨p, l, e, R, s, m, args, below, meth, c, E, n0, z0, Q⟩ := X
  intro ok cap H locs ls hP hS hl
  exact lv_ior ok.1 ok.2.1 hd (k ok cap H locs ls hP hS hl)
theorem z_ixor {x y : Int32} (hd : decode M.2.1 pc = .ok (.ixor, 1))  (k : Z X M (pc + 1) lv (.int (x ^^^ y) :: st) S) : Z X M pc lv (.int y :: .int x :: st) S := by
  obtain ⟨p, l, e, R, s, m, args, below, meth, c, E, n0, z0, Q⟩ := X
  intro ok cap H locs ls hP hS hl
  exact lv_ixor ok.1 ok.2.1 hd (k ok cap H locs ls hP hS hl)
theorem z_ishl {x y : Int32} (hd : decode M.2.1 pc = .ok (.ishl, 1))  (k : Z X M (pc + 1) lv (.int (x <<< (y &&& 31)) :: st) S) : Z X M pc lv (.int y :: .int x :: st) S := by
  obtain ⟨p, l, e, R, s, m, args, below, meth, c, E, n0, z0, Q⟩ := X
  intro ok cap H locs ls hP hS hl
  exact lv_ishl ok.1 ok.2.1 hd (k ok cap H locs ls hP hS hl)
theorem z_ishr {x y : Int32} (hd : decode M.2.1 pc = .ok (.ishr, 1))  (k : Z X M (pc + 1) lv (.int (x >>> (y &&& 31)) :: st) S) : Z X M pc lv (.int y :: .int x :: st) S := by
  obtain ⟨p, l, e, R, s, m, args, below, meth, c, E, n0, z0, Q⟩ := X
  intro ok cap H locs ls hP hS hl
  exact lv_ishr ok.1 ok.2.1 hd (k ok cap H locs ls hP hS hl)
theorem z_iushr {x y : Int32} (hd : decode M.2.1 pc = .ok (.iushr, 1))  (k : Z X M (pc + 1) lv (.int ((x.toUInt32 >>> (y.toUInt32 &&& Int32.toUInt32 31)).toInt32) :: st) S) : Z X M pc lv (.int y :: .int x :: st) S := by
  obtain ⟨p, l, e, R, s, m, args, below, meth, c, E, n0, z0, Q⟩ := X
  intro ok cap H locs ls hP hS hl
  exact lv_iushr ok.1 ok.2.1 hd rfl (k ok cap H locs ls hP hS hl)
theorem z_ineg {x : Int32} (hd : decode M.2.1 pc = .ok (.ineg, 1))  (k : Z X M (pc + 1) lv (.int (-x) :: st) S) : Z X M pc lv (.int x :: st) S := by
  obtain ⟨p, l, e, R, s, m, args, below, meth, c, E, n0, z0, Q⟩ := X
  intro ok cap H locs ls hP hS hl
  exact lv_ineg ok.1 ok.2.1 hd (k ok cap H locs ls hP hS hl)
theorem z_ladd {x y : Int64} (hd : decode M.2.1 pc = .ok (.ladd, 1))  (k : Z X M (pc + 1) lv (.long (x + y) :: st) S) : Z X M pc lv (.long y :: .long x :: st) S := by
  obtain ⟨p, l, e, R, s, m, args, below, meth, c, E, n0, z0, Q⟩ := X
  intro ok cap H locs ls hP hS hl
  exact lv_ladd ok.1 ok.2.1 hd (k ok cap H locs ls hP hS hl)
theorem z_land {x y : Int64} (hd : decode M.2.1 pc = .ok (.land, 1))  (k : Z X M (pc + 1) lv (.long (x &&& y) :: st) S) : Z X M pc lv (.long y :: .long x :: st) S := by
  obtain ⟨p, l, e, R, s, m, args, below, meth, c, E, n0, z0, Q⟩ := X
  intro ok cap H locs ls hP hS hl
  exact lv_land ok.1 ok.2.1 hd (k ok cap H locs ls hP hS hl)
theorem z_lor {x y : Int64} (hd : decode M.2.1 pc = .ok (.lor, 1))  (k : Z X M (pc + 1) lv (.long (x ||| y) :: st) S) : Z X M pc lv (.long y :: .long x :: st) S := by
  obtain ⟨p, l, e, R, s, m, args, below, meth, c, E, n0, z0, Q⟩ := X
  intro ok cap H locs ls hP hS hl
  exact lv_lor ok.1 ok.2.1 hd (k ok cap H locs ls hP hS hl)
theorem z_lshl {x : Int64} {y : Int32} (hd : decode M.2.1 pc = .ok (.lshl, 1))  (k : Z X M (pc + 1) lv (.long (x <<< (y.toInt64 &&& 63)) :: st) S) : Z X M pc lv (.int y :: .long x :: st) S := by
  obtain ⟨p, l, e, R, s, m, args, below, meth, c, E, n0, z0, Q⟩ := X
  intro ok cap H locs ls hP hS hl
  exact lv_lshl ok.1 ok.2.1 hd rfl (k ok cap H locs ls hP hS hl)
theorem z_lshr {x : Int64} {y : Int32} (hd : decode M.2.1 pc = .ok (.lshr, 1))  (k : Z X M (pc + 1) lv (.long (x >>> (y.toInt64 &&& 63)) :: st) S) : Z X M pc lv (.int y :: .long x :: st) S := by
  obtain ⟨p, l, e, R, s, m, args, below, meth, c, E, n0, z0, Q⟩ := X
  intro ok cap H locs ls hP hS hl
  exact lv_lshr ok.1 ok.2.1 hd rfl (k ok cap H locs ls hP hS hl)
theorem z_lcmp {x y : Int64} (hd : decode M.2.1 pc = .ok (.lcmp, 1))  (k : Z X M (pc + 1) lv (.int (lg_cmp x y) :: st) S) : Z X M pc lv (.long y :: .long x :: st) S := by
  obtain ⟨p, l, e, R, s, m, args, below, meth, c, E, n0, z0, Q⟩ := X
  intro ok cap H locs ls hP hS hl
  exact W.lcmp ok.1 ok.2.1 hd (k ok cap H locs ls hP hS hl)
theorem z_i2l {x : Int32} (hd : decode M.2.1 pc = .ok (.i2l, 1))  (k : Z X M (pc + 1) lv (.long x.toInt64 :: st) S) : Z X M pc lv (.int x :: st) S := by
  obtain ⟨p, l, e, R, s, m, args, below, meth, c, E, n0, z0, Q⟩ := X
  intro ok cap H locs ls hP hS hl
  exact lv_i2l ok.1 ok.2.1 hd rfl (k ok cap H locs ls hP hS hl)
theorem z_l2i {x : Int64} (hd : decode M.2.1 pc = .ok (.l2i, 1))  (k : Z X M (pc + 1) lv (.int x.toInt32 :: st) S) : Z X M pc lv (.long x :: st) S := by
  obtain ⟨p, l, e, R, s, m, args, below, meth, c, E, n0, z0, Q⟩ := X
  intro ok cap H locs ls hP hS hl
  exact lv_l2i ok.1 ok.2.1 hd rfl (k ok cap H locs ls hP hS hl)
theorem z_i2b {x : Int32} (hd : decode M.2.1 pc = .ok (.i2b, 1))  (k : Z X M (pc + 1) lv (.int x.toInt8.toInt32 :: st) S) : Z X M pc lv (.int x :: st) S := by
  obtain ⟨p, l, e, R, s, m, args, below, meth, c, E, n0, z0, Q⟩ := X
  intro ok cap H locs ls hP hS hl
  exact lv_i2b ok.1 ok.2.1 hd rfl (k ok cap H locs ls hP hS hl)
theorem z_i2s {x : Int32} (hd : decode M.2.1 pc = .ok (.i2s, 1))  (k : Z X M (pc + 1) lv (.int x.toInt16.toInt32 :: st) S) : Z X M pc lv (.int x :: st) S := by
  obtain ⟨p, l, e, R, s, m, args, below, meth, c, E, n0, z0, Q⟩ := X
  intro ok cap H locs ls hP hS hl
  exact lv_i2s ok.1 ok.2.1 hd rfl (k ok cap H locs ls hP hS hl)
theorem z_i2c {x : Int32} (hd : decode M.2.1 pc = .ok (.i2c, 1))  (k : Z X M (pc + 1) lv (.int (x.toUInt32 % 65536).toInt32 :: st) S) : Z X M pc lv (.int x :: st) S := by
  obtain ⟨p, l, e, R, s, m, args, below, meth, c, E, n0, z0, Q⟩ := X
  intro ok cap H locs ls hP hS hl
  exact lv_i2c ok.1 ok.2.1 hd rfl (k ok cap H locs ls hP hS hl)
theorem z_iconst {n : Int} {v : Int32} (hd : decode M.2.1 pc = .ok (.iconst n, 1)) (hv : Int32.ofInt n = v) (k : Z X M (pc + 1) lv (.int v :: st) S) : Z X M pc lv (st) S := by
  obtain ⟨p, l, e, R, s, m, args, below, meth, c, E, n0, z0, Q⟩ := X
  intro ok cap H locs ls hP hS hl
  exact lv_iconst ok.1 ok.2.1 hd hv (k ok cap H locs ls hP hS hl)
theorem z_bipush {n : Int} {v : Int32} (hd : decode M.2.1 pc = .ok (.bipush n, 2)) (hv : (Int8.ofInt n).toInt32 = v) (k : Z X M (pc + 2) lv (.int v :: st) S) : Z X M pc lv (st) S := by
  obtain ⟨p, l, e, R, s, m, args, below, meth, c, E, n0, z0, Q⟩ := X
  intro ok cap H locs ls hP hS hl
  exact lv_bipush ok.1 ok.2.1 hd hv (k ok cap H locs ls hP hS hl)
theorem z_sipush {n : Int} {v : Int32} (hd : decode M.2.1 pc = .ok (.sipush n, 3)) (hv : (Int16.ofInt n).toInt32 = v) (k : Z X M (pc + 3) lv (.int v :: st) S) : Z X M pc lv (st) S := by
  obtain ⟨p, l, e, R, s, m, args, below, meth, c, E, n0, z0, Q⟩ := X
  intro ok cap H locs ls hP hS hl
  exact lv_sipush ok.1 ok.2.1 hd hv (k ok cap H locs ls hP hS hl)
theorem z_lconst {n : Fin 2} {v : Int64} (hd : decode M.2.1 pc = .ok (.lconst n, 1)) (hv : Int64.ofNat (n : Nat) = v) (k : Z X M (pc + 1) lv (.long v :: st) S) : Z X M pc lv (st) S := by
  obtain ⟨p, l, e, R, s, m, args, below, meth, c, E, n0, z0, Q⟩ := X
  intro ok cap H locs ls hP hS hl
  exact lv_lconst ok.1 ok.2.1 hd hv (k ok cap H locs ls hP hS hl)
theorem z_null  (hd : decode M.2.1 pc = .ok (.aconst_null, 1))  (k : Z X M (pc + 1) lv (.null :: st) S) : Z X M pc lv (st) S := by
  obtain ⟨p, l, e, R, s, m, args, below, meth, c, E, n0, z0, Q⟩ := X
  intro ok cap H locs ls hP hS hl
  exact lv_null ok.1 ok.2.1 hd (k ok cap H locs ls hP hS hl)
theorem z_dup {v : Value} (hd : decode M.2.1 pc = .ok (.dup, 1)) (hv : v.category = 1) (k : Z X M (pc + 1) lv (v :: v :: st) S) : Z X M pc lv (v :: st) S := by
  obtain ⟨p, l, e, R, s, m, args, below, meth, c, E, n0, z0, Q⟩ := X
  intro ok cap H locs ls hP hS hl
  exact lv_dup ok.1 ok.2.1 hd (by rw [zv_cat]; exact hv) (k ok cap H locs ls hP hS hl)
theorem z_dup2 {v w : Value} (hd : decode M.2.1 pc = .ok (.dup2, 1)) (hv : v.category = 1) (hw : w.category = 1) (k : Z X M (pc + 1) lv (v :: w :: v :: w :: st) S) : Z X M pc lv (v :: w :: st) S := by
  obtain ⟨p, l, e, R, s, m, args, below, meth, c, E, n0, z0, Q⟩ := X
  intro ok cap H locs ls hP hS hl
  exact lv_dup2_11 ok.1 ok.2.1 hd (by rw [zv_cat]; exact hv) (by rw [zv_cat]; exact hw) (k ok cap H locs ls hP hS hl)
theorem z_pop {v : Value} (hd : decode M.2.1 pc = .ok (.pop, 1)) (hv : v.category = 1) (k : Z X M (pc + 1) lv (st) S) : Z X M pc lv (v :: st) S := by
  obtain ⟨p, l, e, R, s, m, args, below, meth, c, E, n0, z0, Q⟩ := X
  intro ok cap H locs ls hP hS hl
  exact lv_pop ok.1 ok.2.1 hd (by rw [zv_cat]; exact hv) (k ok cap H locs ls hP hS hl)
theorem z_iload_n {i : Fin 4} {x : Int32} (hd : decode M.2.1 pc = .ok (.iload_n i, 1)) (h0 : zl lv i = some (.int x)) (k : Z X M (pc + 1) lv (.int x :: st) S) : Z X M pc lv (st) S := by
  obtain ⟨p, l, e, R, s, m, args, below, meth, c, E, n0, z0, Q⟩ := X
  intro ok cap H locs ls hP hS hl
  exact lv_iload_n ok.1 ok.2.1 hd rfl (zl_has hl h0) (k ok cap H locs ls hP hS hl)
theorem z_iload {i : Nat} {x : Int32} (hd : decode M.2.1 pc = .ok (.iload i, 2)) (h0 : zl lv i = some (.int x)) (k : Z X M (pc + 2) lv (.int x :: st) S) : Z X M pc lv (st) S := by
  obtain ⟨p, l, e, R, s, m, args, below, meth, c, E, n0, z0, Q⟩ := X
  intro ok cap H locs ls hP hS hl
  exact lv_iload ok.1 ok.2.1 hd (zl_has hl h0) (k ok cap H locs ls hP hS hl)
theorem z_lload_n {i : Fin 4} {x : Int64} (hd : decode M.2.1 pc = .ok (.lload_n i, 1)) (h0 : zl lv i = some (.long x)) (k : Z X M (pc + 1) lv (.long x :: st) S) : Z X M pc lv (st) S := by
  obtain ⟨p, l, e, R, s, m, args, below, meth, c, E, n0, z0, Q⟩ := X
  intro ok cap H locs ls hP hS hl
  exact lv_lload_n ok.1 ok.2.1 hd rfl (zl_has hl h0) (k ok cap H locs ls hP hS hl)
theorem z_lload {i : Nat} {x : Int64} (hd : decode M.2.1 pc = .ok (.lload i, 2)) (h0 : zl lv i = some (.long x)) (k : Z X M (pc + 2) lv (.long x :: st) S) : Z X M pc lv (st) S := by
  obtain ⟨p, l, e, R, s, m, args, below, meth, c, E, n0, z0, Q⟩ := X
  intro ok cap H locs ls hP hS hl
  exact lv_lload ok.1 ok.2.1 hd (zl_has hl h0) (k ok cap H locs ls hP hS hl)
theorem z_aload_n {i : Fin 4} {x : Nat} (hd : decode M.2.1 pc = .ok (.aload_n i, 1)) (h0 : zl lv i = some (.ref x)) (k : Z X M (pc + 1) lv (.ref x :: st) S) : Z X M pc lv (st) S := by
  obtain ⟨p, l, e, R, s, m, args, below, meth, c, E, n0, z0, Q⟩ := X
  intro ok cap H locs ls hP hS hl
  exact lv_aload_n ok.1 ok.2.1 hd rfl (zl_has hl h0) (k ok cap H locs ls hP hS hl)
theorem z_aload {i : Nat} {x : Nat} (hd : decode M.2.1 pc = .ok (.aload i, 2)) (h0 : zl lv i = some (.ref x)) (k : Z X M (pc + 2) lv (.ref x :: st) S) : Z X M pc lv (st) S := by
  obtain ⟨p, l, e, R, s, m, args, below, meth, c, E, n0, z0, Q⟩ := X
  intro ok cap H locs ls hP hS hl
  exact lv_aload ok.1 ok.2.1 hd (zl_has hl h0) (k ok cap H locs ls hP hS hl)
theorem z_aload_nN {i : Fin 4} (hd : decode M.2.1 pc = .ok (.aload_n i, 1)) (h0 : zl lv i = some .null) (k : Z X M (pc + 1) lv (.null :: st) S) : Z X M pc lv (st) S := by
  obtain ⟨p, l, e, R, s, m, args, below, meth, c, E, n0, z0, Q⟩ := X
  intro ok cap H locs ls hP hS hl
  exact lv_aload_nN ok.1 ok.2.1 hd rfl (zl_has hl h0) (k ok cap H locs ls hP hS hl)
theorem z_aloadN {i : Nat} (hd : decode M.2.1 pc = .ok (.aload i, 2)) (h0 : zl lv i = some .null) (k : Z X M (pc + 2) lv (.null :: st) S) : Z X M pc lv (st) S := by
  obtain ⟨p, l, e, R, s, m, args, below, meth, c, E, n0, z0, Q⟩ := X
  intro ok cap H locs ls hP hS hl
  exact lv_aloadN ok.1 ok.2.1 hd (zl_has hl h0) (k ok cap H locs ls hP hS hl)
theorem z_istore_n {i : Fin 4} {x : Int32} (hd : decode M.2.1 pc = .ok (.istore_n i, 1)) (hn : (i : Nat) < M.2.2.1) (h0 : zst lv i (.int x) = lv') (k : Z X M (pc + 1) lv' st S) : Z X M pc lv (.int x :: st) S := by
  subst h0
  obtain ⟨p, l, e, R, s, m, args, below, meth, c, E, n0, z0, Q⟩ := X
  intro ok cap H locs ls hP hS hl
  exact lv_istore_n ok.1 ok.2.1 hd rfl hl hn rfl (fun ls2 h2 => k ok cap H locs ls2 hP hS (zst_has h2))
theorem z_istore {i : Nat} {x : Int32} (hd : decode M.2.1 pc = .ok (.istore i, 2)) (hn : (i : Nat) < M.2.2.1) (h0 : zst lv i (.int x) = lv') (k : Z X M (pc + 2) lv' st S) : Z X M pc lv (.int x :: st) S := by
  subst h0
  obtain ⟨p, l, e, R, s, m, args, below, meth, c, E, n0, z0, Q⟩ := X
  intro ok cap H locs ls hP hS hl
  exact lv_istore ok.1 ok.2.1 hd hl hn rfl (fun ls2 h2 => k ok cap H locs ls2 hP hS (zst_has h2))
theorem z_astore_n {i : Fin 4} {x : Nat} (hd : decode M.2.1 pc = .ok (.astore_n i, 1)) (hn : (i : Nat) < M.2.2.1) (h0 : zst lv i (.ref x) = lv') (k : Z X M (pc + 1) lv' st S) : Z X M pc lv (.ref x :: st) S := by
  subst h0
  obtain ⟨p, l, e, R, s, m, args, below, meth, c, E, n0, z0, Q⟩ := X
  intro ok cap H locs ls hP hS hl
  exact lv_astore_n ok.1 ok.2.1 hd rfl hl hn rfl (fun ls2 h2 => k ok cap H locs ls2 hP hS (zst_has h2))
theorem z_astore {i : Nat} {x : Nat} (hd : decode M.2.1 pc = .ok (.astore i, 2)) (hn : (i : Nat) < M.2.2.1) (h0 : zst lv i (.ref x) = lv') (k : Z X M (pc + 2) lv' st S) : Z X M pc lv (.ref x :: st) S := by
  subst h0
  obtain ⟨p, l, e, R, s, m, args, below, meth, c, E, n0, z0, Q⟩ := X
  intro ok cap H locs ls hP hS hl
  exact lv_astore ok.1 ok.2.1 hd hl hn rfl (fun ls2 h2 => k ok cap H locs ls2 hP hS (zst_has h2))
theorem z_astore_nN {i : Fin 4} (hd : decode M.2.1 pc = .ok (.astore_n i, 1)) (hn : (i : Nat) < M.2.2.1) (h0 : zst lv i (.null) = lv') (k : Z X M (pc + 1) lv' st S) : Z X M pc lv (.null :: st) S := by
  subst h0
  obtain ⟨p, l, e, R, s, m, args, below, meth, c, E, n0, z0, Q⟩ := X
  intro ok cap H locs ls hP hS hl
  exact lv_astore_nN ok.1 ok.2.1 hd rfl hl hn rfl (fun ls2 h2 => k ok cap H locs ls2 hP hS (zst_has h2))
theorem z_astoreN {i : Nat} (hd : decode M.2.1 pc = .ok (.astore i, 2)) (hn : (i : Nat) < M.2.2.1) (h0 : zst lv i (.null) = lv') (k : Z X M (pc + 2) lv' st S) : Z X M pc lv (.null :: st) S := by
  subst h0
  obtain ⟨p, l, e, R, s, m, args, below, meth, c, E, n0, z0, Q⟩ := X
  intro ok cap H locs ls hP hS hl
  exact lv_astoreN ok.1 ok.2.1 hd hl hn rfl (fun ls2 h2 => k ok cap H locs ls2 hP hS (zst_has h2))
theorem z_lstore_n {i : Fin 4} {x : Int64} (hd : decode M.2.1 pc = .ok (.lstore_n i, 1)) (hn : (i : Nat) + 1 < M.2.2.1) (h0 : zst2 lv i (.long x) = lv') (k : Z X M (pc + 1) lv' st S) : Z X M pc lv (.long x :: st) S := by
  subst h0
  obtain ⟨p, l, e, R, s, m, args, below, meth, c, E, n0, z0, Q⟩ := X
  intro ok cap H locs ls hP hS hl
  exact lv_lstore_n ok.1 ok.2.1 hd rfl hl hn rfl (fun ls2 h2 => k ok cap H locs ls2 hP hS (zst2_has h2))
theorem z_lstore {i : Nat} {x : Int64} (hd : decode M.2.1 pc = .ok (.lstore i, 2)) (hn : (i : Nat) + 1 < M.2.2.1) (h0 : zst2 lv i (.long x) = lv') (k : Z X M (pc + 2) lv' st S) : Z X M pc lv (.long x :: st) S := by
  subst h0
  obtain ⟨p, l, e, R, s, m, args, below, meth, c, E, n0, z0, Q⟩ := X
  intro ok cap H locs ls hP hS hl
  exact lv_lstore ok.1 ok.2.1 hd hl hn rfl (fun ls2 h2 => k ok cap H locs ls2 hP hS (zst2_has h2))
theorem z_iinc {i : Nat} {n : Int} {x v : Int32} (hd : decode M.2.1 pc = .ok (.iinc i n, 3)) (h1 : zl lv i = some (.int x)) (hv : x + Int32.ofInt n = v) (hn : i < M.2.2.1) (h0 : zst lv i (.int v) = lv') (k : Z X M (pc + 3) lv' st S) : Z X M pc lv st S := by
  subst h0
  obtain ⟨p, l, e, R, s, m, args, below, meth, c, E, n0, z0, Q⟩ := X
  intro ok cap H locs ls hP hS hl
  have h2 : ((i, zv E (.int x)) : Nat × Value) ∈ lv.map (fun q => (q.1, zv E q.2)) := List.mem_map.mpr ⟨(i, .int x), zl_mem h1, rfl⟩
  obtain ⟨j, hj⟩ := List.getElem?_of_mem h2
  exact lv_iinc ok.1 ok.2.1 hd hl (k := j) hj hv hn rfl (fun ls2 h2 => k ok cap H locs ls2 hP hS (zst_has h2))
theorem z_goto {off : Int} {t : Nat} (hd : decode M.2.1 pc = .ok (.goto off, 3)) (ht : (pc : Int) + off = (t : Int)) (k : Z X M t lv st S) : Z X M pc lv st S := by
  obtain ⟨p, l, e, R, s, m, args, below, meth, c, E, n0, z0, Q⟩ := X
  intro ok cap H locs ls hP hS hl
  exact lv_goto ok.1 ok.2.1 hd ht (k ok cap H locs ls hP hS hl)
theorem z_if_eq {x : Int32} {off : Int} {t : Nat} (hd : decode M.2.1 pc = .ok (.ifCond .eq off, 3)) (ht : (pc : Int) + off = (t : Int)) (kt : x = 0 → Z X M t lv st S) (kf : ¬ x = 0 → Z X M (pc + 3) lv st S) : Z X M pc lv (.int x :: st) S := by
  obtain ⟨p, l, e, R, s, m, args, below, meth, c, E, n0, z0, Q⟩ := X
  intro ok cap H locs ls hP hS hl
  exact lv_if_eq ok.1 ok.2.1 hd ht (fun h => kt h ok cap H locs ls hP hS hl) (fun h => kf h ok cap H locs ls hP hS hl)
theorem z_icmp_eq {x y : Int32} {off : Int} {t : Nat} (hd : decode M.2.1 pc = .ok (.if_icmp .eq off, 3)) (ht : (pc : Int) + off = (t : Int)) (kt : x = y → Z X M t lv st S) (kf : ¬ x = y → Z X M (pc + 3) lv st S) : Z X M pc lv (.int y :: .int x :: st) S := by
  obtain ⟨p, l, e, R, s, m, args, below, meth, c, E, n0, z0, Q⟩ := X
  intro ok cap H locs ls hP hS hl
  exact lv_icmp_eq ok.1 ok.2.1 hd ht (fun h => kt h ok cap H locs ls hP hS hl) (fun h => kf h ok cap H locs ls hP hS hl)
theorem z_if_ne {x : Int32} {off : Int} {t : Nat} (hd : decode M.2.1 pc = .ok (.ifCond .ne off, 3)) (ht : (pc : Int) + off = (t : Int)) (kt : ¬ x = 0 → Z X M t lv st S) (kf : x = 0 → Z X M (pc + 3) lv st S) : Z X M pc lv (.int x :: st) S := by
  obtain ⟨p, l, e, R, s, m, args, below, meth, c, E, n0, z0, Q⟩ := X
  intro ok cap H locs ls hP hS hl
  exact lv_if_ne ok.1 ok.2.1 hd ht (fun h => kt h ok cap H locs ls hP hS hl) (fun h => kf h ok cap H locs ls hP hS hl)
theorem z_icmp_ne {x y : Int32} {off : Int} {t : Nat} (hd : decode M.2.1 pc = .ok (.if_icmp .ne off, 3)) (ht : (pc : Int) + off = (t : Int)) (kt : ¬ x = y → Z X M t lv st S) (kf : x = y → Z X M (pc + 3) lv st S) : Z X M pc lv (.int y :: .int x :: st) S := by
  obtain ⟨p, l, e, R, s, m, args, below, meth, c, E, n0, z0, Q⟩ := X
  intro ok cap H locs ls hP hS hl
  exact lv_icmp_ne ok.1 ok.2.1 hd ht (fun h => kt h ok cap H locs ls hP hS hl) (fun h => kf h ok cap H locs ls hP hS hl)
theorem z_if_lt {x : Int32} {off : Int} {t : Nat} (hd : decode M.2.1 pc = .ok (.ifCond .lt off, 3)) (ht : (pc : Int) + off = (t : Int)) (kt : x < 0 → Z X M t lv st S) (kf : ¬ x < 0 → Z X M (pc + 3) lv st S) : Z X M pc lv (.int x :: st) S := by
  obtain ⟨p, l, e, R, s, m, args, below, meth, c, E, n0, z0, Q⟩ := X
  intro ok cap H locs ls hP hS hl
  exact lv_if_lt ok.1 ok.2.1 hd ht (fun h => kt h ok cap H locs ls hP hS hl) (fun h => kf h ok cap H locs ls hP hS hl)
theorem z_icmp_lt {x y : Int32} {off : Int} {t : Nat} (hd : decode M.2.1 pc = .ok (.if_icmp .lt off, 3)) (ht : (pc : Int) + off = (t : Int)) (kt : x < y → Z X M t lv st S) (kf : ¬ x < y → Z X M (pc + 3) lv st S) : Z X M pc lv (.int y :: .int x :: st) S := by
  obtain ⟨p, l, e, R, s, m, args, below, meth, c, E, n0, z0, Q⟩ := X
  intro ok cap H locs ls hP hS hl
  exact lv_icmp_lt ok.1 ok.2.1 hd ht (fun h => kt h ok cap H locs ls hP hS hl) (fun h => kf h ok cap H locs ls hP hS hl)
theorem z_if_ge {x : Int32} {off : Int} {t : Nat} (hd : decode M.2.1 pc = .ok (.ifCond .ge off, 3)) (ht : (pc : Int) + off = (t : Int)) (kt : 0 ≤ x → Z X M t lv st S) (kf : ¬ 0 ≤ x → Z X M (pc + 3) lv st S) : Z X M pc lv (.int x :: st) S := by
  obtain ⟨p, l, e, R, s, m, args, below, meth, c, E, n0, z0, Q⟩ := X
  intro ok cap H locs ls hP hS hl
  exact lv_if_ge ok.1 ok.2.1 hd ht (fun h => kt h ok cap H locs ls hP hS hl) (fun h => kf h ok cap H locs ls hP hS hl)
theorem z_icmp_ge {x y : Int32} {off : Int} {t : Nat} (hd : decode M.2.1 pc = .ok (.if_icmp .ge off, 3)) (ht : (pc : Int) + off = (t : Int)) (kt : y ≤ x → Z X M t lv st S) (kf : ¬ y ≤ x → Z X M (pc + 3) lv st S) : Z X M pc lv (.int y :: .int x :: st) S := by
  obtain ⟨p, l, e, R, s, m, args, below, meth, c, E, n0, z0, Q⟩ := X
  intro ok cap H locs ls hP hS hl
  exact lv_icmp_ge ok.1 ok.2.1 hd ht (fun h => kt h ok cap H locs ls hP hS hl) (fun h => kf h ok cap H locs ls hP hS hl)
theorem z_if_gt {x : Int32} {off : Int} {t : Nat} (hd : decode M.2.1 pc = .ok (.ifCond .gt off, 3)) (ht : (pc : Int) + off = (t : Int)) (kt : 0 < x → Z X M t lv st S) (kf : ¬ 0 < x → Z X M (pc + 3) lv st S) : Z X M pc lv (.int x :: st) S := by
  obtain ⟨p, l, e, R, s, m, args, below, meth, c, E, n0, z0, Q⟩ := X
  intro ok cap H locs ls hP hS hl
  exact lv_if_gt ok.1 ok.2.1 hd ht (fun h => kt h ok cap H locs ls hP hS hl) (fun h => kf h ok cap H locs ls hP hS hl)
theorem z_icmp_gt {x y : Int32} {off : Int} {t : Nat} (hd : decode M.2.1 pc = .ok (.if_icmp .gt off, 3)) (ht : (pc : Int) + off = (t : Int)) (kt : y < x → Z X M t lv st S) (kf : ¬ y < x → Z X M (pc + 3) lv st S) : Z X M pc lv (.int y :: .int x :: st) S := by
  obtain ⟨p, l, e, R, s, m, args, below, meth, c, E, n0, z0, Q⟩ := X
  intro ok cap H locs ls hP hS hl
  exact lv_icmp_gt ok.1 ok.2.1 hd ht (fun h => kt h ok cap H locs ls hP hS hl) (fun h => kf h ok cap H locs ls hP hS hl)
theorem z_if_le {x : Int32} {off : Int} {t : Nat} (hd : decode M.2.1 pc = .ok (.ifCond .le off, 3)) (ht : (pc : Int) + off = (t : Int)) (kt : x ≤ 0 → Z X M t lv st S) (kf : ¬ x ≤ 0 → Z X M (pc + 3) lv st S) : Z X M pc lv (.int x :: st) S := by
  obtain ⟨p, l, e, R, s, m, args, below, meth, c, E, n0, z0, Q⟩ := X
  intro ok cap H locs ls hP hS hl
  exact lv_if_le ok.1 ok.2.1 hd ht (fun h => kt h ok cap H locs ls hP hS hl) (fun h => kf h ok cap H locs ls hP hS hl)
theorem z_icmp_le {x y : Int32} {off : Int} {t : Nat} (hd : decode M.2.1 pc = .ok (.if_icmp .le off, 3)) (ht : (pc : Int) + off = (t : Int)) (kt : x ≤ y → Z X M t lv st S) (kf : ¬ x ≤ y → Z X M (pc + 3) lv st S) : Z X M pc lv (.int y :: .int x :: st) S := by
  obtain ⟨p, l, e, R, s, m, args, below, meth, c, E, n0, z0, Q⟩ := X
  intro ok cap H locs ls hP hS hl
  exact lv_icmp_le ok.1 ok.2.1 hd ht (fun h => kt h ok cap H locs ls hP hS hl) (fun h => kf h ok cap H locs ls hP hS hl)
theorem z_ifnull {x : Nat} {off : Int} (hd : decode M.2.1 pc = .ok (.ifnull off, 3)) (k : Z X M (pc + 3) lv st S) : Z X M pc lv (.ref x :: st) S := by
  obtain ⟨p, l, e, R, s, m, args, below, meth, c, E, n0, z0, Q⟩ := X
  intro ok cap H locs ls hP hS hl
  exact lv_ifnull ok.1 ok.2.1 hd (k ok cap H locs ls hP hS hl)
theorem z_ifnullN {off : Int} {t : Nat} (hd : decode M.2.1 pc = .ok (.ifnull off, 3)) (ht : (pc : Int) + off = (t : Int)) (k : Z X M t lv st S) : Z X M pc lv (.null :: st) S := by
  obtain ⟨p, l, e, R, s, m, args, below, meth, c, E, n0, z0, Q⟩ := X
  intro ok cap H locs ls hP hS hl
  exact lv_ifnullN ok.1 ok.2.1 hd ht (k ok cap H locs ls hP hS hl)
theorem z_ifnonnull {x : Nat} {off : Int} {t : Nat} (hd : decode M.2.1 pc = .ok (.ifnonnull off, 3)) (ht : (pc : Int) + off = (t : Int)) (k : Z X M t lv st S) : Z X M pc lv (.ref x :: st) S := by
  obtain ⟨p, l, e, R, s, m, args, below, meth, c, E, n0, z0, Q⟩ := X
  intro ok cap H locs ls hP hS hl
  exact lv_ifnonnull ok.1 ok.2.1 hd ht (k ok cap H locs ls hP hS hl)
theorem z_ifnonnullN {off : Int} (hd : decode M.2.1 pc = .ok (.ifnonnull off, 3)) (k : Z X M (pc + 3) lv st S) : Z X M pc lv (.null :: st) S := by
  obtain ⟨p, l, e, R, s, m, args, below, meth, c, E, n0, z0, Q⟩ := X
  intro ok cap H locs ls hP hS hl
  exact lv_ifnonnullN ok.1 ok.2.1 hd (k ok cap H locs ls hP hS hl)
theorem z_ldc {idx : Nat} {v : Int32} (hd : decode M.2.1 pc = .ok (.ldc idx, 2)) (hw : Cond.constant M.1.cls idx v ∈ zWs) (k : Z X M (pc + 2) lv (.int v :: st) S) : Z X M pc lv st S := by
  obtain ⟨p, l, e, R, s, m, args, below, meth, c, E, n0, z0, Q⟩ := X
  intro ok cap H locs ls hP hS hl
  exact lv_ldc ok.1 ok.2.1 ok.2.2.2.1 (ok.2.2.2.2.1 _ hw) hd (k ok cap H locs ls hP hS hl)
theorem z_ldcw {idx : Nat} {v : Int32} (hd : decode M.2.1 pc = .ok (.ldc_w idx, 3)) (hw : Cond.constant M.1.cls idx v ∈ zWs) (k : Z X M (pc + 3) lv (.int v :: st) S) : Z X M pc lv st S := by
  obtain ⟨p, l, e, R, s, m, args, below, meth, c, E, n0, z0, Q⟩ := X
  intro ok cap H locs ls hP hS hl
  exact lv_ldcw ok.1 ok.2.1 ok.2.2.2.1 (ok.2.2.2.2.1 _ hw) hd (k ok cap H locs ls hP hS hl)
theorem z_ldc2 {idx : Nat} {v : Int64} (hd : decode M.2.1 pc = .ok (.ldc2_w idx, 3)) (hw : Cond.constantLong M.1.cls idx v ∈ zWs) (k : Z X M (pc + 3) lv (.long v :: st) S) : Z X M pc lv st S := by
  obtain ⟨p, l, e, R, s, m, args, below, meth, c, E, n0, z0, Q⟩ := X
  intro ok cap H locs ls hP hS hl
  exact lv_ldc2 ok.1 ok.2.1 ok.2.2.2.1 (ok.2.2.2.2.1 _ hw) hd (k ok cap H locs ls hP hS hl)
theorem z_ldcS {idx i : Nat} {tx : String} (hd : decode M.2.1 pc = .ok (.ldc idx, 2)) (hw : (M.1.cls, idx, tx, i) ∈ zStr) (k : Z X M (pc + 2) lv (.ref (1000 + i) :: st) S) : Z X M pc lv st S := by
  obtain ⟨p, l, e, R, s, m, args, below, meth, c, E, n0, z0, Q⟩ := X
  intro ok cap H locs ls hP hS hl
  have hK : zK E s := ok.2.2.2.2.2.2.2.2.2.2.1
  have h2 : vk_R M.1.cls idx tx (zad E (1000 + i)) s := by
    have h3 := hK.2.2.1 _ hw
    have e : zad E (1000 + i) = E.2.2.2 i := by simp [zad, show ¬ 1000 + i < 1000 by omega]
    rw [e]
    exact h3
  exact va_ldcS ok.1 ok.2.1 ok.2.2.2.1 h2 hd (k ok cap H locs ls hP hS hl)
theorem z_tsw {dflt : Int} {offs : Array Int} {len : Nat} {x : Int32} (tg : List Nat) (dt : Nat) (hd : decode M.2.1 pc = .ok (.tableswitch dflt 0 ((tg.length : Int) - 1) offs, len)) (ho : offs.toList.map (fun o => (pc : Int) + o) = tg.map (fun t : Nat => (t : Int))) (hdt : (pc : Int) + dflt = (dt : Int)) (hn : tg.length < 1000)
    (kt : ∀ (i t : Nat), tg[i]? = some t → x = nI i → Z X M t lv st S) (kf : (∀ i, i < tg.length → ¬ x = nI i) → Z X M dt lv st S) : Z X M pc lv (.int x :: st) S := by
  obtain ⟨p, l, e, R, s, m, args, below, meth, c, E, n0, z0, Q⟩ := X
  intro ok cap H locs ls hP hS hl
  by_cases h : ∃ i, i < tg.length ∧ x = nI i
  · obtain ⟨i, hi, rfl⟩ := h
    have e : (nI i).toInt = (i : Int) := nI_toInt (by omega)
    have h2 : (offs.toList.map (fun o => (pc : Int) + o))[i]? = some ((tg[i] : Nat) : Int) := by
      rw [ho, List.getElem?_map, List.getElem?_eq_getElem hi]
      rfl
    rw [List.getElem?_map] at h2
    obtain ⟨off, h3, h4⟩ := Option.map_eq_some_iff.mp h2
    refine lv_tableIn (off := off) (tgt := tg[i]) ok.1 ok.2.1 hd (by rw [e]; omega) (by rw [e]; omega) ?_ h4 (kt i tg[i] (List.getElem?_eq_getElem hi) rfl ok cap H locs ls hP hS hl)
    rw [e, show ((i : Int) - 0).toNat = i by omega]
    simpa using h3
  · have h5 : ∀ i, i < tg.length → ¬ x = nI i := fun i hi e => h ⟨i, hi, e⟩
    refine lv_tableOut (tgt := dt) ok.1 ok.2.1 hd ?_ hdt (kf h5 ok cap H locs ls hP hS hl)
    by_cases q : x.toInt < 0
    · exact Or.inl q
    · right
      apply Int.lt_of_not_ge
      intro q2
      refine h5 x.toInt.toNat (by omega) ?_
      apply Int32.toInt_inj.mp
      rw [nI_toInt (by omega)]
      omega
theorem z_lsw {dflt : Int} {ps : Array (Int × Int)} {len : Nat} {x : Int32} {off : Int} {t : Nat} (hd : decode M.2.1 pc = .ok (.lookupswitch dflt ps, len)) (hp : (ps.toList.zip (ps.toList.drop 1)).all (fun (a, next) => a.1 < next.1) = true) (ho : Op.lookupswitch.offset ps.toList dflt x.toInt = off) (ht : (pc : Int) + off = (t : Int)) (k : Z X M t lv st S) : Z X M pc lv (.int x :: st) S := by
  obtain ⟨p, l, e, R, s, m, args, below, meth, c, E, n0, z0, Q⟩ := X
  intro ok cap H locs ls hP hS hl
  exact lv_lookup ok.1 ok.2.1 hd hp ho ht (k ok cap H locs ls hP hS hl)
end ZR1
end
section
/-! ===== the rules of cells, calls and ends ===== -/
def zCls (ci : Nat) (C : String) (T : u_T) (N : Nat) (ty : Nat → FieldType) : Prop := vwCl[ci]? = some (C, T, N) ∧ (∀ w ∈ u_ws C T N, w ∈ zWs) ∧ (∀ k, k < N → parseFieldDescriptor (T k).2.2.1 = some (ty k)) ∧ (∀ a, a < N → ∀ b, b < N → a ≠ b → (T a).2.1 ≠ (T b).2.1) ∧ N = (zft ci).length ∧ ci < 8
theorem zvq (E : zE) (r : Option Nat) : zv E (va_rf r) = va_rf (r.map (zad E)) := by cases r <;> rfl
section ZR2
variable {X : zX} {M : zMt} {pc : Nat} {lv lv' : List (Nat × Value)} {st : List Value} {S : zS}
theorem z_geti {ci : Nat} {C : String} {T : u_T} {N : Nat} {ty : Nat → FieldType} (hc : zCls ci C T N ty) {idx j k : Nat} (hd : decode M.2.1 pc = .ok (.getfield idx, 3)) (hw : Cond.fieldLink M.1.cls idx (T j).1 (T j).2.1 (T j).2.2.1 ∈ zWs) (hj : j < N) (hf : (zft ci).getD j false = false) (hk : k < S.1) (hs : (S.2.2.1 k).1 = ci) (kk : Z X M (pc + 3) lv (.int (S.2.2.2.2 k j) :: st) S) : Z X M pc lv (.ref k :: st) S := by
  obtain ⟨p, l, e, R, s, m, args, below, meth, c, E, n0, z0, Q⟩ := X
  intro ok cap H locs ls hP hS hl
  obtain ⟨hx, hb, hml, hown, hts, hr, hlk, hnm, hfr, hlo, hK, hKh, hsz⟩ := id ok
  have e1 : zad E k = E.2.2.1 + k := zad_lt (Nat.lt_of_lt_of_le hk cap.2.2.2.2)
  show W p l e R s m args below meth c H locs _ _ Q (F0 m pc ls (.ref (zad E k) :: st.map (zv E)))
  rw [e1]
  refine va_get (D := E.1) (cl := vwCl) (ws := zws E S) (tys := ztys E) hx hb hts hc.2.1 hown hK.1 hP k (by rw [zws_at hk, zcel_o hs hc.2.2.2.2.2]) hc.1 j hj (hts _ hw) (fun _ h => h) (v := .int (S.2.2.2.2 k j)) ?_ hd (kk ok cap H locs ls hP hS hl)
  rw [zfs_at (by rw [← hc.2.2.2.2.1]; exact hj), hf]
  rfl
theorem z_getr {ci : Nat} {C : String} {T : u_T} {N : Nat} {ty : Nat → FieldType} (hc : zCls ci C T N ty) {idx j k k2 : Nat} (hd : decode M.2.1 pc = .ok (.getfield idx, 3)) (hw : Cond.fieldLink M.1.cls idx (T j).1 (T j).2.1 (T j).2.2.1 ∈ zWs) (hj : j < N) (hf : (zft ci).getD j false = true) (hk : k < S.1) (hs : (S.2.2.1 k).1 = ci) (hr2 : S.2.2.2.1 k j = some k2) (kk : Z X M (pc + 3) lv (.ref k2 :: st) S) : Z X M pc lv (.ref k :: st) S := by
  obtain ⟨p, l, e, R, s, m, args, below, meth, c, E, n0, z0, Q⟩ := X
  intro ok cap H locs ls hP hS hl
  obtain ⟨hx, hb, hml, hown, hts, hr, hlk, hnm, hfr, hlo, hK, hKh, hsz⟩ := id ok
  have e1 : zad E k = E.2.2.1 + k := zad_lt (Nat.lt_of_lt_of_le hk cap.2.2.2.2)
  show W p l e R s m args below meth c H locs _ _ Q (F0 m pc ls (.ref (zad E k) :: st.map (zv E)))
  rw [e1]
  refine va_get (D := E.1) (cl := vwCl) (ws := zws E S) (tys := ztys E) hx hb hts hc.2.1 hown hK.1 hP k (by rw [zws_at hk, zcel_o hs hc.2.2.2.2.2]) hc.1 j hj (hts _ hw) (fun _ h => h) (v := .ref (zad E k2)) ?_ hd (kk ok cap H locs ls hP hS hl)
  rw [zfs_at (by rw [← hc.2.2.2.2.1]; exact hj), hf, hr2]
  rfl
theorem z_puti {ci : Nat} {C : String} {T : u_T} {N : Nat} {ty : Nat → FieldType} (hc : zCls ci C T N ty) {idx j k : Nat} {v : Int32} (hd : decode M.2.1 pc = .ok (.putfield idx, 3)) (hw : Cond.fieldLink M.1.cls idx (T j).1 (T j).2.1 (T j).2.2.1 ∈ zWs) (hj : j < N) (hf : (zft ci).getD j false = false) (hfin : (T j).2.2.2 = false) (hty : ty j = .int) (hk : k < S.1) (hs : (S.2.2.1 k).1 = ci) (kk : Z X M (pc + 3) lv st (zset S k j v)) : Z X M pc lv (.int v :: .ref k :: st) S := by
  obtain ⟨p, l, e, R, s, m, args, below, meth, c, E, n0, z0, Q⟩ := X
  intro ok cap H locs ls hP hS hl
  obtain ⟨hx, hb, hml, hown, hts, hr, hlk, hnm, hfr, hlo, hK, hKh, hsz⟩ := id ok
  have e1 : zad E k = E.2.2.1 + k := zad_lt (Nat.lt_of_lt_of_le hk cap.2.2.2.2)
  show W p l e R s m args below meth c H locs _ _ Q (F0 m pc ls (.int v :: .ref (zad E k) :: st.map (zv E)))
  rw [e1]
  have ew : (zws E S).set k (E.2.2.1 + k, .inr (ci, (zfs E S k ci).set j (.int v))) = zws E (zset S k j v) := zws_set rfl (by rw [zcel_o (S := zset S k j v) hs hc.2.2.2.2.2, zfs_set hf]) (fun q h => zcel_ne h)
  refine va_put (D := E.1) (cl := vwCl) (ws := zws E S) (tys := ztys E) (v := .int v) hx hb hts hc.2.1 ty hc.2.2.1 hc.2.2.2.1 hown hK.1 hP (zws_D E S) hS k (by rw [zws_at hk, zcel_o hs hc.2.2.2.2.2]) hc.1 j hj (hts _ hw) (fun _ h => h) hfin (hc.2.2.1 j hj) (by rw [hty]; rfl) (by rw [hty]; rfl) (by simp [zfs, ← hc.2.2.2.2.1]; exact hj) hd (fun H1 locs1 hP1 hD1 hS1 => ?_)
  rw [ew] at hP1
  exact kk ok cap H1 locs1 ls hP1 hS1 hl
theorem z_putF {ci : Nat} {C : String} {T : u_T} {N : Nat} {ty : Nat → FieldType} (hc : zCls ci C T N ty) {idx j k k2 : Nat} (hd : decode M.2.1 pc = .ok (.putfield idx, 3)) (hw : Cond.fieldLink M.1.cls idx (T j).1 (T j).2.1 (T j).2.2.1 ∈ zWs) (hj : j < N) (hf : (zft ci).getD j false = true) (hfin : (T j).2.2.2 = true) (hin : M.1.name = "<init>") (hdecl : (T j).1 = M.1.cls) (hty : narrow (ty j) (.ref k2) = .ref k2 ∧ ∀ a, fits (ty j) (.ref a) = true ∧ narrow (ty j) (.ref a) = .ref a) (hk : k < S.1) (hs : (S.2.2.1 k).1 = ci) (kk : Z X M (pc + 3) lv st (zsetr S k j (some k2))) : Z X M pc lv (.ref k2 :: .ref k :: st) S := by
  obtain ⟨p, l, e, R, s, m, args, below, meth, c, E, n0, z0, Q⟩ := X
  intro ok cap H locs ls hP hS hl
  obtain ⟨hx, hb, hml, hown, hts, hr, hlk, hnm, hfr, hlo, hK, hKh, hsz⟩ := id ok
  have e1 : zad E k = E.2.2.1 + k := zad_lt (Nat.lt_of_lt_of_le hk cap.2.2.2.2)
  show W p l e R s m args below meth c H locs _ _ Q (F0 m pc ls (.ref (zad E k2) :: .ref (zad E k) :: st.map (zv E)))
  rw [e1]
  have ew : (zws E S).set k (E.2.2.1 + k, .inr (ci, (zfs E S k ci).set j (.ref (zad E k2)))) = zws E (zsetr S k j (some k2)) := zws_set rfl (by rw [zcel_o (S := zsetr S k j (some k2)) hs hc.2.2.2.2.2, ← zfs_setR hf]; rfl) (fun q h => zcel_neR h)
  refine va_putF (D := E.1) (cl := vwCl) (ws := zws E S) (tys := ztys E) (v := .ref (zad E k2)) hx hb hts hc.2.1 ty hc.2.2.1 hc.2.2.2.1 hown hK.1 hP (zws_D E S) hS k (by rw [zws_at hk, zcel_o hs hc.2.2.2.2.2]) hc.1 j hj (hts _ hw) (fun _ h => h) hfin (hnm.trans hin) hdecl (hc.2.2.1 j hj) (hty.2 _).2 (hty.2 _).1 (by simp [zfs, ← hc.2.2.2.2.1]; exact hj) hd (fun H1 locs1 hP1 hD1 hS1 => ?_)
  rw [ew] at hP1
  exact kk ok cap H1 locs1 ls hP1 hS1 hl
/-- arrays of ints -/
theorem z_iald {k n : Nat} {i : Int32} (hd : decode M.2.1 pc = .ok (.iaload, 1)) (hk : k < S.1) (hs : S.2.2.1 k = (8, n)) (hi : vp_in i n) (kk : Z X M (pc + 1) lv (.int (S.2.2.2.2 k i.toNatClampNeg) :: st) S) : Z X M pc lv (.int i :: .ref k :: st) S := by
  obtain ⟨p, l, e, R, s, m, args, below, meth, c, E, n0, z0, Q⟩ := X
  intro ok cap H locs ls hP hS hl
  obtain ⟨hx, hb, hml, hown, hts, hr, hlk, hnm, hfr, hlo, hK, hKh, hsz⟩ := id ok
  have e1 : zad E k = E.2.2.1 + k := zad_lt (Nat.lt_of_lt_of_le hk cap.2.2.2.2)
  show W p l e R s m args below meth c H locs _ _ Q (F0 m pc ls (.int i :: .ref (zad E k) :: st.map (zv E)))
  rw [e1]
  exact va_iald (D := E.1) (cl := vwCl) (ws := zws E S) (tys := ztys E) hx hb hK.1 hP k 0 (by rw [zws_at hk, zcel_i (c := 0) hs (by decide)]) rfl hi hd (kk ok cap H locs ls hP hS hl)
theorem z_iast {k n : Nat} {i v : Int32} (hd : decode M.2.1 pc = .ok (.iastore, 1)) (hk : k < S.1) (hs : S.2.2.1 k = (8, n)) (hi : vp_in i n) (kk : Z X M (pc + 1) lv st (zset S k i.toNatClampNeg v)) : Z X M pc lv (.int v :: .int i :: .ref k :: st) S := by
  obtain ⟨p, l, e, R, s, m, args, below, meth, c, E, n0, z0, Q⟩ := X
  intro ok cap H locs ls hP hS hl
  obtain ⟨hx, hb, hml, hown, hts, hr, hlk, hnm, hfr, hlo, hK, hKh, hsz⟩ := id ok
  have e1 : zad E k = E.2.2.1 + k := zad_lt (Nat.lt_of_lt_of_le hk cap.2.2.2.2)
  show W p l e R s m args below meth c H locs _ _ Q (F0 m pc ls (.int v :: .int i :: .ref (zad E k) :: st.map (zv E)))
  rw [e1]
  have ew : (zws E S).set k (E.2.2.1 + k, .inl (E.2.1 0, n, .inl (upd (S.2.2.2.2 k) i.toNatClampNeg v))) = zws E (zset S k i.toNatClampNeg v) := zws_set rfl (by
    rw [zcel_i (S := zset S k i.toNatClampNeg v) (c := 0) hs (by decide)]
    simp only [zset, zup_eq]
    congr 4) (fun q h => zcel_ne h)
  refine va_iast (D := E.1) (cl := vwCl) (ws := zws E S) (tys := ztys E) hx hb hK.1 hP (zws_D E S) hS k 0 (by rw [zws_at hk, zcel_i (c := 0) hs (by decide)]) rfl hi hd (fun H1 locs1 hP1 hD1 hS1 => ?_)
  rw [ew] at hP1
  exact kk ok cap H1 locs1 ls hP1 hS1 hl
/-- arrays of booleans -/
theorem z_zald {k n : Nat} {i : Int32} (hd : decode M.2.1 pc = .ok (.baload, 1)) (hk : k < S.1) (hs : S.2.2.1 k = (9, n)) (hi : vp_in i n) (kk : Z X M (pc + 1) lv (.int (S.2.2.2.2 k i.toNatClampNeg) :: st) S) : Z X M pc lv (.int i :: .ref k :: st) S := by
  obtain ⟨p, l, e, R, s, m, args, below, meth, c, E, n0, z0, Q⟩ := X
  intro ok cap H locs ls hP hS hl
  obtain ⟨hx, hb, hml, hown, hts, hr, hlk, hnm, hfr, hlo, hK, hKh, hsz⟩ := id ok
  have e1 : zad E k = E.2.2.1 + k := zad_lt (Nat.lt_of_lt_of_le hk cap.2.2.2.2)
  show W p l e R s m args below meth c H locs _ _ Q (F0 m pc ls (.int i :: .ref (zad E k) :: st.map (zv E)))
  rw [e1]
  exact va_zald (D := E.1) (cl := vwCl) (ws := zws E S) (tys := ztys E) hx hb hK.1 hP k 1 (by rw [zws_at hk, zcel_i (c := 1) hs (by decide)]) rfl hi hd (kk ok cap H locs ls hP hS hl)
theorem z_zast {k n : Nat} {i v : Int32} (hd : decode M.2.1 pc = .ok (.bastore, 1)) (hk : k < S.1) (hs : S.2.2.1 k = (9, n)) (hi : vp_in i n) (hv : vp_nar .boolean v = v) (kk : Z X M (pc + 1) lv st (zset S k i.toNatClampNeg v)) : Z X M pc lv (.int v :: .int i :: .ref k :: st) S := by
  obtain ⟨p, l, e, R, s, m, args, below, meth, c, E, n0, z0, Q⟩ := X
  intro ok cap H locs ls hP hS hl
  obtain ⟨hx, hb, hml, hown, hts, hr, hlk, hnm, hfr, hlo, hK, hKh, hsz⟩ := id ok
  have e1 : zad E k = E.2.2.1 + k := zad_lt (Nat.lt_of_lt_of_le hk cap.2.2.2.2)
  show W p l e R s m args below meth c H locs _ _ Q (F0 m pc ls (.int v :: .int i :: .ref (zad E k) :: st.map (zv E)))
  rw [e1]
  have ew : (zws E S).set k (E.2.2.1 + k, .inl (E.2.1 1, n, .inl (upd (S.2.2.2.2 k) i.toNatClampNeg (vp_nar .boolean v)))) = zws E (zset S k i.toNatClampNeg v) := zws_set rfl (by
    rw [zcel_i (S := zset S k i.toNatClampNeg v) (c := 1) hs (by decide), hv]
    simp only [zset, zup_eq]
    congr 4) (fun q h => zcel_ne h)
  refine va_zast (D := E.1) (cl := vwCl) (ws := zws E S) (tys := ztys E) hx hb hK.1 hP (zws_D E S) hS k 1 (by rw [zws_at hk, zcel_i (c := 1) hs (by decide)]) rfl hi hd (fun H1 locs1 hP1 hD1 hS1 => ?_)
  rw [ew] at hP1
  exact kk ok cap H1 locs1 ls hP1 hS1 hl
/-- arrays of references -/
theorem z_aald {k n cq : Nat} {i : Int32} {k2 : Nat} (hd : decode M.2.1 pc = .ok (.aaload, 1)) (hk : k < S.1) (hs : S.2.2.1 k = (cq + 10, n)) (hq : cq < 2) (hi : vp_in i n) (hr2 : S.2.2.2.1 k i.toNatClampNeg = some k2) (kk : Z X M (pc + 1) lv (.ref k2 :: st) S) : Z X M pc lv (.int i :: .ref k :: st) S := by
  obtain ⟨p, l, e, R, s, m, args, below, meth, c, E, n0, z0, Q⟩ := X
  intro ok cap H locs ls hP hS hl
  obtain ⟨hx, hb, hml, hown, hts, hr, hlk, hnm, hfr, hlo, hK, hKh, hsz⟩ := id ok
  have e1 : zad E k = E.2.2.1 + k := zad_lt (Nat.lt_of_lt_of_le hk cap.2.2.2.2)
  show W p l e R s m args below meth c H locs _ _ Q (F0 m pc ls (.int i :: .ref (zad E k) :: st.map (zv E)))
  rw [e1]
  have key : ∀ C : String, (ztys E)[cq + 2]? = some (E.2.1 (cq + 2), .object C) → W p l e R s m args below meth c H locs (S.1 - n0) (S.2.1 - z0) Q (F0 m pc ls (.int i :: .ref (E.2.2.1 + k) :: st.map (zv E))) := by
    intro C hC
    refine va_aldq (D := E.1) (cl := vwCl) (ws := zws E S) (tys := ztys E) hx hb hK.1 hP k (cq + 2) (by rw [zws_at hk, zcel_q hs]) hC hi hd ?_
    rw [hr2]
    exact kk ok cap H locs ls hP hS hl
  rcases (show cq = 0 ∨ cq = 1 by omega) with rfl | rfl
  · exact key _ rfl
  · exact key _ rfl
theorem z_alen {k n t : Nat} {v : Int32} (hd : decode M.2.1 pc = .ok (.arraylength, 1)) (hk : k < S.1) (hs : S.2.2.1 k = (t + 8, n)) (ht : t < 4) (hv : Int32.ofNat n = v) (kk : Z X M (pc + 1) lv (.int v :: st) S) : Z X M pc lv (.ref k :: st) S := by
  obtain ⟨p, l, e, R, s, m, args, below, meth, c, E, n0, z0, Q⟩ := X
  intro ok cap H locs ls hP hS hl
  obtain ⟨hx, hb, hml, hown, hts, hr, hlk, hnm, hfr, hlo, hK, hKh, hsz⟩ := id ok
  have e1 : zad E k = E.2.2.1 + k := zad_lt (Nat.lt_of_lt_of_le hk cap.2.2.2.2)
  show W p l e R s m args below meth c H locs _ _ Q (F0 m pc ls (.ref (zad E k) :: st.map (zv E)))
  rw [e1]
  rcases Nat.lt_or_ge t 2 with h2 | h2
  · have hq : (zws E S)[k]? = some (E.2.2.1 + k, .inl (E.2.1 t, (n, .inl (S.2.2.2.2 k)))) := by rw [zws_at hk, zcel_i (c := t) hs h2]
    rcases (show t = 0 ∨ t = 1 by omega) with rfl | rfl
    · exact va_alen (D := E.1) (cl := vwCl) (ws := zws E S) (tys := ztys E) hx hb hK.1 hP k 0 hq rfl hv hd (kk ok cap H locs ls hP hS hl)
    · exact va_alen (D := E.1) (cl := vwCl) (ws := zws E S) (tys := ztys E) hx hb hK.1 hP k 1 hq rfl hv hd (kk ok cap H locs ls hP hS hl)
  · obtain ⟨u, rfl⟩ : ∃ u, t = u + 2 := ⟨t - 2, by omega⟩
    have hq : (zws E S)[k]? = some (E.2.2.1 + k, .inl (E.2.1 (u + 2), (n, .inr (.inr (.inr (.inr (fun j => (S.2.2.2.1 k j).map (zad E)))))))) := by rw [zws_at hk, zcel_q (c := u) hs]
    rcases (show u = 0 ∨ u = 1 by omega) with rfl | rfl
    · exact va_alen (D := E.1) (cl := vwCl) (ws := zws E S) (tys := ztys E) hx hb hK.1 hP k 2 hq rfl hv hd (kk ok cap H locs ls hP hS hl)
    · exact va_alen (D := E.1) (cl := vwCl) (ws := zws E S) (tys := ztys E) hx hb hK.1 hP k 3 hq rfl hv hd (kk ok cap H locs ls hP hS hl)
/-- the ends -/
theorem z_iret {n1 z1 mc ms : Nat} {Rt : Option Value → zS → Prop} {v : Int32} {ty : FieldType} (hR : zR X n1 z1 mc ms Rt) (hd : decode M.2.1 pc = .ok (.ireturn, 1)) (hty : M.2.2.2.1 = some ty) (hv : narrow ty (.int v) = .int v) (h : Rt (some (.int v)) S) : Z X M pc lv [.int v] S := by
  obtain ⟨p, l, e, R, s, m, args, below, meth, c, E, n0, z0, Q⟩ := X
  intro ok cap H locs ls hP hS hl
  obtain ⟨hx, hb, hml, hown, hts, hr, hlk, hnm, hfr, hlo, hK, hKh, hsz⟩ := id ok
  obtain ⟨rfl, rfl, rfl, rfl, rfl⟩ := hR
  refine W.widen (k := R.cells) (n := R.slots) (by omega) (by omega) ?_
  exact W.zret (v := v) hx hb (hr.trans hty) hv (fun t ht hW => ⟨⟨some (.int v), S, h, rfl, by rw [ht]; exact hP⟩, hS.F ht⟩) hS.2.2 hd
theorem z_vret {n1 z1 mc ms : Nat} {Rt : Option Value → zS → Prop} (hR : zR X n1 z1 mc ms Rt) (hd : decode M.2.1 pc = .ok (.return_, 1)) (hty : M.2.2.2.1 = none) (h : Rt none S) : Z X M pc lv [] S := by
  obtain ⟨p, l, e, R, s, m, args, below, meth, c, E, n0, z0, Q⟩ := X
  intro ok cap H locs ls hP hS hl
  obtain ⟨hx, hb, hml, hown, hts, hr, hlk, hnm, hfr, hlo, hK, hKh, hsz⟩ := id ok
  obtain ⟨rfl, rfl, rfl, rfl, rfl⟩ := hR
  refine W.widen (k := R.cells) (n := R.slots) (by omega) (by omega) ?_
  exact W.vret hx hb (hr.trans hty) (fun t ht hW => ⟨⟨none, S, h, rfl, by rw [ht]; exact hP⟩, hS.F ht⟩) hS.2.2 hd
theorem z_lret {n1 z1 mc ms : Nat} {Rt : Option Value → zS → Prop} {v : Int64} (hR : zR X n1 z1 mc ms Rt) (hd : decode M.2.1 pc = .ok (.lreturn, 1)) (hty : M.2.2.2.1 = some .long) (h : Rt (some (.long v)) S) : Z X M pc lv [.long v] S := by
  obtain ⟨p, l, e, R, s, m, args, below, meth, c, E, n0, z0, Q⟩ := X
  intro ok cap H locs ls hP hS hl
  obtain ⟨hx, hb, hml, hown, hts, hr, hlk, hnm, hfr, hlo, hK, hKh, hsz⟩ := id ok
  obtain ⟨rfl, rfl, rfl, rfl, rfl⟩ := hR
  refine W.widen (k := R.cells) (n := R.slots) (by omega) (by omega) ?_
  exact W.lret hx hb (hr.trans hty) (fun t ht hW => ⟨⟨some (.long v), S, h, rfl, by rw [ht]; exact hP⟩, hS.F ht⟩) hS.2.2 hd
theorem z_aret {n1 z1 mc ms : Nat} {Rt : Option Value → zS → Prop} {r : Option Nat} {C : String} (hR : zR X n1 z1 mc ms Rt) (hd : decode M.2.1 pc = .ok (.areturn, 1)) (hty : M.2.2.2.1 = some (.object C)) (h : Rt (some (va_rf r)) S) : Z X M pc lv [va_rf r] S := by
  obtain ⟨p, l, e, R, s, m, args, below, meth, c, E, n0, z0, Q⟩ := X
  intro ok cap H locs ls hP hS hl
  obtain ⟨hx, hb, hml, hown, hts, hr, hlk, hnm, hfr, hlo, hK, hKh, hsz⟩ := id ok
  obtain ⟨rfl, rfl, rfl, rfl, rfl⟩ := hR
  refine W.widen (k := R.cells) (n := R.slots) (by omega) (by omega) ?_
  show W p l e R s m args below meth c H locs _ _ _ (F0 m pc ls [zv E (va_rf r)])
  rw [zvq]
  refine W.aret (v := va_rf (r.map (zad E))) hx hb (hr.trans hty) (Or.inl ⟨C, rfl⟩) (va_rf_or _) (fun t ht hW => ⟨⟨some (va_rf r), S, h, by rw [Option.map_some, zvq], by rw [ht]; exact hP⟩, hS.F ht⟩) hS.2.2 hd
/-- behind a call -/
theorem z_after {p : Program} {l : Launch} {e : Env} {R : Room} {s : State} {m : MethodId} {args : Array Value} {below : List Frame} {meth : Method} {c : Code} {H : Heap} {locs : List Loc} {cells slots mc ms : Nat} {Q : State → Prop} {ls : Array Slot} {st0 rest : List Value} {a : Array Value} {E : zE} {Rt : Option Value → zS → Prop}
    (hr : va_Run p l e R s m args below meth c H locs cells slots mc ms (F0 m pc ls st0) rest (zQc E Rt a) (zA E)) (hS : va_S (zA E) s.heap H locs)
    (kk : ∀ v S' H1 locs1, Rt v S' → va_P E.1 vwCl (zws E S') H1 → va_S (zA E) s.heap H1 locs1 → W p l e R s m args below meth c H1 locs1 (cells + mc) (slots + ms) Q (F0 m (pc + 3) ls ((v.map (zv E)).toList ++ rest))) : W p l e R s m args below meth c H locs cells slots Q (F0 m pc ls st0) := by
  intro T hT X
  obtain ⟨v, st₀, t, T', L, h0, X', hL, e1, e2, ⟨⟨u, S', hp, hv, hb⟩, hz, hk⟩, st⟩ := hr T hT X
  cases hv
  rw [h0] at hz hk
  obtain ⟨t2, a1, b1⟩ := kk u S' T'.heap (locs ++ L) hp (by rw [e1]; exact hb)
    ⟨Nat.le_trans hS.1 (by rw [e1]; exact hz), fun q h1 h2 => by rw [e1, hk q (Nat.lt_of_lt_of_le h1 hS.1) h2]; exact hS.2.1 q h1 h2, fun q hq => by
      rcases List.mem_append.mp hq with h | h
      · exact hS.2.2 q h
      · exact hL q h⟩ T' rfl X'
  exact ⟨t2, st t2 a1, b1⟩
/-- what is asked of the tables at a call -/
def zLkV (own : String) (idx : Nat) (M : zMt) (n : Nat) : Prop := (∀ w ∈ [Cond.methodLink own idx M.1, .instanceMethod M.1, .selects M.1.cls M.1 M.1, .initialized M.1.cls, .code M.1 M.2.1 M.2.2.1 M.2.2.2.1], w ∈ zWs) ∧ (M.1.cls ≠ "java/lang/invoke/MethodHandle" ∧ M.1.cls ≠ "java/lang/invoke/VarHandle" ∧ (parseMethodDescriptor M.1.desc).map (fun d => d.parameters.length) = some n)
def zLkS (own : String) (idx : Nat) (M : zMt) (n : Nat) : Prop := (∀ w ∈ [Cond.methodLink own idx M.1, .static M.1, .initialized M.1.cls, .code M.1 M.2.1 M.2.2.1 M.2.2.2.1], w ∈ zWs) ∧ (M.1.cls ≠ "java/lang/invoke/MethodHandle" ∧ M.1.cls ≠ "java/lang/invoke/VarHandle" ∧ (parseMethodDescriptor M.1.desc).map (fun d => d.parameters.length) = some n)
def zLkN (own : String) (idx : Nat) (M : zMt) (n : Nat) : Prop := (Cond.methodLinkNest own idx M.1 "LightSheets" ∈ zNw) ∧ (∀ w ∈ [.static M.1, .initialized M.1.cls, .code M.1 M.2.1 M.2.2.1 M.2.2.2.1], w ∈ zWs) ∧ (M.1.cls ≠ "java/lang/invoke/MethodHandle" ∧ M.1.cls ≠ "java/lang/invoke/VarHandle" ∧ (parseMethodDescriptor M.1.desc).map (fun d => d.parameters.length) = some n)
def zLkI (own : String) (idx : Nat) (M : zMt) (n : Nat) : Prop := (∀ w ∈ [Cond.methodLink own idx M.1, .instanceMethod M.1, .initialized M.1.cls, .code M.1 M.2.1 M.2.2.1 none], w ∈ zWs) ∧ M.1.name = "<init>" ∧ M.2.2.2.1 = none ∧ (M.1.cls ≠ "java/lang/invoke/MethodHandle" ∧ M.1.cls ≠ "java/lang/invoke/VarHandle" ∧ (parseMethodDescriptor M.1.desc).map (fun d => d.parameters.length) = some n)
def zLkJ (own : String) (idx : Nat) (M : zMt) (n : Nat) : Prop := (Cond.methodLinkNest own idx M.1 "LightSheets" ∈ zNw) ∧ (∀ w ∈ [.instanceMethod M.1, .initialized M.1.cls, .code M.1 M.2.1 M.2.2.1 none], w ∈ zWs) ∧ M.1.name = "<init>" ∧ M.2.2.2.1 = none ∧ (M.1.cls ≠ "java/lang/invoke/MethodHandle" ∧ M.1.cls ≠ "java/lang/invoke/VarHandle" ∧ (parseMethodDescriptor M.1.desc).map (fun d => d.parameters.length) = some n)
theorem zGood (M : zMt) (h : Cond.code M.1 M.2.1 M.2.2.1 M.2.2.2.1 ∈ zWs) : GoodIn zWs (Cond.code M.1 M.2.1 M.2.2.1 M.2.2.2.1 :: zWs) := by
  intro w hw
  rcases List.mem_cons.mp hw with rfl | hw
  · exact ⟨h, (zWs_good h).2⟩
  · exact ⟨hw, (zWs_good hw).2⟩
theorem z_callV {idx n k ci : Nat} {C : String} {T : u_T} {N : Nat} {ty : Nat → FieldType} {M' : zMt} {av : List Value} {Rt : Option Value → zS → Prop} (hc : zCls ci C T N ty) (hC : M'.1.cls = C) (hd : decode M.2.1 pc = .ok (.invokevirtual idx, 3)) (lk : zLkV M.1.cls idx M' n) (hn : av.length = n) (hD : M'.2.2.2.2 + 1 ≤ M.2.2.2.2) (hL : M'.2.2.1 ≤ 9) (hk : k < S.1) (hs : (S.2.2.1 k).1 = ci) (hst : Nat.ble ((st.map fun v => v.category).sum) 8 = true) (hM : zM M' 0 0 (.ref k :: av) S Rt)
    (kk : ∀ v S', Rt v S' → (S'.1 = S.1 ∧ S'.2.1 = S.2.1) ∧ Z X M (pc + 3) lv (v.toList ++ st) S') : Z X M pc lv (av.reverse ++ .ref k :: st) S := by
  obtain ⟨p, l, e, R, s, m, args, below, meth, c, E, n0, z0, Q⟩ := X
  intro ok cap H locs ls hP hS hl
  obtain ⟨hx, hb, hml, hown, hts, hr, hlk, hnm, hfr, hlo, hK, hKh, hsz⟩ := id ok
  have e1 : zad E k = E.2.2.1 + k := zad_lt (Nat.lt_of_lt_of_le hk cap.2.2.2.2)
  have hcode := lk.1 (.code M'.1 M'.2.1 M'.2.2.1 M'.2.2.2.1) (by simp)
  have hG : GoodIn zWs (wsV M.1.cls idx M'.1.cls M'.1 (Cond.code M'.1 M'.2.1 M'.2.2.1 M'.2.2.2.1 :: zWs)) := by
    intro w hw
    rcases List.mem_append.mp hw with hw | hw
    · have h2 := lk.1 w (by simp only [List.mem_cons, List.not_mem_nil, or_false] at hw ⊢; rcases hw with h | h | h | h <;> simp [h])
      exact ⟨h2, (zWs_good h2).2⟩
    · exact zGood M' hcode w hw
  have est : (av.reverse ++ .ref k :: st).map (zv E) = (av.map (zv E)).reverse ++ .ref (E.2.2.1 + k) :: st.map (zv E) := by
    rw [← e1]
    simp [zv]
  rw [est]
  intro T hT X
  have hsize := zsize X hsz cap.1 (by rw [hT]; exact hP) (by rw [hT]; exact hS)
  rw [hT] at hsize
  refine z_after (E := E) (Rt := Rt) (va_runV (As := av.map (zv E)) (rest := st.map (zv E)) (cells := S.1 - n0) (slots := S.2.1 - z0) ⟨hx, hb, hml, hown, hts⟩ (hM l E) (cwV n hts hG rfl rfl rfl ⟨rfl, lk.2.1, lk.2.2.1, lk.2.2.2⟩ ⟨Nat.le_trans hD hfr, by show 8 + (M'.2.2.1 + 11) + 28 * M'.2.2.2.2 ≤ R.locals; omega⟩) ⟨zPc_blind E _ S, ?_, fun U hU hW => ⟨by rw [List.map_cons]; show (Value.ref (E.2.2.1 + k) :: av.map (zv E)).toArray = (Value.ref (zad E k) :: av.map (zv E)).toArray; rw [e1], by rw [hU]; exact hsize, by rw [hU]; exact hP, zK.warm hW hK, by rw [hU]; exact zKh.moved hW.alike hKh hS.2.1⟩⟩ rfl (by rw [List.length_map]; exact hn) hl.1 rfl (lv_room (by rw [zcats]; exact Nat.le_of_ble_eq_true hst)) hd ⟨by omega, by omega⟩) hS (fun v S' H1 locs1 h1 h2 h3 => ?_) T hT X
  · obtain ⟨cell, g1, g2, g3⟩ := va_recv hK.1 hP hc.1 (q0 := k) (a := E.2.2.1 + k) (fs := zfs E S k ci) (by rw [zws_at hk, zcel_o hs hc.2.2.2.2.2])
    exact ⟨cell, g1, g2, by rw [hC]; exact g3⟩
  · obtain ⟨⟨a1, a2⟩, a3⟩ := kk v S' h1
    have a4 := a3 ok ⟨by omega, by omega, by omega, by omega, by omega⟩ H1 locs1 ls h2 h3 hl
    rw [a1, a2] at a4
    have e2 : (v.map (zv E)).toList ++ st.map (zv E) = (v.toList ++ st).map (zv E) := by cases v <;> simp
    rw [e2]
    exact a4
/-- a static method, by an ordinary link or a nest mate's -/
theorem z_callS {idx n : Nat} {M' : zMt} {av : List Value} {Rt : Option Value → zS → Prop} (hd : decode M.2.1 pc = .ok (.invokestatic idx, 3)) (lk : zLkS M.1.cls idx M' n ∨ zLkN M.1.cls idx M' n) (hn : av.length = n) (hD : M'.2.2.2.2 + 1 ≤ M.2.2.2.2) (hL : M'.2.2.1 ≤ 9) (hst : Nat.ble ((st.map fun v => v.category).sum) 8 = true) (hM : zM M' 0 0 av S Rt)
    (kk : ∀ v S', Rt v S' → (S'.1 = S.1 ∧ S'.2.1 = S.2.1) ∧ Z X M (pc + 3) lv (v.toList ++ st) S') : Z X M pc lv (av.reverse ++ st) S := by
  obtain ⟨p, l, e, R, s, m, args, below, meth, c, E, n0, z0, Q⟩ := X
  intro ok cap H locs ls hP hS hl
  obtain ⟨hx, hb, hml, hown, hts, hr, hlk, hnm, hfr, hlo, hK, hKh, hsz⟩ := id ok
  have est : (av.reverse ++ st).map (zv E) = (av.map (zv E)).reverse ++ st.map (zv E) := by simp
  rw [est]
  intro T hT X
  have hsize := zsize X hsz cap.1 (by rw [hT]; exact hP) (by rw [hT]; exact hS)
  rw [hT] at hsize
  have hpre : PreS s H (zPc E av S) (av.map (zv E)) := ⟨zPc_blind E _ S, fun U hU hW => ⟨rfl, by rw [hU]; exact hsize, by rw [hU]; exact hP, zK.warm hW hK, by rw [hU]; exact zKh.moved hW.alike hKh hS.2.1⟩⟩
  have hroom : ({ frames := M'.2.2.2.2, cells := 0, slots := 0, locals := 28 * M'.2.2.2.2 } : Room).frames + 1 ≤ R.frames ∧ 8 + (M'.2.2.1 + 11) + ({ frames := M'.2.2.2.2, cells := 0, slots := 0, locals := 28 * M'.2.2.2.2 } : Room).locals ≤ R.locals := ⟨Nat.le_trans hD hfr, by show 8 + (M'.2.2.1 + 11) + 28 * M'.2.2.2.2 ≤ R.locals; omega⟩
  have hrun : va_Run p l e R s m args below meth c H locs (S.1 - n0) (S.2.1 - z0) 0 0 (F0 m pc ls ((av.map (zv E)).reverse ++ st.map (zv E))) (st.map (zv E)) (zQc E Rt (av.map (zv E)).toArray) (zA E) := by
    rcases lk with lk | lk
    · have hcode := lk.1 (.code M'.1 M'.2.1 M'.2.2.1 M'.2.2.2.1) (by simp)
      have hG : GoodIn zWs (va_wsS M.1.cls idx M'.1 (Cond.code M'.1 M'.2.1 M'.2.2.1 M'.2.2.2.1 :: zWs)) := by
        intro w hw
        rcases List.mem_append.mp hw with hw | hw
        · have h2 := lk.1 w (by simp only [List.mem_cons, List.not_mem_nil, or_false] at hw ⊢; rcases hw with h | h | h <;> simp [h])
          exact ⟨h2, (zWs_good h2).2⟩
        · exact zGood M' hcode w hw
      exact va_runS (As := av.map (zv E)) (rest := st.map (zv E)) ⟨hx, hb, hml, hown, hts⟩ (hM l E) (va_cwS n hts hG rfl rfl rfl lk.2 hroom) hpre rfl (by rw [List.length_map]; exact hn) hl.1 rfl (lv_room (by rw [zcats]; exact Nat.le_of_ble_eq_true hst)) hd ⟨by omega, by omega⟩
    · have hcode := lk.2.1 (.code M'.1 M'.2.1 M'.2.2.1 M'.2.2.2.1) (by simp)
      exact va_runSN (As := av.map (zv E)) (rest := st.map (zv E)) ⟨hx, hb, hml, hown, hts⟩ (hM l E) ⟨va_cnB n hts (zGood M' hcode) rfl rfl rfl (hK.2.1 _ lk.1) (hts _ (lk.2.1 _ (by simp))) lk.2.2 hroom, hts _ (lk.2.1 _ (by simp)), trivial⟩ hpre rfl (by rw [List.length_map]; exact hn) hl.1 rfl (lv_room (by rw [zcats]; exact Nat.le_of_ble_eq_true hst)) hd ⟨by omega, by omega⟩
  refine z_after (E := E) (Rt := Rt) hrun hS (fun v S' H1 locs1 h1 h2 h3 => ?_) T hT X
  obtain ⟨⟨a1, a2⟩, a3⟩ := kk v S' h1
  have a4 := a3 ok ⟨by omega, by omega, by omega, by omega, by omega⟩ H1 locs1 ls h2 h3 hl
  rw [a1, a2] at a4
  have e2 : (v.map (zv E)).toList ++ st.map (zv E) = (v.toList ++ st).map (zv E) := by cases v <;> simp
  rw [e2]
  exact a4
end ZR2
end
section
/-! ===== the rules of what is made, of Strings, of the JDK's own ===== -/
def zcap (X : zX) (a b : Nat) : Prop :=
  match X with
  | (_, _, _, R, _, _, _, _, _, _, _, n0, z0, _) => a ≤ n0 + R.cells ∧ b ≤ z0 + R.slots
theorem zcap_of {X : zX} {n0 z0 mc ms : Nat} {Rt : Option Value → zS → Prop} (h : zR X n0 z0 mc ms Rt) {a b : Nat} (ha : a ≤ n0 + mc) (hb : b ≤ z0 + ms) : zcap X a b := by
  obtain ⟨p, l, e, R, s, m, args, below, meth, c, E, n1, z1, Q⟩ := X
  obtain ⟨rfl, rfl, rfl, rfl, -⟩ := h
  exact ⟨ha, hb⟩
def znew (S : zS) (sh : Nat × Nat) (N : Nat) : zS := (S.1 + 1, S.2.1 + N, (fun q => if q = S.1 then sh else S.2.2.1 q), (fun q j => if q = S.1 then none else S.2.2.2.1 q j), (fun q j => if q = S.1 then 0 else S.2.2.2.2 q j))
theorem znew_cel {E : zE} {S : zS} {sh : Nat × Nat} {N q : Nat} (h : q < S.1) : zcel E (znew S sh N) q = zcel E S q := by
  have h2 : q ≠ S.1 := Nat.ne_of_lt h
  simp only [zcel, znew, zfs, if_neg h2]
theorem zws_push {E : zE} {S : zS} {sh : Nat × Nat} {N : Nat} : zws E (znew S sh N) = zws E S ++ [(E.2.2.1 + S.1, zcel E (znew S sh N) S.1)] := by
  show (List.range (S.1 + 1)).map _ = _
  rw [List.range_succ, List.map_append]
  congr 1
  apply List.map_congr_left
  intro q hq
  rw [znew_cel (List.mem_range.mp hq)]
theorem zq_new {E : zE} {S : zS} {q : Nat} {x : va_E} (hD : va_D (zA E) (zws E S ++ [(q, x)])) (hq : q < E.2.2.1 + S.1 + 1) : q = E.2.2.1 + S.1 := by
  have hlen : (zws E S).length = S.1 := by simp [zws]
  have h1 : (zws E S ++ [(q, x)])[S.1]? = some (q, x) := by
    rw [List.getElem?_append_right (by omega), hlen, Nat.sub_self]
    rfl
  have h2 : E.2.2.1 ≤ q := hD.2 _ _ h1
  rcases Nat.lt_or_ge q (E.2.2.1 + S.1) with h | h
  · have h3 : (zws E S ++ [(q, x)])[q - E.2.2.1]? = some (E.2.2.1 + (q - E.2.2.1), zcel E S (q - E.2.2.1)) := by
      rw [List.getElem?_append_left (by omega), zws_at (by omega)]
    have h4 := hD.1 _ _ _ _ h3 h1 (by show E.2.2.1 + (q - E.2.2.1) = q; omega)
    omega
  · omega
theorem zsize_new {p : Program} {l : Launch} {e : Env} {R : Room} {s : State} {m : MethodId} {args : Array Value} {below : List Frame} {meth : Method} {c : Code} {T : State} {locs : List Loc} {E : zE} {n0 : Nat} {S : zS} {slots q : Nat} {x : va_E} (X : Stand p l e R s m args below meth c T locs (S.1 - n0 + 1) slots) (hs : s.heap.size = E.2.2.1 + n0) (hn : n0 ≤ S.1) (hP : va_P E.1 vwCl (zws E S ++ [(q, x)]) T.heap) (hD : va_D (zA E) (zws E S ++ [(q, x)])) : q = E.2.2.1 + S.1 := by
  have h1 : T.heap.size ≤ s.heap.size + (S.1 - n0 + 1) := X.same.2.2.1
  have hlen : (zws E S).length = S.1 := by simp [zws]
  have h2 : (zws E S ++ [(q, x)])[S.1]? = some (q, x) := by
    rw [List.getElem?_append_right (by omega), hlen, Nat.sub_self]
    rfl
  have h3 : q < T.heap.size := (hP _ _ h2).lt
  exact zq_new hD (by omega)
section ZR3
variable {X : zX} {M : zMt} {pc : Nat} {lv lv' : List (Nat × Value)} {st : List Value} {S : zS}
theorem z_new {ci : Nat} {C : String} {T : u_T} {N : Nat} {ty : Nat → FieldType} (hc : zCls ci C T N ty) {idx : Nat} (hd : decode M.2.1 pc = .ok (.new idx, 3)) (hw : ∀ w ∈ [Cond.classLink M.1.cls idx C, .instantiable C N, .initialized C], w ∈ zWs) (hdef : ∀ j, j < N → defaultValue (ty j) = if (zft ci).getD j false = true then .null else .int 0) (hcap : zcap X (S.1 + 1) (S.2.1 + N)) (hn : S.1 + 1 ≤ 1000) (kk : Z X M (pc + 3) lv (.ref S.1 :: st) (znew S (ci, 0) N)) : Z X M pc lv st S := by
  obtain ⟨p, l, e, R, s, m, args, below, meth, c, E, n0, z0, Q⟩ := X
  intro ok cap H locs ls hP hS hl
  obtain ⟨hx, hb, hml, hown, hts, hr, hlk, hnm, hfr, hlo, hK, hKh, hsz⟩ := id ok
  have hcap : S.1 + 1 ≤ n0 + R.cells ∧ S.2.1 + N ≤ z0 + R.slots := hcap
  refine va_new (D := E.1) (cl := vwCl) (ws := zws E S) (tys := ztys E) (A := zA E) hx hb hts hc.2.1 ty hc.2.2.1 hown (hts _ (hw _ (by simp))) (hts _ (hw _ (by simp))) (hts _ (hw _ (by simp))) hK.1 hP (zws_D E S) hS (fun q hq => by have := hsz; show E.2.2.1 ≤ q; omega) hc.1 (fs := zfs E (znew S (ci, 0) N) S.1 ci) (fun j hj => ?_) (by omega) (by omega) hd (fun q H1 hP1 hD1 hS1 => ?_)
  · rw [hdef j hj]
    unfold vp_V
    rw [List.getD_eq_getElem?_getD (l := zfs E (znew S (ci, 0) N) S.1 ci), zfs_at (by rw [← hc.2.2.2.2.1]; exact hj)]
    simp only [znew, if_pos]
    split <;> rfl
  · intro T1 hT1 X1
    have hq := zsize_new X1 hsz cap.1 (by rw [hT1]; exact hP1) hD1
    subst hq
    have ez : zws E S ++ [(E.2.2.1 + S.1, .inr (ci, zfs E (znew S (ci, 0) N) S.1 ci))] = zws E (znew S (ci, 0) N) := by
      rw [zws_push, zcel_o (S := znew S (ci, 0) N) (c := ci) (by simp [znew]) hc.2.2.2.2.2]
    rw [ez] at hP1
    have a4 := kk ok (by simp only [znew]; omega) H1 locs ls hP1 hS1 hl
    have e1 : (znew S (ci, 0) N).1 - n0 = S.1 - n0 + 1 := by simp only [znew]; omega
    have e2 : (znew S (ci, 0) N).2.1 - z0 = S.2.1 - z0 + N := by simp only [znew]; omega
    have e3 : zad E S.1 = E.2.2.1 + S.1 := zad_lt (by omega)
    rw [e1, e2] at a4
    have a5 : W p l e R s m args below meth c H1 locs (S.1 - n0 + 1) (S.2.1 - z0 + N) Q (F0 m (pc + 3) ls (.ref (zad E S.1) :: st.map (zv E))) := a4
    rw [e3] at a5
    exact a5 T1 hT1 X1
theorem z_newaT {t n : Nat} {at1 : ArrayType} {ty1 : FieldType} {i : Int32} (ht : (t = 0 ∧ at1 = .int ∧ ty1 = .int) ∨ (t = 1 ∧ at1 = .boolean ∧ ty1 = .boolean)) (hd : decode M.2.1 pc = .ok (.newarray at1, 2)) (hw : Cond.arrayClass ty1 ∈ zWs) (hi : ¬ i < 0) (hin : i.toNatClampNeg = n) (hn2 : n ≤ 10000) (hcap : zcap X (S.1 + 1) (S.2.1 + n)) (hn : S.1 + 1 ≤ 1000) (kk : Z X M (pc + 2) lv (.ref S.1 :: st) (znew S (t + 8, n) n)) : Z X M pc lv (.int i :: st) S := by
  obtain ⟨p, l, e, R, s, m, args, below, meth, c, E, n0, z0, Q⟩ := X
  intro ok cap H locs ls hP hS hl
  obtain ⟨hx, hb, hml, hown, hts, hr, hlk, hnm, hfr, hlo, hK, hKh, hsz⟩ := id ok
  have hcap : S.1 + 1 ≤ n0 + R.cells ∧ S.2.1 + n ≤ z0 + R.slots := hcap
  have hty : newarray.typeOf at1 = ty1 := by rcases ht with ⟨-, rfl, rfl⟩ | ⟨-, rfl, rfl⟩ <;> rfl
  have hbt : componentBytes ty1 ≤ 8 := by rcases ht with ⟨-, -, rfl⟩ | ⟨-, -, rfl⟩ <;> decide
  have hmul : n * componentBytes ty1 ≤ 10000 * 8 := Nat.mul_le_mul hn2 hbt
  refine va_newa (D := E.1) (cl := vwCl) (ws := zws E S) (tys := ztys E) (A := zA E) (ty := ty1) (N' := n) (a0 := (n, .inl (fun _ => 0))) hx hb (by rw [hty]; exact hts _ hw) hty hK.1 hP (zws_D E S) hS (fun q hq => by have := hsz; show E.2.2.1 ≤ q; omega) (fun cA => by rcases ht with ⟨-, -, rfl⟩ | ⟨-, -, rfl⟩ <;> (rw [vp_cell_i]; rfl)) hi hin (by omega) (by omega) (by omega) hd (fun q cA H1 hK1 hP1 hD1 hS1 => ?_)
  have hcA : cA = E.2.1 t := by
    have h1 := (hK1.2 4 (cA, ty1) rfl).2
    rcases ht with ⟨rfl, -, rfl⟩ | ⟨rfl, -, rfl⟩
    · have h2 := (hK1.2 0 (E.2.1 0, .int) rfl).2
      exact Option.some.inj (h1.symm.trans h2)
    · have h2 := (hK1.2 1 (E.2.1 1, .boolean) rfl).2
      exact Option.some.inj (h1.symm.trans h2)
  intro T1 hT1 X1
  have hq := zsize_new X1 hsz cap.1 (by rw [hT1]; exact hP1) hD1
  subst hq
  subst hcA
  have ht2 : t < 2 := by rcases ht with ⟨h, -⟩ | ⟨h, -⟩ <;> omega
  have ez : zws E S ++ [(E.2.2.1 + S.1, .inl (E.2.1 t, (n, .inl (fun _ => 0))))] = zws E (znew S (t + 8, n) n) := by
    rw [zws_push, zcel_i (S := znew S (t + 8, n) n) (c := t) (n := n) (by simp [znew]) ht2]
    simp [znew]
  rw [ez] at hP1
  have a4 := kk ok (by simp only [znew]; omega) H1 locs ls hP1 hS1 hl
  have e1 : (znew S (t + 8, n) n).1 - n0 = S.1 - n0 + 1 := by simp only [znew]; omega
  have e2 : (znew S (t + 8, n) n).2.1 - z0 = S.2.1 - z0 + n := by simp only [znew]; omega
  have e3 : zad E S.1 = E.2.2.1 + S.1 := zad_lt (by omega)
  rw [e1, e2] at a4
  have a5 : W p l e R s m args below meth c H1 locs (S.1 - n0 + 1) (S.2.1 - z0 + n) Q (F0 m (pc + 2) ls (.ref (zad E S.1) :: st.map (zv E))) := a4
  rw [e3] at a5
  exact a5 T1 hT1 X1
theorem z_newq {t n : Nat} {C : String} {idx : Nat} {i : Int32} (ht : (t = 0 ∧ C = "LightSheets$Page") ∨ (t = 1 ∧ C = "LightSheets$Row")) (hd : decode M.2.1 pc = .ok (.anewarray idx, 3)) (hw : Cond.classLink M.1.cls idx C ∈ zWs) (hi : ¬ i < 0) (hin : i.toNatClampNeg = n) (hn2 : n ≤ 10000) (hcap : zcap X (S.1 + 1) (S.2.1 + n)) (hn : S.1 + 1 ≤ 1000) (kk : Z X M (pc + 3) lv (.ref S.1 :: st) (znew S (t + 10, n) n)) : Z X M pc lv (.int i :: st) S := by
  obtain ⟨p, l, e, R, s, m, args, below, meth, c, E, n0, z0, Q⟩ := X
  intro ok cap H locs ls hP hS hl
  obtain ⟨hx, hb, hml, hown, hts, hr, hlk, hnm, hfr, hlo, hK, hKh, hsz⟩ := id ok
  have hcap : S.1 + 1 ≤ n0 + R.cells ∧ S.2.1 + n ≤ z0 + R.slots := hcap
  have hao : va_AO C s := by
    rcases ht with ⟨-, rfl⟩ | ⟨-, rfl⟩
    · exact hK.2.2.2.1
    · exact hK.2.2.2.2
  refine va_newq (D := E.1) (cl := vwCl) (ws := zws E S) (tys := ztys E) (A := zA E) (C := C) hx hb hown (hts _ hw) hao hK.1 hP (zws_D E S) hS (fun q hq => by have := hsz; show E.2.2.1 ≤ q; omega) hi hin (by omega) (by omega) (by omega) hd (fun q cA H1 hK1 hP1 hD1 hS1 => ?_)
  have hcA : cA = E.2.1 (t + 2) := by
    obtain ⟨kA, comp, g1, g2, g3, g4⟩ := (hK1.2 4 (cA, .object C) rfl).2
    rcases ht with ⟨rfl, rfl⟩ | ⟨rfl, rfl⟩
    · obtain ⟨kB, comp2, f1, f2, f3, f4⟩ := (hK1.2 2 (E.2.1 2, .object "LightSheets$Page") rfl).2
      exact Option.some.inj (g4.symm.trans f4)
    · obtain ⟨kB, comp2, f1, f2, f3, f4⟩ := (hK1.2 3 (E.2.1 3, .object "LightSheets$Row") rfl).2
      exact Option.some.inj (g4.symm.trans f4)
  intro T1 hT1 X1
  have hq := zsize_new X1 hsz cap.1 (by rw [hT1]; exact hP1) hD1
  subst hq
  subst hcA
  have ez : zws E S ++ [(E.2.2.1 + S.1, .inl (E.2.1 (t + 2), n, .inr (.inr (.inr (.inr (fun _ => none))))))] = zws E (znew S (t + 10, n) n) := by
    rw [zws_push, zcel_q (S := znew S (t + 10, n) n) (c := t) (n := n) (by simp [znew])]
    simp [znew]
  rw [ez] at hP1
  have a4 := kk ok (by simp only [znew]; omega) H1 locs ls hP1 hS1 hl
  have e1 : (znew S (t + 10, n) n).1 - n0 = S.1 - n0 + 1 := by simp only [znew]; omega
  have e2 : (znew S (t + 10, n) n).2.1 - z0 = S.2.1 - z0 + n := by simp only [znew]; omega
  have e3 : zad E S.1 = E.2.2.1 + S.1 := zad_lt (by omega)
  rw [e1, e2] at a4
  have a5 : W p l e R s m args below meth c H1 locs (S.1 - n0 + 1) (S.2.1 - z0 + n) Q (F0 m (pc + 3) ls (.ref (zad E S.1) :: st.map (zv E))) := a4
  rw [e3] at a5
  exact a5 T1 hT1 X1
theorem z_aast {k n k2 t : Nat} {i : Int32} (ht : (t = 0 ∧ (S.2.2.1 k2).1 = 2) ∨ (t = 1 ∧ (S.2.2.1 k2).1 = 4)) (hd : decode M.2.1 pc = .ok (.aastore, 1)) (hk : k < S.1) (hk2 : k2 < S.1) (hs : S.2.2.1 k = (t + 10, n)) (hi : vp_in i n) (kk : Z X M (pc + 1) lv st (zsetr S k i.toNatClampNeg (some k2))) : Z X M pc lv (.ref k2 :: .int i :: .ref k :: st) S := by
  obtain ⟨p, l, e, R, s, m, args, below, meth, c, E, n0, z0, Q⟩ := X
  intro ok cap H locs ls hP hS hl
  obtain ⟨hx, hb, hml, hown, hts, hr, hlk, hnm, hfr, hlo, hK, hKh, hsz⟩ := id ok
  have e1 : zad E k = E.2.2.1 + k := zad_lt (Nat.lt_of_lt_of_le hk cap.2.2.2.2)
  have e2 : zad E k2 = E.2.2.1 + k2 := zad_lt (Nat.lt_of_lt_of_le hk2 cap.2.2.2.2)
  show W p l e R s m args below meth c H locs _ _ Q (F0 m pc ls (.ref (zad E k2) :: .int i :: .ref (zad E k) :: st.map (zv E)))
  rw [e1, e2]
  have ew : (zws E S).set k (E.2.2.1 + k, .inl (E.2.1 (t + 2), n, .inr (.inr (.inr (.inr (va_up (fun j => (S.2.2.2.1 k j).map (zad E)) i.toNatClampNeg (some (E.2.2.1 + k2)))))))) = zws E (zsetr S k i.toNatClampNeg (some k2)) := zws_set rfl (by
    rw [zcel_q (S := zsetr S k i.toNatClampNeg (some k2)) (c := t) hs]
    simp only [zsetr, zup_eq]
    congr 7
    funext b
    simp only [va_up]
    split <;> simp [e2]) (fun q h => zcel_neR h)
  have hq : (zws E S)[k]? = some (E.2.2.1 + k, .inl (E.2.1 (t + 2), n, .inr (.inr (.inr (.inr (fun j => (S.2.2.2.1 k j).map (zad E))))))) := by rw [zws_at hk, zcel_q hs]
  rcases ht with ⟨rfl, h2⟩ | ⟨rfl, h2⟩
  · refine va_astq (D := E.1) (cl := vwCl) (ws := zws E S) (tys := ztys E) (r := (RX2, TX2, 8)) hx hb hK.1 hP (zws_D E S) hS k 2 k2 2 hq rfl (by rw [zws_at hk2, zcel_o h2 (by decide)]) rfl hi hd (fun H1 locs1 hP1 hD1 hS1 => ?_)
    rw [ew] at hP1
    exact kk ok cap H1 locs1 ls hP1 hS1 hl
  · refine va_astq (D := E.1) (cl := vwCl) (ws := zws E S) (tys := ztys E) (r := (RX4, TX4, 3)) hx hb hK.1 hP (zws_D E S) hS k 3 k2 4 hq rfl (by rw [zws_at hk2, zcel_o h2 (by decide)]) rfl hi hd (fun H1 locs1 hP1 hD1 hS1 => ?_)
    rw [ew] at hP1
    exact kk ok cap H1 locs1 ls hP1 hS1 hl
/-- Object's own constructor -/
theorem z_objInit {idx k : Nat} (hd : decode M.2.1 pc = .ok (.invokespecial idx, 3)) (hw : ∀ w ∈ [Cond.methodLink M.1.cls idx Lib.objectInit, .instanceMethod Lib.objectInit, .code Lib.objectInit ⟨#[0xb1]⟩ 1 none], w ∈ zWs) (hD : 1 ≤ M.2.2.2.2) (hst : Nat.ble ((st.map fun v => v.category).sum) 8 = true) (kk : Z X M (pc + 3) lv st S) : Z X M pc lv (.ref k :: st) S := by
  obtain ⟨p, l, e, R, s, m, args, below, meth, c, E, n0, z0, Q⟩ := X
  intro ok cap H locs ls hP hS hl
  obtain ⟨hx, hb, hml, hown, hts, hr, hlk, hnm, hfr, hlo, hK, hKh, hsz⟩ := id ok
  refine W.objInit hx hb hown (hts _ (hw _ (by simp))) (hts _ (hw _ (by simp))) (hts _ (hw _ (by simp))) rfl (by rw [hml]; exact hl.1) (a := zad E k) (rest := st.map (zv E)) rfl hd (Nat.le_trans hD hfr) ?_ ?_
  · have h1 : 2 * (F0 m pc ls (st.map (zv E))).monitorRoom + ((st.map (zv E)).map fun v => v.category).sum ≤ 8 := lv_room (by rw [zcats]; exact Nat.le_of_ble_eq_true hst)
    have h2 : 28 * 1 ≤ 28 * M.2.2.2.2 := Nat.mul_le_mul_left 28 hD
    have h3 : 2 * (F0 m pc ls (st.map (zv E))).monitorRoom + ((st.map (zv E)).map fun v => v.category).sum + 12 ≤ R.locals := by omega
    exact h3
  · exact kk ok cap H locs ls hP hS hl
/-- a constructor of ours, by an ordinary link or a nest mate's -/
theorem z_callI {idx n k mc ms : Nat} {M' : zMt} {av : List Value} {Rt : Option Value → zS → Prop} (hd : decode M.2.1 pc = .ok (.invokespecial idx, 3)) (lk : zLkI M.1.cls idx M' n ∨ zLkJ M.1.cls idx M' n) (hn : av.length = n) (hD : M'.2.2.2.2 + 1 ≤ M.2.2.2.2) (hL : M'.2.2.1 ≤ 9) (hst : Nat.ble ((st.map fun v => v.category).sum) 8 = true) (hM : zM M' mc ms (.ref k :: av) S Rt) (hcap : zcap X (S.1 + mc) (S.2.1 + ms)) (hn2 : S.1 + mc ≤ 1000)
    (kk : ∀ v S', Rt v S' → v = none ∧ (S'.1 = S.1 + mc ∧ S'.2.1 = S.2.1 + ms) ∧ Z X M (pc + 3) lv st S') : Z X M pc lv (av.reverse ++ .ref k :: st) S := by
  obtain ⟨p, l, e, R, s, m, args, below, meth, c, E, n0, z0, Q⟩ := X
  intro ok cap H locs ls hP hS hl
  obtain ⟨hx, hb, hml, hown, hts, hr, hlk, hnm, hfr, hlo, hK, hKh, hsz⟩ := id ok
  have hcap : S.1 + mc ≤ n0 + R.cells ∧ S.2.1 + ms ≤ z0 + R.slots := hcap
  have est : (av.reverse ++ .ref k :: st).map (zv E) = (av.map (zv E)).reverse ++ .ref (zad E k) :: st.map (zv E) := by simp [zv]
  rw [est]
  intro T hT X
  have hsize := zsize X hsz cap.1 (by rw [hT]; exact hP) (by rw [hT]; exact hS)
  rw [hT] at hsize
  have hpre : PreS s H (zPc E (.ref k :: av) S) (.ref (zad E k) :: av.map (zv E)) := ⟨zPc_blind E _ S, fun U hU hW => ⟨rfl, by rw [hU]; exact hsize, by rw [hU]; exact hP, zK.warm hW hK, by rw [hU]; exact zKh.moved hW.alike hKh hS.2.1⟩⟩
  have hroom : ({ frames := M'.2.2.2.2, cells := mc, slots := ms, locals := 28 * M'.2.2.2.2 } : Room).frames + 1 ≤ R.frames ∧ 8 + (M'.2.2.1 + 11) + ({ frames := M'.2.2.2.2, cells := mc, slots := ms, locals := 28 * M'.2.2.2.2 } : Room).locals ≤ R.locals := ⟨Nat.le_trans hD hfr, by show 8 + (M'.2.2.1 + 11) + 28 * M'.2.2.2.2 ≤ R.locals; omega⟩
  have hM2 := hM l E
  have hrun : va_Run p l e R s m args below meth c H locs (S.1 - n0) (S.2.1 - z0) mc ms (F0 m pc ls ((av.map (zv E)).reverse ++ .ref (zad E k) :: st.map (zv E))) (st.map (zv E)) (zQc E Rt (Value.ref (zad E k) :: av.map (zv E)).toArray) (zA E) := by
    rcases lk with lk | lk
    · have hret := lk.2.2.1
      have hcode := lk.1 (.code M'.1 M'.2.1 M'.2.2.1 none) (by simp)
      rw [hret] at hM2
      have hG : GoodIn zWs (Cond.code M'.1 M'.2.1 M'.2.2.1 none :: zWs) := by
        intro w hw
        rcases List.mem_cons.mp hw with rfl | hw
        · exact ⟨hcode, (zWs_good hcode).2⟩
        · exact ⟨hw, (zWs_good hw).2⟩
      exact va_runI (As := av.map (zv E)) (rest := st.map (zv E)) ⟨hx, hb, hml, hown, hts⟩ hM2 (cwI n hts hG rfl rfl rfl (hts _ (lk.1 _ (by simp))) (hts _ (lk.1 _ (by simp))) (hts _ (lk.1 _ (by simp))) lk.2.1 lk.2.2.2 hroom) hpre rfl (by rw [List.length_map]; exact hn) hl.1 rfl (lv_room (by rw [zcats]; exact Nat.le_of_ble_eq_true hst)) hd ⟨by omega, by omega⟩
    · have hret := lk.2.2.2.1
      have hcode := lk.2.1 (.code M'.1 M'.2.1 M'.2.2.1 none) (by simp)
      rw [hret] at hM2
      have hG : GoodIn zWs (Cond.code M'.1 M'.2.1 M'.2.2.1 none :: zWs) := by
        intro w hw
        rcases List.mem_cons.mp hw with rfl | hw
        · exact ⟨hcode, (zWs_good hcode).2⟩
        · exact ⟨hw, (zWs_good hw).2⟩
      exact va_runIN (As := av.map (zv E)) (rest := st.map (zv E)) ⟨hx, hb, hml, hown, hts⟩ hM2 ⟨va_cnB n hts hG rfl rfl rfl (hK.2.1 _ lk.1) (hts _ (lk.2.1 _ (by simp))) lk.2.2.2.2 hroom, lk.2.2.1, hts _ (lk.2.1 _ (by simp))⟩ hpre rfl (by rw [List.length_map]; exact hn) hl.1 rfl (lv_room (by rw [zcats]; exact Nat.le_of_ble_eq_true hst)) hd ⟨by omega, by omega⟩
  refine z_after (E := E) (Rt := Rt) hrun hS (fun v S' H1 locs1 h1 h2 h3 => ?_) T hT X
  obtain ⟨a0, ⟨a1, a2⟩, a3⟩ := kk v S' h1
  subst a0
  have a4 := a3 ok ⟨by omega, by omega, by omega, by omega, by omega⟩ H1 locs1 ls h2 h3 hl
  rw [a1, a2] at a4
  have e1 : S.1 + mc - n0 = S.1 - n0 + mc := by omega
  have e2 : S.2.1 + ms - z0 = S.2.1 - z0 + ms := by omega
  rw [e1, e2] at a4
  exact a4
/-- System.arraycopy of ints -/
def zcpy (S : zS) (q0 q1 sp dp n : Nat) : zS := (S.1, S.2.1, S.2.2.1, S.2.2.2.1, fun q => if q = q1 then va_cpy (S.2.2.2.2 q0) (S.2.2.2.2 q1) sp dp n else S.2.2.2.2 q)
theorem z_copyi {idx q0 q1 n0' n1 : Nat} {sp dp n : Int32} (hd : decode M.2.1 pc = .ok (.invokestatic idx, 3)) (hw : ∀ w ∈ [Cond.methodLink M.1.cls idx arraycopyName, .static arraycopyName, .initialized "java/lang/System", .native arraycopyName], w ∈ zWs) (hD : 1 ≤ M.2.2.2.2) (hst : Nat.ble ((st.map fun v => v.category).sum) 4 = true) (hk0 : q0 < S.1) (hk1 : q1 < S.1) (hs0 : S.2.2.1 q0 = (8, n0')) (hs1 : S.2.2.1 q1 = (8, n1)) (h1 : ¬ sp < 0) (h2 : ¬ dp < 0) (h3 : ¬ n < 0) (h4 : sp.toNatClampNeg + n.toNatClampNeg ≤ n0') (h5 : dp.toNatClampNeg + n.toNatClampNeg ≤ n1) (kk : Z X M (pc + 3) lv st (zcpy S q0 q1 sp.toNatClampNeg dp.toNatClampNeg n.toNatClampNeg)) : Z X M pc lv (.int n :: .int dp :: .ref q1 :: .int sp :: .ref q0 :: st) S := by
  obtain ⟨p, l, e, R, s, m, args, below, meth, c, E, n0, z0, Q⟩ := X
  intro ok cap H locs ls hP hS hl
  obtain ⟨hx, hb, hml, hown, hts, hr, hlk, hnm, hfr, hlo, hK, hKh, hsz⟩ := id ok
  have e0 : zad E q0 = E.2.2.1 + q0 := zad_lt (Nat.lt_of_lt_of_le hk0 cap.2.2.2.2)
  have e1 : zad E q1 = E.2.2.1 + q1 := zad_lt (Nat.lt_of_lt_of_le hk1 cap.2.2.2.2)
  show W p l e R s m args below meth c H locs _ _ Q (F0 m pc ls (.int n :: .int dp :: .ref (zad E q1) :: .int sp :: .ref (zad E q0) :: st.map (zv E)))
  rw [e0, e1]
  have ew : (zws E S).set q1 (E.2.2.1 + q1, .inl (E.2.1 0, n1, .inl (va_cpy (S.2.2.2.2 q0) (S.2.2.2.2 q1) sp.toNatClampNeg dp.toNatClampNeg n.toNatClampNeg))) = zws E (zcpy S q0 q1 sp.toNatClampNeg dp.toNatClampNeg n.toNatClampNeg) := zws_set rfl (by
    rw [zcel_i (S := zcpy S q0 q1 sp.toNatClampNeg dp.toNatClampNeg n.toNatClampNeg) (c := 0) hs1 (by decide)]
    simp only [zcpy, if_pos]) (fun q h => by simp only [zcel, zcpy, zfs, if_neg h])
  have h28 : 28 * 1 ≤ 28 * M.2.2.2.2 := Nat.mul_le_mul_left 28 hD
  refine va_copyi (D := E.1) (cl := vwCl) (ws := zws E S) (tys := ztys E) (ty := .int) hx hb (hml.trans hl.1.symm) hown (hts _ (hw _ (by simp))) (hts _ (hw _ (by simp))) (hts _ (hw _ (by simp))) (hts _ (hw _ (by simp))) hK.1 hP (zws_D E S) hS q0 q1 0 0 (by rw [zws_at hk0, zcel_i (c := 0) hs0 (by decide)]) (by rw [zws_at hk1, zcel_i (c := 0) hs1 (by decide)]) rfl rfl rfl h1 h2 h3 h4 h5 (fun _ _ => rfl) (Nat.le_trans hD hfr) ?_ hd (fun H1 locs1 hP1 hD1 hS1 => ?_)
  · rw [zcats]
    have h6 := Nat.le_of_ble_eq_true hst
    have h7 : nativeFrameWords "java/lang/System" "arraycopy" 5 + 11 ≤ 24 := by decide
    omega
  · rw [ew] at hP1
    exact kk ok cap H1 locs1 ls hP1 hS1 hl
theorem z_mmin {idx : Nat} {x y : Int32} (hd : decode M.2.1 pc = .ok (.invokestatic idx, 3)) (hw : ∀ w ∈ [Cond.methodLink M.1.cls idx Lib.Math.min.name, .static Lib.Math.min.name, .initialized "java/lang/Math", .code Lib.Math.min.name Lib.Math.min.code 2 (some .int)], w ∈ zWs) (hD : 1 ≤ M.2.2.2.2) (hst : Nat.ble ((st.map fun v => v.category).sum) 8 = true) (kk : Z X M (pc + 3) lv (.int (if y < x then y else x) :: st) S) : Z X M pc lv (.int y :: .int x :: st) S := by
  obtain ⟨p, l, e, R, s, m, args, below, meth, c, E, n0, z0, Q⟩ := X
  intro ok cap H locs ls hP hS hl
  obtain ⟨hx, hb, hml, hown, hts, hr, hlk, hnm, hfr, hlo, hK, hKh, hsz⟩ := id ok
  have h28 : 28 * 1 ≤ 28 * M.2.2.2.2 := Nat.mul_le_mul_left 28 hD
  refine va_mmin hx hb (hml.trans hl.1.symm) hown (hts _ (hw _ (by simp))) (hts _ (hw _ (by simp))) (hts _ (hw _ (by simp))) (hts _ (hw _ (by simp))) (Nat.le_trans hD hfr) ?_ (by omega) (by omega) hd (kk ok cap H locs ls hP hS hl)
  have h6 := Nat.le_of_ble_eq_true hst
  rw [zcats]
  omega
theorem z_mmax {idx : Nat} {x y : Int32} (hd : decode M.2.1 pc = .ok (.invokestatic idx, 3)) (hw : ∀ w ∈ [Cond.methodLink M.1.cls idx Lib.Math.max.name, .static Lib.Math.max.name, .initialized "java/lang/Math", .code Lib.Math.max.name Lib.Math.max.code 2 (some .int)], w ∈ zWs) (hD : 1 ≤ M.2.2.2.2) (hst : Nat.ble ((st.map fun v => v.category).sum) 8 = true) (kk : Z X M (pc + 3) lv (.int (if x < y then y else x) :: st) S) : Z X M pc lv (.int y :: .int x :: st) S := by
  obtain ⟨p, l, e, R, s, m, args, below, meth, c, E, n0, z0, Q⟩ := X
  intro ok cap H locs ls hP hS hl
  obtain ⟨hx, hb, hml, hown, hts, hr, hlk, hnm, hfr, hlo, hK, hKh, hsz⟩ := id ok
  have h28 : 28 * 1 ≤ 28 * M.2.2.2.2 := Nat.mul_le_mul_left 28 hD
  refine va_mmax hx hb (hml.trans hl.1.symm) hown (hts _ (hw _ (by simp))) (hts _ (hw _ (by simp))) (hts _ (hw _ (by simp))) (hts _ (hw _ (by simp))) (Nat.le_trans hD hfr) ?_ (by omega) (by omega) hd (kk ok cap H locs ls hP hS hl)
  have h6 := Nat.le_of_ble_eq_true hst
  rw [zcats]
  omega
/-- Strings: constant i is the reference 1000 + i, its bytes 1100 + i -/
theorem z_gSv {idx i : Nat} (hd : decode M.2.1 pc = .ok (.getfield idx, 3)) (hi : i < 8) (hw : Cond.fieldLink M.1.cls idx "java/lang/String" "value" "[B" ∈ zWs) (kk : Z X M (pc + 3) lv (.ref (1100 + i) :: st) S) : Z X M pc lv (.ref (1000 + i) :: st) S := by
  obtain ⟨p, l, e, R, s, m, args, below, meth, c, E, n0, z0, Q⟩ := X
  intro ok cap H locs ls hP hS hl
  obtain ⟨hx, hb, hml, hown, hts, hr, hlk, hnm, hfr, hlo, hK, hKh, hsz⟩ := id ok
  have e1 : zad E (1000 + i) = E.2.2.2 i := by simp [zad, show ¬ 1000 + i < 1000 by omega]
  have e2 : zad E (1100 + i) = E.2.2.2 (100 + i) := by simp [zad, show ¬ 1100 + i < 1000 by omega, show 1100 + i - 1000 = 100 + i by omega]
  have a4 : W p l e R s m args below meth c H locs (S.1 - n0) (S.2.1 - z0) Q (F0 m (pc + 3) ls (.ref (zad E (1100 + i)) :: st.map (zv E))) := kk ok cap H locs ls hP hS hl
  show W p l e R s m args below meth c H locs _ _ Q (F0 m pc ls (.ref (zad E (1000 + i)) :: st.map (zv E)))
  rw [e1]
  rw [e2] at a4
  exact vk_getf hx hb (hKh.1.1 i hi).2.2.1 hS hown (hts _ hw) (fun _ h => h) hd a4
theorem z_gSc {idx i : Nat} (hd : decode M.2.1 pc = .ok (.getfield idx, 3)) (hi : i < 8) (hw : Cond.fieldLink M.1.cls idx "java/lang/String" "coder" "B" ∈ zWs) (kk : Z X M (pc + 3) lv (.int 0 :: st) S) : Z X M pc lv (.ref (1000 + i) :: st) S := by
  obtain ⟨p, l, e, R, s, m, args, below, meth, c, E, n0, z0, Q⟩ := X
  intro ok cap H locs ls hP hS hl
  obtain ⟨hx, hb, hml, hown, hts, hr, hlk, hnm, hfr, hlo, hK, hKh, hsz⟩ := id ok
  have e1 : zad E (1000 + i) = E.2.2.2 i := by simp [zad, show ¬ 1000 + i < 1000 by omega]
  show W p l e R s m args below meth c H locs _ _ Q (F0 m pc ls (.ref (zad E (1000 + i)) :: st.map (zv E)))
  rw [e1]
  exact vk_getf hx hb (hKh.1.1 i hi).2.1 hS hown (hts _ hw) (fun _ h => h) hd (kk ok cap H locs ls hP hS hl)
theorem z_baldS {i : Nat} {j : Int32} (hd : decode M.2.1 pc = .ok (.baload, 1)) (hi : i < 8) (hj : vp_in j (zLen.getD i 0)) (kk : Z X M (pc + 1) lv (.int ((zByt.getD i []).getD j.toNatClampNeg 0) :: st) S) : Z X M pc lv (.int j :: .ref (1100 + i) :: st) S := by
  obtain ⟨p, l, e, R, s, m, args, below, meth, c, E, n0, z0, Q⟩ := X
  intro ok cap H locs ls hP hS hl
  obtain ⟨hx, hb, hml, hown, hts, hr, hlk, hnm, hfr, hlo, hK, hKh, hsz⟩ := id ok
  have e2 : zad E (1100 + i) = E.2.2.2 (100 + i) := by simp [zad, show ¬ 1100 + i < 1000 by omega, show 1100 + i - 1000 = 100 + i by omega]
  show W p l e R s m args below meth c H locs _ _ Q (F0 m pc ls (.int j :: .ref (zad E (1100 + i)) :: st.map (zv E)))
  rw [e2]
  obtain ⟨cell, g1, g2, g3, g4, g5, g6, g7⟩ := (hKh.1.1 i hi).2.2.2.kept hS.2.1
  have hlt : j.toNatClampNeg < zLen.getD i 0 := Nat.not_le.mp fun q => hj (Or.inr q)
  exact W.bald (v := .int ((zByt.getD i []).getD j.toNatClampNeg 0)) hx hb g1 g2 g3 (fun q => hj (q.imp_right (fun z => Nat.le_trans g4 z))) (g6 _ hlt) rfl rfl hd (kk ok cap H locs ls hP hS hl)
theorem z_alenS {i : Nat} {v : Int32} (hd : decode M.2.1 pc = .ok (.arraylength, 1)) (hi : i < 8) (hv : Int32.ofNat (zLen.getD i 0) = v) (kk : Z X M (pc + 1) lv (.int v :: st) S) : Z X M pc lv (.ref (1100 + i) :: st) S := by
  obtain ⟨p, l, e, R, s, m, args, below, meth, c, E, n0, z0, Q⟩ := X
  intro ok cap H locs ls hP hS hl
  obtain ⟨hx, hb, hml, hown, hts, hr, hlk, hnm, hfr, hlo, hK, hKh, hsz⟩ := id ok
  have e2 : zad E (1100 + i) = E.2.2.2 (100 + i) := by simp [zad, show ¬ 1100 + i < 1000 by omega, show 1100 + i - 1000 = 100 + i by omega]
  show W p l e R s m args below meth c H locs _ _ Q (F0 m pc ls (.ref (zad E (1100 + i)) :: st.map (zv E)))
  rw [e2]
  obtain ⟨cell, g1, g2, g3, g4, g5, g6, g7⟩ := (hKh.1.1 i hi).2.2.2.kept hS.2.1
  exact W.alen (n := v) hx hb g1 g2 (g5.trans hv) rfl rfl hd (kk ok cap H locs ls hP hS hl)
theorem z_getsC {idx : Nat} (hd : decode M.2.1 pc = .ok (.getstatic idx, 3)) (hw : Cond.fieldLink M.1.cls idx "java/lang/String" "COMPACT_STRINGS" "Z" ∈ zWs) (kk : Z X M (pc + 3) lv (.int 1 :: st) S) : Z X M pc lv st S := by
  obtain ⟨p, l, e, R, s, m, args, below, meth, c, E, n0, z0, Q⟩ := X
  intro ok cap H locs ls hP hS hl
  obtain ⟨hx, hb, hml, hown, hts, hr, hlk, hnm, hfr, hlo, hK, hKh, hsz⟩ := id ok
  exact va_gets hx hb hKh.2.1 hS hown (hts _ hw) (fun _ h => h) hd (kk ok cap H locs ls hP hS hl)
theorem z_getsF {idx : Nat} (hd : decode M.2.1 pc = .ok (.getstatic idx, 3)) (hw : Cond.fieldLink M.1.cls idx "jdk/internal/util/Preconditions" "SIOOBE_FORMATTER" "Ljava/util/function/BiFunction;" ∈ zWs) (kk : ∀ v : Value, v = .null ∨ v = .ref 1300 → Z X M (pc + 3) lv (v :: st) S) : Z X M pc lv st S := by
  obtain ⟨p, l, e, R, s, m, args, below, meth, c, E, n0, z0, Q⟩ := X
  intro ok cap H locs ls hP hS hl
  obtain ⟨hx, hb, hml, hown, hts, hr, hlk, hnm, hfr, hlo, hK, hKh, hsz⟩ := id ok
  obtain ⟨v, hv, hZ⟩ := hKh.2.2
  rcases hv with rfl | rfl
  · exact va_gets hx hb hZ hS hown (hts _ hw) (fun _ h => h) hd (kk .null (Or.inl rfl) ok cap H locs ls hP hS hl)
  · have e1 : zad E 1300 = E.2.2.2 300 := by simp [zad]
    have a4 : W p l e R s m args below meth c H locs (S.1 - n0) (S.2.1 - z0) Q (F0 m (pc + 3) ls (.ref (zad E 1300) :: st.map (zv E))) := kk (.ref 1300) (Or.inr rfl) ok cap H locs ls hP hS hl
    rw [e1] at a4
    exact va_gets hx hb hZ hS hown (hts _ hw) (fun _ h => h) hd a4
theorem z_callT {idx n i : Nat} {M' : zMt} {av : List Value} {Rt : Option Value → zS → Prop} (hC : M'.1.cls = "java/lang/String") (hd : decode M.2.1 pc = .ok (.invokevirtual idx, 3)) (lk : zLkV M.1.cls idx M' n) (hn : av.length = n) (hD : M'.2.2.2.2 + 1 ≤ M.2.2.2.2) (hL : M'.2.2.1 ≤ 9) (hi : i < 8) (hst : Nat.ble ((st.map fun v => v.category).sum) 8 = true) (hM : zM M' 0 0 (.ref (1000 + i) :: av) S Rt)
    (kk : ∀ v S', Rt v S' → (S'.1 = S.1 ∧ S'.2.1 = S.2.1) ∧ Z X M (pc + 3) lv (v.toList ++ st) S') : Z X M pc lv (av.reverse ++ .ref (1000 + i) :: st) S := by
  obtain ⟨p, l, e, R, s, m, args, below, meth, c, E, n0, z0, Q⟩ := X
  intro ok cap H locs ls hP hS hl
  obtain ⟨hx, hb, hml, hown, hts, hr, hlk, hnm, hfr, hlo, hK, hKh, hsz⟩ := id ok
  have e1 : zad E (1000 + i) = E.2.2.2 i := by simp [zad, show ¬ 1000 + i < 1000 by omega]
  have hcode := lk.1 (.code M'.1 M'.2.1 M'.2.2.1 M'.2.2.2.1) (by simp)
  have hG : GoodIn zWs (wsV M.1.cls idx M'.1.cls M'.1 (Cond.code M'.1 M'.2.1 M'.2.2.1 M'.2.2.2.1 :: zWs)) := by
    intro w hw
    rcases List.mem_append.mp hw with hw | hw
    · have h2 := lk.1 w (by simp only [List.mem_cons, List.not_mem_nil, or_false] at hw ⊢; rcases hw with h | h | h | h <;> simp [h])
      exact ⟨h2, (zWs_good h2).2⟩
    · exact zGood M' hcode w hw
  have est : (av.reverse ++ .ref (1000 + i) :: st).map (zv E) = (av.map (zv E)).reverse ++ .ref (E.2.2.2 i) :: st.map (zv E) := by
    rw [← e1]
    simp [zv]
  rw [est]
  intro T hT X
  have hsize := zsize X hsz cap.1 (by rw [hT]; exact hP) (by rw [hT]; exact hS)
  rw [hT] at hsize
  refine z_after (E := E) (Rt := Rt) (va_runV (As := av.map (zv E)) (rest := st.map (zv E)) (cells := S.1 - n0) (slots := S.2.1 - z0) ⟨hx, hb, hml, hown, hts⟩ (hM l E) (cwV n hts hG rfl rfl rfl ⟨rfl, lk.2.1, lk.2.2.1, lk.2.2.2⟩ ⟨Nat.le_trans hD hfr, by show 8 + (M'.2.2.1 + 11) + 28 * M'.2.2.2.2 ≤ R.locals; omega⟩) ⟨zPc_blind E _ S, ?_, fun U hU hW => ⟨by rw [List.map_cons]; show (Value.ref (E.2.2.2 i) :: av.map (zv E)).toArray = (Value.ref (zad E (1000 + i)) :: av.map (zv E)).toArray; rw [e1], by rw [hU]; exact hsize, by rw [hU]; exact hP, zK.warm hW hK, by rw [hU]; exact zKh.moved hW.alike hKh hS.2.1⟩⟩ rfl (by rw [List.length_map]; exact hn) hl.1 rfl (lv_room (by rw [zcats]; exact Nat.le_of_ble_eq_true hst)) hd ⟨by omega, by omega⟩) hS (fun v S' H1 locs1 h1 h2 h3 => ?_) T hT X
  · rw [hC]
    exact vk_recv hKh.1 hi hS
  · obtain ⟨⟨a1, a2⟩, a3⟩ := kk v S' h1
    have a4 := a3 ok ⟨by omega, by omega, by omega, by omega, by omega⟩ H1 locs1 ls h2 h3 hl
    rw [a1, a2] at a4
    have e2 : (v.map (zv E)).toList ++ st.map (zv E) = (v.toList ++ st).map (zv E) := by cases v <;> simp
    rw [e2]
    exact a4
end ZR3
end
section
/-! ===== the canonical world: what both constructors make, cell by cell ===== -/
def zSHl : List (Nat × Nat) := [(6, 0), (11, 8), (10, 2), (3, 0), (5, 0), (8, 400), (2, 0), (8, 8), (8, 8), (8, 8), (8, 9), (8, 9), (2, 0), (8, 8), (8, 8), (8, 8), (8, 9), (8, 9), (0, 0), (8, 24), (8, 24), (8, 24), (1, 0), (8, 16), (4, 0), (8, 40), (4, 0), (8, 40), (4, 0), (8, 40), (4, 0), (8, 40), (4, 0), (8, 40), (4, 0), (8, 40), (4, 0), (8, 40), (4, 0), (8, 40), (2, 0), (8, 8), (8, 8), (8, 8), (8, 9), (8, 9), (2, 0), (8, 8), (8, 8), (8, 8), (8, 9), (8, 9), (7, 0), (8, 8), (8, 8), (8, 320), (8, 37), (8, 37), (8, 888), (8, 400), (9, 2), (8, 74), (8, 16)]
def zRFl : List (List (Option Nat)) := [[some 1, some 2, some 3, some 12, some 18, some 22, none], [some 24, some 26, some 28, some 30, some 32, some 34, some 36, some 38], [some 40, some 46], [some 4, some 6, none, none, none], [some 5, none, none, none, none], [], [none, none, none, some 7, some 8, some 9, some 10, some 11], [], [], [], [], [], [none, none, none, some 13, some 14, some 15, some 16, some 17], [], [], [], [], [], [some 19, some 20, some 21, none, none], [], [], [], [some 23, none], [], [some 25, none, none], [], [some 27, none, none], [], [some 29, none, none], [], [some 31, none, none], [], [some 33, none, none], [], [some 35, none, none], [], [some 37, none, none], [], [some 39, none, none], [], [none, none, none, some 41, some 42, some 43, some 44, some 45], [], [], [], [], [], [none, none, none, some 47, some 48, some 49, some 50, some 51], [], [], [], [], [], [none, none, some 53, some 54, some 55, some 56, some 57, some 58, none, some 59, none, none, none, none, none, none, none, none, none, none, none, some 60, some 61, some 62, none], [], [], [], [], [], [], [], [], [], []]
def zSH (k : Nat) : Nat × Nat := zSHl.getD k (0, 0)
def zRF (k j : Nat) : Option Nat := (zRFl.getD k []).getD j none
abbrev zC (f : zF) : zS := (63, 2881, zSH, zRF, f)
def zRi (K : Int32 → zF → Prop) : Option Value → zS → Prop := fun v S' => ∃ r f', v = some (.int r) ∧ S' = zC f' ∧ K r f'
def zRv (K : zF → Prop) : Option Value → zS → Prop := fun v S' => ∃ f', v = none ∧ S' = zC f' ∧ K f'
def zRq (K : Option Nat → zF → Prop) : Option Value → zS → Prop := fun v S' => ∃ r f', v = some (va_rf r) ∧ S' = zC f' ∧ K r f'
def zRl (K : Int64 → zF → Prop) : Option Value → zS → Prop := fun v S' => ∃ r f', v = some (.long r) ∧ S' = zC f' ∧ K r f'
/-- a call of M with these arguments over the canonical world comes to an answer with K -/
def ci (M : zMt) (av : List Value) (f : zF) (K : Int32 → zF → Prop) : Prop := zM M 0 0 av (zC f) (zRi K)
def cv (M : zMt) (av : List Value) (f : zF) (K : zF → Prop) : Prop := zM M 0 0 av (zC f) (zRv K)
def cq (M : zMt) (av : List Value) (f : zF) (K : Option Nat → zF → Prop) : Prop := zM M 0 0 av (zC f) (zRq K)
def cl (M : zMt) (av : List Value) (f : zF) (K : Int64 → zF → Prop) : Prop := zM M 0 0 av (zC f) (zRl K)
abbrev kR (X : zX) (Rt : Option Value → zS → Prop) : Prop := zR X 63 2881 0 0 Rt
theorem ci_of {M : zMt} {av : List Value} {f : zF} {K : Int32 → zF → Prop} (hy : plainName M.1.cls = true) (hlen : (lg_sl av).length ≤ M.2.2.1) (h : ∀ X, kR X (zRi K) → Z X M 0 (lv_args 0 av) [] (zC f)) : ci M av f K := zM_of hy hlen (by show 63 ≤ 1000; decide) h
theorem cv_of {M : zMt} {av : List Value} {f : zF} {K : zF → Prop} (hy : plainName M.1.cls = true) (hlen : (lg_sl av).length ≤ M.2.2.1) (h : ∀ X, kR X (zRv K) → Z X M 0 (lv_args 0 av) [] (zC f)) : cv M av f K := zM_of hy hlen (by show 63 ≤ 1000; decide) h
theorem cq_of {M : zMt} {av : List Value} {f : zF} {K : Option Nat → zF → Prop} (hy : plainName M.1.cls = true) (hlen : (lg_sl av).length ≤ M.2.2.1) (h : ∀ X, kR X (zRq K) → Z X M 0 (lv_args 0 av) [] (zC f)) : cq M av f K := zM_of hy hlen (by show 63 ≤ 1000; decide) h
theorem cl_of {M : zMt} {av : List Value} {f : zF} {K : Int64 → zF → Prop} (hy : plainName M.1.cls = true) (hlen : (lg_sl av).length ≤ M.2.2.1) (h : ∀ X, kR X (zRl K) → Z X M 0 (lv_args 0 av) [] (zC f)) : cl M av f K := zM_of hy hlen (by show 63 ≤ 1000; decide) h
def isPage (k : Nat) : Prop := k = 6 ∨ k = 12 ∨ k = 40 ∨ k = 46
def isRow (k : Nat) : Prop := k = 24 ∨ k = 26 ∨ k = 28 ∨ k = 30 ∨ k = 32 ∨ k = 34 ∨ k = 36 ∨ k = 38
theorem pg_lt {k : Nat} (h : isPage k) : k < 63 := by rcases h with rfl | rfl | rfl | rfl <;> decide
theorem pg_sh {k : Nat} (h : isPage k) : (zSH k).1 = 2 := by rcases h with rfl | rfl | rfl | rfl <;> rfl
theorem pg_lt1 {k : Nat} (h : isPage k) : k + 1 < 63 := by rcases h with rfl | rfl | rfl | rfl <;> decide
theorem pg_sh1 {k : Nat} (h : isPage k) : zSH (k + 1) = (8, 8) := by rcases h with rfl | rfl | rfl | rfl <;> rfl
theorem pg_rf1 {k : Nat} (h : isPage k) : zRF k 3 = some (k + 1) := by rcases h with rfl | rfl | rfl | rfl <;> rfl
theorem pg_lt2 {k : Nat} (h : isPage k) : k + 2 < 63 := by rcases h with rfl | rfl | rfl | rfl <;> decide
theorem pg_sh2 {k : Nat} (h : isPage k) : zSH (k + 2) = (8, 8) := by rcases h with rfl | rfl | rfl | rfl <;> rfl
theorem pg_rf2 {k : Nat} (h : isPage k) : zRF k 4 = some (k + 2) := by rcases h with rfl | rfl | rfl | rfl <;> rfl
theorem pg_lt3 {k : Nat} (h : isPage k) : k + 3 < 63 := by rcases h with rfl | rfl | rfl | rfl <;> decide
theorem pg_sh3 {k : Nat} (h : isPage k) : zSH (k + 3) = (8, 8) := by rcases h with rfl | rfl | rfl | rfl <;> rfl
theorem pg_rf3 {k : Nat} (h : isPage k) : zRF k 5 = some (k + 3) := by rcases h with rfl | rfl | rfl | rfl <;> rfl
theorem pg_lt4 {k : Nat} (h : isPage k) : k + 4 < 63 := by rcases h with rfl | rfl | rfl | rfl <;> decide
theorem pg_sh4 {k : Nat} (h : isPage k) : zSH (k + 4) = (8, 9) := by rcases h with rfl | rfl | rfl | rfl <;> rfl
theorem pg_rf4 {k : Nat} (h : isPage k) : zRF k 6 = some (k + 4) := by rcases h with rfl | rfl | rfl | rfl <;> rfl
theorem pg_lt5 {k : Nat} (h : isPage k) : k + 5 < 63 := by rcases h with rfl | rfl | rfl | rfl <;> decide
theorem pg_sh5 {k : Nat} (h : isPage k) : zSH (k + 5) = (8, 9) := by rcases h with rfl | rfl | rfl | rfl <;> rfl
theorem pg_rf5 {k : Nat} (h : isPage k) : zRF k 7 = some (k + 5) := by rcases h with rfl | rfl | rfl | rfl <;> rfl
theorem rw_lt {k : Nat} (h : isRow k) : k < 63 := by rcases h with rfl | rfl | rfl | rfl | rfl | rfl | rfl | rfl <;> decide
theorem rw_sh {k : Nat} (h : isRow k) : (zSH k).1 = 4 := by rcases h with rfl | rfl | rfl | rfl | rfl | rfl | rfl | rfl <;> rfl
theorem rw_lt1 {k : Nat} (h : isRow k) : k + 1 < 63 := by rcases h with rfl | rfl | rfl | rfl | rfl | rfl | rfl | rfl <;> decide
theorem rw_sh1 {k : Nat} (h : isRow k) : zSH (k + 1) = (8, 40) := by rcases h with rfl | rfl | rfl | rfl | rfl | rfl | rfl | rfl <;> rfl
theorem rw_rf1 {k : Nat} (h : isRow k) : zRF k 0 = some (k + 1) := by rcases h with rfl | rfl | rfl | rfl | rfl | rfl | rfl | rfl <;> rfl
theorem vp_small {i : Int32} {n : Nat} (h : vp_in i n) : i.toNatClampNeg < n := Nat.not_le.mp fun q => h (Or.inr q)
theorem rows_rf {i : Int32} (h : vp_in i 8) : zRF 1 i.toNatClampNeg = some (24 + 2 * i.toNatClampNeg) := by
  have h2 := vp_small h
  revert h2
  generalize i.toNatClampNeg = j
  intro h2
  have : ∀ j, j < 8 → zRF 1 j = some (24 + 2 * j) := by decide
  exact this j h2
theorem rows_is {j : Nat} (h : j < 8) : isRow (24 + 2 * j) := by
  have : ∀ j, j < 8 → 24 + 2 * j = 24 ∨ 24 + 2 * j = 26 ∨ 24 + 2 * j = 28 ∨ 24 + 2 * j = 30 ∨ 24 + 2 * j = 32 ∨ 24 + 2 * j = 34 ∨ 24 + 2 * j = 36 ∨ 24 + 2 * j = 38 := by decide
  exact this j h
theorem imgs_rf {i : Int32} (h : vp_in i 2) : zRF 2 i.toNatClampNeg = some (40 + 6 * i.toNatClampNeg) := by
  have h2 := vp_small h
  revert h2
  generalize i.toNatClampNeg = j
  intro h2
  have : ∀ j, j < 2 → zRF 2 j = some (40 + 6 * j) := by decide
  exact this j h2
theorem imgs_is {j : Nat} (h : j < 2) : isPage (40 + 6 * j) := by
  have : ∀ j, j < 2 → 40 + 6 * j = 6 ∨ 40 + 6 * j = 12 ∨ 40 + 6 * j = 40 ∨ 40 + 6 * j = 46 := by decide
  exact this j h
theorem zc0 : zCls 0 RX0 TX0 5 tyX0 := ⟨rfl, zWs_r _ [193, 195, 197, 199, 201] (by decide +kernel) (by decide +kernel), tyX0_ok, nmX0, rfl, by decide⟩
theorem zc1 : zCls 1 RX1 TX1 2 tyX1 := ⟨rfl, zWs_r _ [212, 214] (by decide +kernel) (by decide +kernel), tyX1_ok, nmX1, rfl, by decide⟩
theorem zc2 : zCls 2 RX2 TX2 8 tyX2 := ⟨rfl, zWs_r _ [143, 145, 147, 149, 151, 153, 155, 157] (by decide +kernel) (by decide +kernel), tyX2_ok, nmX2, rfl, by decide⟩
theorem zc3 : zCls 3 RX3 TX3 5 tyX3 := ⟨rfl, zWs_r _ [169, 171, 173, 175, 177] (by decide +kernel) (by decide +kernel), tyX3_ok, nmX3, rfl, by decide⟩
theorem zc4 : zCls 4 RX4 TX4 3 tyX4 := ⟨rfl, zWs_r _ [228, 230, 232] (by decide +kernel) (by decide +kernel), tyX4_ok, nmX4, rfl, by decide⟩
theorem zc5 : zCls 5 RX5 TX5 5 tyX5 := ⟨rfl, zWs_r _ [112, 114, 116, 118, 120] (by decide +kernel) (by decide +kernel), tyX5_ok, nmX5, rfl, by decide⟩
theorem zc6 : zCls 6 RX6 TX6 7 tyX6 := ⟨rfl, zWs_r _ [242, 244, 246, 248, 250, 252, 254] (by decide +kernel) (by decide +kernel), tyX6_ok, nmX6, rfl, by decide⟩
theorem zc7 : zCls 7 RX7 TX7 25 tyX7 := ⟨rfl, zWs_r _ [862, 864, 866, 868, 870, 872, 874, 876, 878, 880, 882, 884, 886, 888, 890, 892, 894, 896, 898, 900, 902, 904, 906, 908, 910] (by decide +kernel) (by decide +kernel), tyX7_ok, nmX7, rfl, by decide⟩
section ZK
variable {X : zX} {M : zMt} {pc : Nat} {lv lv' : List (Nat × Value)} {st : List Value} {f : zF}
theorem z_sub {S : zS} (ks : List Nat) (h : ks.filterMap (fun k => lv[k]?) = lv') (k : Z X M pc lv' st S) : Z X M pc lv st S := by
  obtain ⟨p, l, e, R, s, m, args, below, meth, c, E, n0, z0, Q⟩ := X
  intro ok cap H locs ls hP hS hl
  refine k ok cap H locs ls hP hS ⟨hl.1, hl.2.1, fun q hq => hl.2.2 q ?_⟩
  obtain ⟨q0, h0, rfl⟩ := List.mem_map.mp hq
  subst h
  obtain ⟨i, -, hi⟩ := List.mem_filterMap.mp h0
  exact List.mem_map.mpr ⟨q0, List.mem_of_getElem? hi, rfl⟩
theorem zmerge {c : Prop} [Decidable c] {A B : Int32} {P : Int32 → Prop} (h : P (if c then A else B)) : (c → P A) ∧ (¬ c → P B) := ⟨fun q => by rw [if_pos q] at h; exact h, fun q => by rw [if_neg q] at h; exact h⟩
theorem zmergeN {c : Prop} [Decidable c] {A B : Int32} {P : Int32 → Prop} (h : P (if c then B else A)) : (¬ c → P A) ∧ (c → P B) := ⟨fun q => by rw [if_neg q] at h; exact h, fun q => by rw [if_pos q] at h; exact h⟩
theorem k_geti {ci : Nat} {C : String} {T : u_T} {N : Nat} {ty : Nat → FieldType} (hc : zCls ci C T N ty) {idx j k : Nat} (hd : decode M.2.1 pc = .ok (.getfield idx, 3)) (hw : Cond.fieldLink M.1.cls idx (T j).1 (T j).2.1 (T j).2.2.1 ∈ zWs) (hj : j < N) (hf : (zft ci).getD j false = false) (hk : k < 63) (hs : (zSH k).1 = ci) (kk : Z X M (pc + 3) lv (.int (f k j) :: st) (zC f)) : Z X M pc lv (.ref k :: st) (zC f) := z_geti hc hd hw hj hf hk hs kk
theorem k_getr {ci : Nat} {C : String} {T : u_T} {N : Nat} {ty : Nat → FieldType} (hc : zCls ci C T N ty) {idx j k k2 : Nat} (hd : decode M.2.1 pc = .ok (.getfield idx, 3)) (hw : Cond.fieldLink M.1.cls idx (T j).1 (T j).2.1 (T j).2.2.1 ∈ zWs) (hj : j < N) (hf : (zft ci).getD j false = true) (hk : k < 63) (hs : (zSH k).1 = ci) (hr2 : zRF k j = some k2) (kk : Z X M (pc + 3) lv (.ref k2 :: st) (zC f)) : Z X M pc lv (.ref k :: st) (zC f) := z_getr hc hd hw hj hf hk hs hr2 kk
theorem k_puti {ci : Nat} {C : String} {T : u_T} {N : Nat} {ty : Nat → FieldType} (hc : zCls ci C T N ty) {idx j k : Nat} {v : Int32} (hd : decode M.2.1 pc = .ok (.putfield idx, 3)) (hw : Cond.fieldLink M.1.cls idx (T j).1 (T j).2.1 (T j).2.2.1 ∈ zWs) (hj : j < N) (hf : (zft ci).getD j false = false) (hfin : (T j).2.2.2 = false) (hty : ty j = .int) (hk : k < 63) (hs : (zSH k).1 = ci) (kk : Z X M (pc + 3) lv st (zC (zup f k j v))) : Z X M pc lv (.int v :: .ref k :: st) (zC f) := z_puti hc hd hw hj hf hfin hty hk hs kk
theorem k_iald {k n : Nat} {i : Int32} (hd : decode M.2.1 pc = .ok (.iaload, 1)) (hk : k < 63) (hs : zSH k = (8, n)) (hi : vp_in i n) (kk : Z X M (pc + 1) lv (.int (f k i.toNatClampNeg) :: st) (zC f)) : Z X M pc lv (.int i :: .ref k :: st) (zC f) := z_iald hd hk hs hi kk
theorem k_iast {k n : Nat} {i v : Int32} (hd : decode M.2.1 pc = .ok (.iastore, 1)) (hk : k < 63) (hs : zSH k = (8, n)) (hi : vp_in i n) (kk : Z X M (pc + 1) lv st (zC (zup f k i.toNatClampNeg v))) : Z X M pc lv (.int v :: .int i :: .ref k :: st) (zC f) := z_iast hd hk hs hi kk
theorem k_zald {k n : Nat} {i : Int32} (hd : decode M.2.1 pc = .ok (.baload, 1)) (hk : k < 63) (hs : zSH k = (9, n)) (hi : vp_in i n) (kk : Z X M (pc + 1) lv (.int (f k i.toNatClampNeg) :: st) (zC f)) : Z X M pc lv (.int i :: .ref k :: st) (zC f) := z_zald hd hk hs hi kk
theorem k_zast {k n : Nat} {i v : Int32} (hd : decode M.2.1 pc = .ok (.bastore, 1)) (hk : k < 63) (hs : zSH k = (9, n)) (hi : vp_in i n) (hv : vp_nar .boolean v = v) (kk : Z X M (pc + 1) lv st (zC (zup f k i.toNatClampNeg v))) : Z X M pc lv (.int v :: .int i :: .ref k :: st) (zC f) := z_zast hd hk hs hi hv kk
theorem k_aald {k n cq k2 : Nat} {i : Int32} (hd : decode M.2.1 pc = .ok (.aaload, 1)) (hk : k < 63) (hs : zSH k = (cq + 10, n)) (hq : cq < 2) (hi : vp_in i n) (hr2 : zRF k i.toNatClampNeg = some k2) (kk : Z X M (pc + 1) lv (.ref k2 :: st) (zC f)) : Z X M pc lv (.int i :: .ref k :: st) (zC f) := z_aald hd hk hs hq hi hr2 kk
theorem k_alen {k n t : Nat} {v : Int32} (hd : decode M.2.1 pc = .ok (.arraylength, 1)) (hk : k < 63) (hs : zSH k = (t + 8, n)) (ht : t < 4) (hv : Int32.ofNat n = v) (kk : Z X M (pc + 1) lv (.int v :: st) (zC f)) : Z X M pc lv (.ref k :: st) (zC f) := z_alen hd hk hs ht hv kk
theorem k_iret {K : Int32 → zF → Prop} {v : Int32} {ty : FieldType} (hR : kR X (zRi K)) (hd : decode M.2.1 pc = .ok (.ireturn, 1)) (hty : M.2.2.2.1 = some ty) (hv : narrow ty (.int v) = .int v) (h : K v f) : Z X M pc lv [.int v] (zC f) := z_iret hR hd hty hv ⟨v, f, rfl, rfl, h⟩
theorem k_vret {K : zF → Prop} (hR : kR X (zRv K)) (hd : decode M.2.1 pc = .ok (.return_, 1)) (hty : M.2.2.2.1 = none) (h : K f) : Z X M pc lv [] (zC f) := z_vret hR hd hty ⟨f, rfl, rfl, h⟩
theorem k_lret {K : Int64 → zF → Prop} {v : Int64} (hR : kR X (zRl K)) (hd : decode M.2.1 pc = .ok (.lreturn, 1)) (hty : M.2.2.2.1 = some .long) (h : K v f) : Z X M pc lv [.long v] (zC f) := z_lret hR hd hty ⟨v, f, rfl, rfl, h⟩
theorem k_aret {K : Option Nat → zF → Prop} {k : Nat} {C : String} (hR : kR X (zRq K)) (hd : decode M.2.1 pc = .ok (.areturn, 1)) (hty : M.2.2.2.1 = some (.object C)) (h : K (some k) f) : Z X M pc lv [.ref k] (zC f) := z_aret (r := some k) hR hd hty ⟨some k, f, rfl, rfl, h⟩
theorem k_aretN {K : Option Nat → zF → Prop} {C : String} (hR : kR X (zRq K)) (hd : decode M.2.1 pc = .ok (.areturn, 1)) (hty : M.2.2.2.1 = some (.object C)) (h : K none f) : Z X M pc lv [.null] (zC f) := z_aret (r := none) hR hd hty ⟨none, f, rfl, rfl, h⟩
def zcpyF (f : zF) (q0 q1 sp dp n : Nat) : zF := fun q => if q = q1 then va_cpy (f q0) (f q1) sp dp n else f q
theorem k_copyi {idx q0 q1 n0' n1 : Nat} {sp dp n : Int32} (hd : decode M.2.1 pc = .ok (.invokestatic idx, 3)) (hw : ∀ w ∈ [Cond.methodLink M.1.cls idx arraycopyName, .static arraycopyName, .initialized "java/lang/System", .native arraycopyName], w ∈ zWs) (hD : 1 ≤ M.2.2.2.2) (hst : Nat.ble ((st.map fun v => v.category).sum) 4 = true) (hk0 : q0 < 63) (hk1 : q1 < 63) (hs0 : zSH q0 = (8, n0')) (hs1 : zSH q1 = (8, n1)) (h1 : ¬ sp < 0) (h2 : ¬ dp < 0) (h3 : ¬ n < 0) (h4 : sp.toNatClampNeg + n.toNatClampNeg ≤ n0') (h5 : dp.toNatClampNeg + n.toNatClampNeg ≤ n1) (kk : Z X M (pc + 3) lv st (zC (zcpyF f q0 q1 sp.toNatClampNeg dp.toNatClampNeg n.toNatClampNeg))) : Z X M pc lv (.int n :: .int dp :: .ref q1 :: .int sp :: .ref q0 :: st) (zC f) := z_copyi hd hw hD hst hk0 hk1 hs0 hs1 h1 h2 h3 h4 h5 kk
theorem k_cVi {idx n k cx : Nat} {C : String} {T : u_T} {N : Nat} {ty : Nat → FieldType} {M' : zMt} {av : List Value} {K : Int32 → zF → Prop} (hc : zCls cx C T N ty) (hC : M'.1.cls = C) (hd : decode M.2.1 pc = .ok (.invokevirtual idx, 3)) (lk : zLkV M.1.cls idx M' n) (hn : av.length = n) (hD : M'.2.2.2.2 + 1 ≤ M.2.2.2.2) (hL : M'.2.2.1 ≤ 9) (hk : k < 63) (hs : (zSH k).1 = cx) (hst : Nat.ble ((st.map fun v => v.category).sum) 8 = true) (hM : ci M' (.ref k :: av) f K) (kk : ∀ (r : Int32) (f' : zF), K r f' → Z X M (pc + 3) lv (.int r :: st) (zC f')) : Z X M pc lv (av.reverse ++ .ref k :: st) (zC f) := z_callV hc hC hd lk hn hD hL hk hs hst hM (fun v S' h => by
  obtain ⟨r, f', h1, h2, h3⟩ := h
  subst h1
  subst h2
  exact ⟨⟨rfl, rfl⟩, kk r f' h3⟩)
theorem k_cSi {idx n : Nat} {M' : zMt} {av : List Value} {K : Int32 → zF → Prop} (hd : decode M.2.1 pc = .ok (.invokestatic idx, 3)) (lk : zLkS M.1.cls idx M' n ∨ zLkN M.1.cls idx M' n) (hn : av.length = n) (hD : M'.2.2.2.2 + 1 ≤ M.2.2.2.2) (hL : M'.2.2.1 ≤ 9) (hst : Nat.ble ((st.map fun v => v.category).sum) 8 = true) (hM : ci M' av f K) (kk : ∀ (r : Int32) (f' : zF), K r f' → Z X M (pc + 3) lv (.int r :: st) (zC f')) : Z X M pc lv (av.reverse ++ st) (zC f) := z_callS hd lk hn hD hL hst hM (fun v S' h => by
  obtain ⟨r, f', h1, h2, h3⟩ := h
  subst h1
  subst h2
  exact ⟨⟨rfl, rfl⟩, kk r f' h3⟩)
theorem k_cTi {idx n i : Nat} {M' : zMt} {av : List Value} {K : Int32 → zF → Prop} (hC : M'.1.cls = "java/lang/String") (hd : decode M.2.1 pc = .ok (.invokevirtual idx, 3)) (lk : zLkV M.1.cls idx M' n) (hn : av.length = n) (hD : M'.2.2.2.2 + 1 ≤ M.2.2.2.2) (hL : M'.2.2.1 ≤ 9) (hi : i < 8) (hst : Nat.ble ((st.map fun v => v.category).sum) 8 = true) (hM : ci M' (.ref (1000 + i) :: av) f K) (kk : ∀ (r : Int32) (f' : zF), K r f' → Z X M (pc + 3) lv (.int r :: st) (zC f')) : Z X M pc lv (av.reverse ++ .ref (1000 + i) :: st) (zC f) := z_callT hC hd lk hn hD hL hi hst hM (fun v S' h => by
  obtain ⟨r, f', h1, h2, h3⟩ := h
  subst h1
  subst h2
  exact ⟨⟨rfl, rfl⟩, kk r f' h3⟩)
theorem k_cVq {idx n k cx : Nat} {C : String} {T : u_T} {N : Nat} {ty : Nat → FieldType} {M' : zMt} {av : List Value} {K : Option Nat → zF → Prop} (hc : zCls cx C T N ty) (hC : M'.1.cls = C) (hd : decode M.2.1 pc = .ok (.invokevirtual idx, 3)) (lk : zLkV M.1.cls idx M' n) (hn : av.length = n) (hD : M'.2.2.2.2 + 1 ≤ M.2.2.2.2) (hL : M'.2.2.1 ≤ 9) (hk : k < 63) (hs : (zSH k).1 = cx) (hst : Nat.ble ((st.map fun v => v.category).sum) 8 = true) (hM : cq M' (.ref k :: av) f K) (kk : ∀ (r : Option Nat) (f' : zF), K r f' → Z X M (pc + 3) lv (va_rf r :: st) (zC f')) : Z X M pc lv (av.reverse ++ .ref k :: st) (zC f) := z_callV hc hC hd lk hn hD hL hk hs hst hM (fun v S' h => by
  obtain ⟨r, f', h1, h2, h3⟩ := h
  subst h1
  subst h2
  exact ⟨⟨rfl, rfl⟩, kk r f' h3⟩)
theorem k_cSq {idx n : Nat} {M' : zMt} {av : List Value} {K : Option Nat → zF → Prop} (hd : decode M.2.1 pc = .ok (.invokestatic idx, 3)) (lk : zLkS M.1.cls idx M' n ∨ zLkN M.1.cls idx M' n) (hn : av.length = n) (hD : M'.2.2.2.2 + 1 ≤ M.2.2.2.2) (hL : M'.2.2.1 ≤ 9) (hst : Nat.ble ((st.map fun v => v.category).sum) 8 = true) (hM : cq M' av f K) (kk : ∀ (r : Option Nat) (f' : zF), K r f' → Z X M (pc + 3) lv (va_rf r :: st) (zC f')) : Z X M pc lv (av.reverse ++ st) (zC f) := z_callS hd lk hn hD hL hst hM (fun v S' h => by
  obtain ⟨r, f', h1, h2, h3⟩ := h
  subst h1
  subst h2
  exact ⟨⟨rfl, rfl⟩, kk r f' h3⟩)
theorem k_cVl {idx n k cx : Nat} {C : String} {T : u_T} {N : Nat} {ty : Nat → FieldType} {M' : zMt} {av : List Value} {K : Int64 → zF → Prop} (hc : zCls cx C T N ty) (hC : M'.1.cls = C) (hd : decode M.2.1 pc = .ok (.invokevirtual idx, 3)) (lk : zLkV M.1.cls idx M' n) (hn : av.length = n) (hD : M'.2.2.2.2 + 1 ≤ M.2.2.2.2) (hL : M'.2.2.1 ≤ 9) (hk : k < 63) (hs : (zSH k).1 = cx) (hst : Nat.ble ((st.map fun v => v.category).sum) 8 = true) (hM : cl M' (.ref k :: av) f K) (kk : ∀ (r : Int64) (f' : zF), K r f' → Z X M (pc + 3) lv (.long r :: st) (zC f')) : Z X M pc lv (av.reverse ++ .ref k :: st) (zC f) := z_callV hc hC hd lk hn hD hL hk hs hst hM (fun v S' h => by
  obtain ⟨r, f', h1, h2, h3⟩ := h
  subst h1
  subst h2
  exact ⟨⟨rfl, rfl⟩, kk r f' h3⟩)
theorem k_cSl {idx n : Nat} {M' : zMt} {av : List Value} {K : Int64 → zF → Prop} (hd : decode M.2.1 pc = .ok (.invokestatic idx, 3)) (lk : zLkS M.1.cls idx M' n ∨ zLkN M.1.cls idx M' n) (hn : av.length = n) (hD : M'.2.2.2.2 + 1 ≤ M.2.2.2.2) (hL : M'.2.2.1 ≤ 9) (hst : Nat.ble ((st.map fun v => v.category).sum) 8 = true) (hM : cl M' av f K) (kk : ∀ (r : Int64) (f' : zF), K r f' → Z X M (pc + 3) lv (.long r :: st) (zC f')) : Z X M pc lv (av.reverse ++ st) (zC f) := z_callS hd lk hn hD hL hst hM (fun v S' h => by
  obtain ⟨r, f', h1, h2, h3⟩ := h
  subst h1
  subst h2
  exact ⟨⟨rfl, rfl⟩, kk r f' h3⟩)
theorem k_cVv {idx n k cx : Nat} {C : String} {T : u_T} {N : Nat} {ty : Nat → FieldType} {M' : zMt} {av : List Value} {K : zF → Prop} (hc : zCls cx C T N ty) (hC : M'.1.cls = C) (hd : decode M.2.1 pc = .ok (.invokevirtual idx, 3)) (lk : zLkV M.1.cls idx M' n) (hn : av.length = n) (hD : M'.2.2.2.2 + 1 ≤ M.2.2.2.2) (hL : M'.2.2.1 ≤ 9) (hk : k < 63) (hs : (zSH k).1 = cx) (hst : Nat.ble ((st.map fun v => v.category).sum) 8 = true) (hM : cv M' (.ref k :: av) f K) (kk : ∀ (f' : zF), K f' → Z X M (pc + 3) lv st (zC f')) : Z X M pc lv (av.reverse ++ .ref k :: st) (zC f) := z_callV hc hC hd lk hn hD hL hk hs hst hM (fun v S' h => by
  obtain ⟨f', h1, h2, h3⟩ := h
  subst h1
  subst h2
  exact ⟨⟨rfl, rfl⟩, kk f' h3⟩)
theorem k_cSv {idx n : Nat} {M' : zMt} {av : List Value} {K : zF → Prop} (hd : decode M.2.1 pc = .ok (.invokestatic idx, 3)) (lk : zLkS M.1.cls idx M' n ∨ zLkN M.1.cls idx M' n) (hn : av.length = n) (hD : M'.2.2.2.2 + 1 ≤ M.2.2.2.2) (hL : M'.2.2.1 ≤ 9) (hst : Nat.ble ((st.map fun v => v.category).sum) 8 = true) (hM : cv M' av f K) (kk : ∀ (f' : zF), K f' → Z X M (pc + 3) lv st (zC f')) : Z X M pc lv (av.reverse ++ st) (zC f) := z_callS hd lk hn hD hL hst hM (fun v S' h => by
  obtain ⟨f', h1, h2, h3⟩ := h
  subst h1
  subst h2
  exact ⟨⟨rfl, rfl⟩, kk f' h3⟩)
end ZK
theorem zNw_at {w : Cond} (i : Nat) (h : lw_tbl[i]? = some w) (g : zIsNest w = true) : w ∈ zNw := List.mem_filter.mpr ⟨List.mem_of_getElem? h, g⟩
end
section
/-! ===== methods, links, constants: by program out of the tables ===== -/
abbrev mJ0_charAt_5068e : zMt := (yJ0_charAt_5068e, cJ0_charAt_5068e, 2, (some .char), 4)
abbrev mJ0_checkIndex_df160 : zMt := (yJ0_checkIndex_df160, cJ0_checkIndex_df160, 2, none, 1)
abbrev mJ0_coder_7d493 : zMt := (yJ0_coder_7d493, cJ0_coder_7d493, 1, (some .byte), 0)
abbrev mJ0_isLatin1_aae02 : zMt := (yJ0_isLatin1_aae02, cJ0_isLatin1_aae02, 1, (some .boolean), 0)
abbrev mJ0_length_8abf5 : zMt := (yJ0_length_8abf5, cJ0_length_8abf5, 1, (some .int), 1)
abbrev mJ1_charAt_3b067 : zMt := (yJ1_charAt_3b067, cJ1_charAt_3b067, 2, (some .char), 2)
abbrev mJ2_charAt_3b067 : zMt := (yJ2_charAt_3b067, cJ2_charAt_3b067, 2, (some .char), 3)
abbrev mJ2_checkIndex_2214a : zMt := (yJ2_checkIndex_2214a, cJ2_checkIndex_2214a, 2, none, 2)
abbrev mJ2_getChar_3b067 : zMt := (yJ2_getChar_3b067, cJ2_getChar_3b067, 2, (some .char), 1)
abbrev mJ2_length_9d52b : zMt := (yJ2_length_9d52b, cJ2_length_9d52b, 1, (some .int), 0)
abbrev mJ3_checkIndex_8e157 : zMt := (yJ3_checkIndex_8e157, cJ3_checkIndex_8e157, 3, (some .int), 0)
abbrev mJ6_bitCount_0f7a4 : zMt := (yJ6_bitCount_0f7a4, cJ6_bitCount_0f7a4, 1, (some .int), 0)
abbrev mJ9_max_7cf53 : zMt := (yJ9_max_7cf53, cJ9_max_7cf53, 2, (some .int), 0)
abbrev mJ9_min_7cf53 : zMt := (yJ9_min_7cf53, cJ9_min_7cf53, 2, (some .int), 0)
abbrev mX0_forgetAll : zMt := (yX0_forgetAll, cX0_forgetAll, 1, none, 0)
abbrev mX0_forgetLatest : zMt := (yX0_forgetLatest, cX0_forgetLatest, 1, none, 1)
abbrev mX0_init : zMt := (yX0_init, cX0_init, 1, none, 1)
abbrev mX0_keep : zMt := (yX0_keep, cX0_keep, 4, none, 1)
abbrev mX0_latestLetter : zMt := (yX0_latestLetter, cX0_latestLetter, 1, (some .int), 1)
abbrev mX0_latestPlace : zMt := (yX0_latestPlace, cX0_latestPlace, 1, (some .int), 1)
abbrev mX0_latestSide : zMt := (yX0_latestSide, cX0_latestSide, 1, (some .int), 1)
abbrev mX1_answer : zMt := (yX1_answer, cX1_answer, 5, (some .int), 5)
abbrev mX1_begin : zMt := (yX1_begin, cX1_begin, 2, none, 1)
abbrev mX1_init : zMt := (yX1_init, cX1_init, 1, none, 1)
abbrev mX1_markOfAny : zMt := (yX1_markOfAny, cX1_markOfAny, 2, (some .int), 2)
abbrev mX1_markOfMark : zMt := (yX1_markOfMark, cX1_markOfMark, 3, (some .int), 4)
abbrev mX1_markOfPlain : zMt := (yX1_markOfPlain, cX1_markOfPlain, 5, (some .int), 3)
abbrev mX1_sizeOfAny : zMt := (yX1_sizeOfAny, cX1_sizeOfAny, 3, (some .int), 2)
abbrev mX1_sizeOfMark : zMt := (yX1_sizeOfMark, cX1_sizeOfMark, 5, (some .int), 3)
abbrev mX1_sizeOfPlain : zMt := (yX1_sizeOfPlain, cX1_sizeOfPlain, 5, (some .int), 4)
abbrev mX1_traced : zMt := (yX1_traced, cX1_traced, 2, (some .int), 1)
abbrev mX2_addLetter : zMt := (yX2_addLetter, cX2_addLetter, 3, none, 2)
abbrev mX2_addPlace : zMt := (yX2_addPlace, cX2_addPlace, 2, none, 1)
abbrev mX2_behindFor : zMt := (yX2_behindFor, cX2_behindFor, 3, (some .int), 5)
abbrev mX2_behindToRead : zMt := (yX2_behindToRead, cX2_behindToRead, 5, (some .int), 4)
abbrev mX2_canBeABack : zMt := (yX2_canBeABack, cX2_canBeABack, 3, (some .boolean), 2)
abbrev mX2_cellsOf : zMt := (yX2_cellsOf, cX2_cellsOf, 2, (some .int), 1)
abbrev mX2_fewestAnew : zMt := (yX2_fewestAnew, cX2_fewestAnew, 9, (some .int), 5)
abbrev mX2_fitting : zMt := (yX2_fitting, cX2_fitting, 5, (some .int), 2)
abbrev mX2_harmOf : zMt := (yX2_harmOf, cX2_harmOf, 5, (some .int), 4)
abbrev mX2_hasLetter : zMt := (yX2_hasLetter, cX2_hasLetter, 2, (some .boolean), 0)
abbrev mX2_hasPlace : zMt := (yX2_hasPlace, cX2_hasPlace, 3, (some .boolean), 0)
abbrev mX2_init : zMt := (yX2_init, cX2_init, 1, none, 1)
abbrev mX2_isDoubt : zMt := (yX2_isDoubt, cX2_isDoubt, 5, (some .boolean), 4)
abbrev mX2_isThere : zMt := (yX2_isThere, cX2_isThere, 1, (some .boolean), 0)
abbrev mX2_kindOf : zMt := (yX2_kindOf, cX2_kindOf, 2, (some .int), 1)
abbrev mX2_leastOff : zMt := (yX2_leastOff, cX2_leastOff, 2, (some .int), 3)
abbrev mX2_letterAt : zMt := (yX2_letterAt, cX2_letterAt, 3, (some .int), 1)
abbrev mX2_letterBehind : zMt := (yX2_letterBehind, cX2_letterBehind, 3, (some .int), 2)
abbrev mX2_makeEmpty : zMt := (yX2_makeEmpty, cX2_makeEmpty, 1, none, 0)
abbrev mX2_nearest : zMt := (yX2_nearest, cX2_nearest, 4, (some .int), 2)
abbrev mX2_offOf : zMt := (yX2_offOf, cX2_offOf, 3, (some .int), 1)
abbrev mX2_placesLeftAsTheyStand : zMt := (yX2_placesLeftAsTheyStand, cX2_placesLeftAsTheyStand, 3, (some .int), 4)
abbrev mX2_putLetter : zMt := (yX2_putLetter, cX2_putLetter, 4, none, 1)
abbrev mX2_readOf : zMt := (yX2_readOf, cX2_readOf, 3, (some .int), 3)
abbrev mX2_shownByDamp : zMt := (yX2_shownByDamp, cX2_shownByDamp, 8, (some .int), 3)
abbrev mX2_shownByLight : zMt := (yX2_shownByLight, cX2_shownByLight, 3, (some .int), 3)
abbrev mX2_shownOf : zMt := (yX2_shownOf, cX2_shownOf, 3, (some .int), 1)
abbrev mX2_takeAll : zMt := (yX2_takeAll, cX2_takeAll, 2, none, 2)
abbrev mX2_throughFor : zMt := (yX2_throughFor, cX2_throughFor, 2, (some .int), 1)
abbrev mX2_throughOf : zMt := (yX2_throughOf, cX2_throughOf, 2, (some .int), 1)
abbrev mX2_turnOver : zMt := (yX2_turnOver, cX2_turnOver, 3, none, 2)
abbrev mX3_fails : zMt := (yX3_fails, cX3_fails, 2, (some .boolean), 0)
abbrev mX3_init : zMt := (yX3_init, cX3_init, 1, none, 2)
abbrev mX3_readsBack : zMt := (yX3_readsBack, cX3_readsBack, 2, (some .boolean), 3)
abbrev mX3_readsEnd : zMt := (yX3_readsEnd, cX3_readsEnd, 1, (some .boolean), 1)
abbrev mX3_readsFront : zMt := (yX3_readsFront, cX3_readsFront, 2, (some .boolean), 3)
abbrev mX3_readsLaw : zMt := (yX3_readsLaw, cX3_readsLaw, 1, (some .boolean), 7)
abbrev mX3_readsLetter : zMt := (yX3_readsLetter, cX3_readsLetter, 2, (some .boolean), 7)
abbrev mX3_readsLetters : zMt := (yX3_readsLetters, cX3_readsLetters, 2, (some .boolean), 8)
abbrev mX3_readsPage : zMt := (yX3_readsPage, cX3_readsPage, 2, (some .boolean), 9)
abbrev mX3_readsSheet : zMt := (yX3_readsSheet, cX3_readsSheet, 1, (some .boolean), 7)
abbrev mX3_sortTold : zMt := (yX3_sortTold, cX3_sortTold, 1, (some .int), 6)
abbrev mX3_takesNumber : zMt := (yX3_takesNumber, cX3_takesNumber, 2, (some .boolean), 2)
abbrev mX3_takesSign : zMt := (yX3_takesSign, cX3_takesSign, 2, (some .boolean), 2)
abbrev mX3_takesWord : zMt := (yX3_takesWord, cX3_takesWord, 2, (some .boolean), 6)
abbrev mX4_holds : zMt := (yX4_holds, cX4_holds, 3, (some .boolean), 0)
abbrev mX4_init : zMt := (yX4_init, cX4_init, 1, none, 1)
abbrev mX4_isMissing : zMt := (yX4_isMissing, cX4_isMissing, 1, (some .boolean), 0)
abbrev mX4_itemAt : zMt := (yX4_itemAt, cX4_itemAt, 2, (some .int), 1)
abbrev mX4_make : zMt := (yX4_make, cX4_make, 4, none, 0)
abbrev mX4_makeMissing : zMt := (yX4_makeMissing, cX4_makeMissing, 1, none, 0)
abbrev mX4_store : zMt := (yX4_store, cX4_store, 3, none, 1)
abbrev mX4_takeItems : zMt := (yX4_takeItems, cX4_takeItems, 5, none, 2)
abbrev mX5_advance : zMt := (yX5_advance, cX5_advance, 2, none, 1)
abbrev mX5_append : zMt := (yX5_append, cX5_append, 5, (some .boolean), 1)
abbrev mX5_init : zMt := (yX5_init, cX5_init, 1, none, 1)
abbrev mX5_isWord : zMt := (yX5_isWord, cX5_isWord, 3, (some .boolean), 5)
abbrev mX5_makeEmpty : zMt := (yX5_makeEmpty, cX5_makeEmpty, 1, none, 0)
abbrev mX5_numberTold : zMt := (yX5_numberTold, cX5_numberTold, 3, (some .int), 1)
abbrev mX5_rewind : zMt := (yX5_rewind, cX5_rewind, 1, none, 2)
abbrev mX5_sortOf : zMt := (yX5_sortOf, cX5_sortOf, 1, (some .int), 0)
abbrev mX6_anew : zMt := (yX6_anew, cX6_anew, 7, (some .int), 6)
abbrev mX6_answerOfReading : zMt := (yX6_answerOfReading, cX6_answerOfReading, 3, (some .int), 5)
abbrev mX6_areCells : zMt := (yX6_areCells, cX6_areCells, 1, (some .boolean), 0)
abbrev mX6_as : zMt := (yX6_as, cX6_as, 3, (some .int), 2)
abbrev mX6_ask : zMt := (yX6_ask, cX6_ask, 3, (some .int), 6)
abbrev mX6_at : zMt := (yX6_at, cX6_at, 3, (some .int), 2)
abbrev mX6_behind : zMt := (yX6_behind, cX6_behind, 5, (some .int), 6)
abbrev mX6_cellsOrReading : zMt := (yX6_cellsOrReading, cX6_cellsOrReading, 3, (some .int), 3)
abbrev mX6_copy : zMt := (yX6_copy, cX6_copy, 8, (some .int), 3)
abbrev mX6_copyItems : zMt := (yX6_copyItems, cX6_copyItems, 5, none, 1)
abbrev mX6_count : zMt := (yX6_count, cX6_count, 2, (some .int), 5)
abbrev mX6_damp : zMt := (yX6_damp, cX6_damp, 5, (some .int), 4)
abbrev mX6_drop : zMt := (yX6_drop, cX6_drop, 4, (some .int), 1)
abbrev mX6_fault : zMt := (yX6_fault, cX6_fault, 1, (some .int), 0)
abbrev mX6_feed : zMt := (yX6_feed, cX6_feed, 4, (some .int), 2)
abbrev mX6_fits : zMt := (yX6_fits, cX6_fits, 3, (some .int), 3)
abbrev mX6_found : zMt := (yX6_found, cX6_found, 2, (some .int), 0)
abbrev mX6_harm : zMt := (yX6_harm, cX6_harm, 4, (some .int), 5)
abbrev mX6_hasBit : zMt := (yX6_hasBit, cX6_hasBit, 2, (some .boolean), 0)
abbrev mX6_image : zMt := (yX6_image, cX6_image, 3, (some .int), 3)
abbrev mX6_imageOf : zMt := (yX6_imageOf, cX6_imageOf, 2, (some (.object "LightSheets$Page")), 0)
abbrev mX6_init : zMt := (yX6_init, cX6_init, 2, none, 3)
abbrev mX6_isOfKind : zMt := (yX6_isOfKind, cX6_isOfKind, 4, (some .boolean), 0)
abbrev mX6_itemOf : zMt := (yX6_itemOf, cX6_itemOf, 2, (some .int), 0)
abbrev mX6_kind : zMt := (yX6_kind, cX6_kind, 2, (some .int), 2)
abbrev mX6_leastHarm : zMt := (yX6_leastHarm, cX6_leastHarm, 6, (some .int), 5)
abbrev mX6_letter : zMt := (yX6_letter, cX6_letter, 3, (some .int), 2)
abbrev mX6_light : zMt := (yX6_light, cX6_light, 5, (some .int), 6)
abbrev mX6_over : zMt := (yX6_over, cX6_over, 4, (some .int), 4)
abbrev mX6_page : zMt := (yX6_page, cX6_page, 1, (some .int), 10)
abbrev mX6_putItem : zMt := (yX6_putItem, cX6_putItem, 3, none, 0)
abbrev mX6_read : zMt := (yX6_read, cX6_read, 3, (some .int), 6)
abbrev mX6_refusalOfLetters : zMt := (yX6_refusalOfLetters, cX6_refusalOfLetters, 2, (some .int), 3)
abbrev mX6_restore : zMt := (yX6_restore, cX6_restore, 3, (some .int), 3)
abbrev mX6_row : zMt := (yX6_row, cX6_row, 5, (some .int), 1)
abbrev mX6_rowOf : zMt := (yX6_rowOf, cX6_rowOf, 2, (some (.object "LightSheets$Row")), 0)
abbrev mX6_rowsThere : zMt := (yX6_rowsThere, cX6_rowsThere, 4, (some .int), 1)
abbrev mX6_safe : zMt := (yX6_safe, cX6_safe, 2, (some .int), 5)
abbrev mX6_set : zMt := (yX6_set, cX6_set, 5, (some .int), 2)
abbrev mX6_status : zMt := (yX6_status, cX6_status, 1, (some .int), 0)
abbrev mX6_trace : zMt := (yX6_trace, cX6_trace, 2, (some .int), 2)
abbrev mX6_turn : zMt := (yX6_turn, cX6_turn, 1, (some .int), 3)
abbrev mX6_turned : zMt := (yX6_turned, cX6_turned, 1, (some .int), 0)
abbrev mX6_undo : zMt := (yX6_undo, cX6_undo, 1, (some .int), 3)
abbrev mX6_unfound : zMt := (yX6_unfound, cX6_unfound, 2, (some .int), 0)
abbrev mX6_ways : zMt := (yX6_ways, cX6_ways, 6, (some .int), 6)
abbrev mX6_write : zMt := (yX6_write, cX6_write, 5, (some .int), 2)
abbrev mX7_anew : zMt := (yX7_anew, cX7_anew, 7, (some .int), 4)
abbrev mX7_anewAt : zMt := (yX7_anewAt, cX7_anewAt, 7, (some .int), 3)
abbrev mX7_as : zMt := (yX7_as, cX7_as, 3, (some .int), 2)
abbrev mX7_ask : zMt := (yX7_ask, cX7_ask, 3, (some .int), 5)
abbrev mX7_at : zMt := (yX7_at, cX7_at, 3, (some .int), 2)
abbrev mX7_bad : zMt := (yX7_bad, cX7_bad, 2, none, 0)
abbrev mX7_barred : zMt := (yX7_barred, cX7_barred, 3, (some .int), 3)
abbrev mX7_began : zMt := (yX7_began, cX7_began, 2, none, 0)
abbrev mX7_begin : zMt := (yX7_begin, cX7_begin, 1, none, 2)
abbrev mX7_behind : zMt := (yX7_behind, cX7_behind, 4, (some .int), 4)
abbrev mX7_behindBy : zMt := (yX7_behindBy, cX7_behindBy, 5, (some .int), 3)
abbrev mX7_behindOf : zMt := (yX7_behindOf, cX7_behindOf, 3, (some .int), 1)
abbrev mX7_bits : zMt := (yX7_bits, cX7_bits, 3, (some .int), 0)
abbrev mX7_byteAt : zMt := (yX7_byteAt, cX7_byteAt, 2, (some .int), 0)
abbrev mX7_cellsOf : zMt := (yX7_cellsOf, cX7_cellsOf, 2, (some .int), 0)
abbrev mX7_copy : zMt := (yX7_copy, cX7_copy, 9, (some .int), 2)
abbrev mX7_count : zMt := (yX7_count, cX7_count, 4, (some .int), 3)
abbrev mX7_damp : zMt := (yX7_damp, cX7_damp, 8, (some .int), 2)
abbrev mX7_drop : zMt := (yX7_drop, cX7_drop, 2, (some .int), 2)
abbrev mX7_fault : zMt := (yX7_fault, cX7_fault, 1, (some .int), 0)
abbrev mX7_feed : zMt := (yX7_feed, cX7_feed, 5, (some .int), 1)
abbrev mX7_figures : zMt := (yX7_figures, cX7_figures, 3, (some .int), 0)
abbrev mX7_finding : zMt := (yX7_finding, cX7_finding, 2, (some .int), 0)
abbrev mX7_fits : zMt := (yX7_fits, cX7_fits, 5, (some .int), 2)
abbrev mX7_harm : zMt := (yX7_harm, cX7_harm, 3, (some .int), 4)
abbrev mX7_harmOf : zMt := (yX7_harmOf, cX7_harmOf, 5, (some .int), 3)
abbrev mX7_hasLetters : zMt := (yX7_hasLetters, cX7_hasLetters, 4, (some .boolean), 2)
abbrev mX7_image : zMt := (yX7_image, cX7_image, 3, (some .int), 1)
abbrev mX7_in : zMt := (yX7_in, cX7_in, 6, (some .boolean), 0)
abbrev mX7_init : zMt := (yX7_init, cX7_init, 1, none, 1)
abbrev mX7_isFigure : zMt := (yX7_isFigure, cX7_isFigure, 1, (some .boolean), 0)
abbrev mX7_isLetter : zMt := (yX7_isLetter, cX7_isLetter, 1, (some .boolean), 0)
abbrev mX7_isOf : zMt := (yX7_isOf, cX7_isOf, 2, (some .boolean), 0)
abbrev mX7_isOne : zMt := (yX7_isOne, cX7_isOne, 2, (some .boolean), 1)
abbrev mX7_isPlace : zMt := (yX7_isPlace, cX7_isPlace, 2, (some .boolean), 1)
abbrev mX7_isRow : zMt := (yX7_isRow, cX7_isRow, 1, (some .boolean), 1)
abbrev mX7_isSide : zMt := (yX7_isSide, cX7_isSide, 1, (some .boolean), 1)
abbrev mX7_isThere : zMt := (yX7_isThere, cX7_isThere, 1, (some .boolean), 0)
abbrev mX7_keep : zMt := (yX7_keep, cX7_keep, 2, none, 0)
abbrev mX7_kind : zMt := (yX7_kind, cX7_kind, 2, (some .int), 2)
abbrev mX7_kindBy : zMt := (yX7_kindBy, cX7_kindBy, 2, (some .int), 0)
abbrev mX7_kindOf : zMt := (yX7_kindOf, cX7_kindOf, 2, (some .int), 0)
abbrev mX7_leastHarm : zMt := (yX7_leastHarm, cX7_leastHarm, 5, (some .int), 4)
abbrev mX7_letter : zMt := (yX7_letter, cX7_letter, 3, (some .int), 2)
abbrev mX7_light : zMt := (yX7_light, cX7_light, 6, (some .int), 2)
abbrev mX7_markOf : zMt := (yX7_markOf, cX7_markOf, 4, (some .int), 3)
abbrev mX7_markSize : zMt := (yX7_markSize, cX7_markSize, 3, (some .int), 2)
abbrev mX7_must : zMt := (yX7_must, cX7_must, 2, none, 2)
abbrev mX7_mustEnd : zMt := (yX7_mustEnd, cX7_mustEnd, 1, none, 3)
abbrev mX7_name : zMt := (yX7_name, cX7_name, 4, (some .long), 0)
abbrev mX7_next : zMt := (yX7_next, cX7_next, 2, none, 1)
abbrev mX7_number : zMt := (yX7_number, cX7_number, 4, (some .int), 3)
abbrev mX7_on : zMt := (yX7_on, cX7_on, 3, (some .int), 0)
abbrev mX7_over : zMt := (yX7_over, cX7_over, 5, (some .int), 2)
abbrev mX7_page : zMt := (yX7_page, cX7_page, 2, (some .int), 6)
abbrev mX7_plainSize : zMt := (yX7_plainSize, cX7_plainSize, 2, (some .int), 1)
abbrev mX7_read : zMt := (yX7_read, cX7_read, 4, (some .int), 2)
abbrev mX7_readBy : zMt := (yX7_readBy, cX7_readBy, 3, (some .int), 2)
abbrev mX7_readFront : zMt := (yX7_readFront, cX7_readFront, 2, none, 4)
abbrev mX7_readLetter : zMt := (yX7_readLetter, cX7_readLetter, 3, none, 4)
abbrev mX7_readOf : zMt := (yX7_readOf, cX7_readOf, 5, (some .int), 1)
abbrev mX7_readSheet : zMt := (yX7_readSheet, cX7_readSheet, 3, none, 5)
abbrev mX7_restore : zMt := (yX7_restore, cX7_restore, 3, (some .int), 1)
abbrev mX7_row : zMt := (yX7_row, cX7_row, 5, (some .int), 2)
abbrev mX7_safe : zMt := (yX7_safe, cX7_safe, 2, (some .int), 4)
abbrev mX7_set : zMt := (yX7_set, cX7_set, 4, (some .int), 2)
abbrev mX7_sizeOf : zMt := (yX7_sizeOf, cX7_sizeOf, 4, (some .int), 4)
abbrev mX7_status : zMt := (yX7_status, cX7_status, 1, (some .int), 0)
abbrev mX7_throughOf : zMt := (yX7_throughOf, cX7_throughOf, 2, (some .int), 1)
abbrev mX7_trace : zMt := (yX7_trace, cX7_trace, 2, (some .int), 1)
abbrev mX7_turn : zMt := (yX7_turn, cX7_turn, 3, (some .int), 1)
abbrev mX7_turned : zMt := (yX7_turned, cX7_turned, 1, (some .int), 0)
abbrev mX7_undo : zMt := (yX7_undo, cX7_undo, 2, (some .int), 0)
abbrev mX7_ways : zMt := (yX7_ways, cX7_ways, 5, (some .int), 4)
abbrev mX7_write : zMt := (yX7_write, cX7_write, 5, (some .int), 2)
theorem lk_J0_492 : zLkV RJ0 492 mJ0_isLatin1_aae02 0 := ⟨zWs_r _ [389, 390, 391, 74, 392] (by decide +kernel) (by decide +kernel), by decide +kernel⟩
theorem fl_J0_9 : Cond.fieldLink RJ0 9 "java/lang/String" "value" "[B" ∈ zWs := zWs_at 1224 (by decide +kernel) rfl
theorem lk_J0_495 : zLkS RJ0 495 mJ1_charAt_3b067 2 ∨ zLkN RJ0 495 mJ1_charAt_3b067 2 := Or.inl ⟨zWs_r _ [393, 394, 75, 395] (by decide +kernel) (by decide +kernel), by decide +kernel⟩
theorem lk_J0_498 : zLkS RJ0 498 mJ2_charAt_3b067 2 ∨ zLkN RJ0 498 mJ2_charAt_3b067 2 := Or.inl ⟨zWs_r _ [404, 405, 77, 406] (by decide +kernel) (by decide +kernel), by decide +kernel⟩
theorem fl_J0_1053 : Cond.fieldLink RJ0 1053 "jdk/internal/util/Preconditions" "SIOOBE_FORMATTER" "Ljava/util/function/BiFunction;" ∈ zWs := zWs_at 399 (by decide +kernel) rfl
theorem lk_J0_1059 : zLkS RJ0 1059 mJ3_checkIndex_8e157 3 ∨ zLkN RJ0 1059 mJ3_checkIndex_8e157 3 := Or.inl ⟨zWs_r _ [401, 402, 76, 403] (by decide +kernel) (by decide +kernel), by decide +kernel⟩
theorem fl_J0_38 : Cond.fieldLink RJ0 38 "java/lang/String" "COMPACT_STRINGS" "Z" ∈ zWs := zWs_at 383 (by decide +kernel) rfl
theorem fl_J0_15 : Cond.fieldLink RJ0 15 "java/lang/String" "coder" "B" ∈ zWs := zWs_at 1225 (by decide +kernel) rfl
theorem lk_J0_335 : zLkV RJ0 335 mJ0_coder_7d493 0 := ⟨zWs_r _ [379, 380, 381, 74, 382] (by decide +kernel) (by decide +kernel), by decide +kernel⟩
theorem lk_J1_9 : zLkS RJ1 9 mJ0_checkIndex_df160 2 ∨ zLkN RJ1 9 mJ0_checkIndex_df160 2 := Or.inl ⟨zWs_r _ [396, 397, 74, 398] (by decide +kernel) (by decide +kernel), by decide +kernel⟩
theorem lk_J2_67 : zLkS RJ2 67 mJ2_checkIndex_2214a 2 ∨ zLkN RJ2 67 mJ2_checkIndex_2214a 2 := Or.inl ⟨zWs_r _ [407, 408, 77, 409] (by decide +kernel) (by decide +kernel), by decide +kernel⟩
theorem lk_J2_71 : zLkS RJ2 71 mJ2_getChar_3b067 2 ∨ zLkN RJ2 71 mJ2_getChar_3b067 2 := Or.inl ⟨zWs_r _ [414, 415, 77, 416] (by decide +kernel) (by decide +kernel), by decide +kernel⟩
theorem lk_J2_48 : zLkS RJ2 48 mJ2_length_9d52b 1 ∨ zLkN RJ2 48 mJ2_length_9d52b 1 := Or.inl ⟨zWs_r _ [410, 411, 77, 412] (by decide +kernel) (by decide +kernel), by decide +kernel⟩
theorem lk_J2_414 : zLkS RJ2 414 mJ0_checkIndex_df160 2 ∨ zLkN RJ2 414 mJ0_checkIndex_df160 2 := Or.inl ⟨zWs_r _ [413, 397, 74, 398] (by decide +kernel) (by decide +kernel), by decide +kernel⟩
theorem co_J6_265 : Cond.constant RJ6 265 (1431655765) ∈ zWs := zWs_at 626 (by decide +kernel) rfl
theorem co_J6_266 : Cond.constant RJ6 266 (858993459) ∈ zWs := zWs_at 627 (by decide +kernel) rfl
theorem co_J6_267 : Cond.constant RJ6 267 (252645135) ∈ zWs := zWs_at 628 (by decide +kernel) rfl
theorem nw_L_7 : ∀ w ∈ [Cond.classLink RL 7 RX6, .instantiable RX6 7, .initialized RX6], w ∈ zWs := zWs_r _ [80, 81, 65] (by decide +kernel) (by decide +kernel)
theorem lk_L_9 : zLkI RL 9 mX6_init 0 ∨ zLkJ RL 9 mX6_init 0 := Or.inl ⟨zWs_r _ [82, 83, 65, 84] (by decide +kernel) (by decide +kernel), rfl, rfl, by decide +kernel⟩
theorem nw_L_10 : ∀ w ∈ [Cond.classLink RL 10 RX7, .instantiable RX7 25, .initialized RX7], w ∈ zWs := zWs_r _ [831, 832, 72] (by decide +kernel) (by decide +kernel)
theorem lk_L_12 : zLkI RL 12 mX7_init 0 ∨ zLkJ RL 12 mX7_init 0 := Or.inl ⟨zWs_r _ [833, 834, 72, 835] (by decide +kernel) (by decide +kernel), rfl, rfl, by decide +kernel⟩
theorem lk_L_13 : zLkV RL 13 mX6_row 3 := ⟨zWs_r _ [257, 258, 259, 65, 260] (by decide +kernel) (by decide +kernel), by decide +kernel⟩
theorem lk_L_17 : zLkV RL 17 mX7_row 3 := ⟨zWs_r _ [914, 915, 916, 72, 917] (by decide +kernel) (by decide +kernel), by decide +kernel⟩
theorem lk_L_18 : zLkV RL 18 mX6_set 3 := ⟨zWs_r _ [279, 280, 281, 65, 282] (by decide +kernel) (by decide +kernel), by decide +kernel⟩
theorem lk_L_21 : zLkV RL 21 mX7_set 3 := ⟨zWs_r _ [932, 933, 934, 72, 935] (by decide +kernel) (by decide +kernel), by decide +kernel⟩
theorem lk_L_22 : zLkV RL 22 mX6_copy 5 := ⟨zWs_r _ [305, 306, 307, 65, 308] (by decide +kernel) (by decide +kernel), by decide +kernel⟩
theorem lk_L_26 : zLkV RL 26 mX7_copy 5 := ⟨zWs_r _ [936, 937, 938, 72, 939] (by decide +kernel) (by decide +kernel), by decide +kernel⟩
theorem lk_L_27 : zLkV RL 27 mX6_drop 1 := ⟨zWs_r _ [319, 320, 321, 65, 322] (by decide +kernel) (by decide +kernel), by decide +kernel⟩
theorem lk_L_31 : zLkV RL 31 mX7_drop 1 := ⟨zWs_r _ [940, 941, 942, 72, 943] (by decide +kernel) (by decide +kernel), by decide +kernel⟩
theorem co_L_32 : Cond.constantLong RL 32 (4294967295) ∈ zWs := zWs_at 1223 (by decide +kernel) rfl
theorem lk_L_34 : zLkV RL 34 mX6_feed 2 := ⟨zWs_r _ [327, 328, 329, 65, 330] (by decide +kernel) (by decide +kernel), by decide +kernel⟩
theorem lk_L_38 : zLkV RL 38 mX7_feed 2 := ⟨zWs_r _ [944, 945, 946, 72, 947] (by decide +kernel) (by decide +kernel), by decide +kernel⟩
theorem lk_L_39 : zLkV RL 39 mX6_page 0 := ⟨zWs_r _ [338, 339, 340, 65, 341] (by decide +kernel) (by decide +kernel), by decide +kernel⟩
theorem lk_L_43 : zLkV RL 43 mX7_page 0 := ⟨zWs_r _ [951, 952, 953, 72, 954] (by decide +kernel) (by decide +kernel), by decide +kernel⟩
theorem lk_L_44 : zLkV RL 44 mX6_fault 0 := ⟨zWs_r _ [509, 510, 511, 65, 512] (by decide +kernel) (by decide +kernel), by decide +kernel⟩
theorem lk_L_47 : zLkV RL 47 mX7_fault 0 := ⟨zWs_r _ [1022, 1023, 1024, 72, 1025] (by decide +kernel) (by decide +kernel), by decide +kernel⟩
theorem lk_L_48 : zLkV RL 48 mX6_write 3 := ⟨zWs_r _ [513, 514, 515, 65, 516] (by decide +kernel) (by decide +kernel), by decide +kernel⟩
theorem lk_L_51 : zLkV RL 51 mX7_write 3 := ⟨zWs_r _ [1026, 1027, 1028, 72, 1029] (by decide +kernel) (by decide +kernel), by decide +kernel⟩
theorem lk_L_52 : zLkV RL 52 mX6_turn 0 := ⟨zWs_r _ [539, 540, 541, 65, 542] (by decide +kernel) (by decide +kernel), by decide +kernel⟩
theorem lk_L_55 : zLkV RL 55 mX7_turn 0 := ⟨zWs_r _ [1049, 1050, 1051, 72, 1052] (by decide +kernel) (by decide +kernel), by decide +kernel⟩
theorem lk_L_56 : zLkV RL 56 mX6_undo 0 := ⟨zWs_r _ [554, 555, 556, 65, 557] (by decide +kernel) (by decide +kernel), by decide +kernel⟩
theorem lk_L_59 : zLkV RL 59 mX7_undo 0 := ⟨zWs_r _ [1058, 1059, 1060, 72, 1061] (by decide +kernel) (by decide +kernel), by decide +kernel⟩
theorem lk_L_60 : zLkV RL 60 mX6_at 2 := ⟨zWs_r _ [578, 579, 580, 65, 581] (by decide +kernel) (by decide +kernel), by decide +kernel⟩
theorem lk_L_64 : zLkV RL 64 mX7_at 2 := ⟨zWs_r _ [1062, 1063, 1064, 72, 1065] (by decide +kernel) (by decide +kernel), by decide +kernel⟩
theorem lk_L_65 : zLkV RL 65 mX6_letter 2 := ⟨zWs_r _ [582, 583, 584, 65, 585] (by decide +kernel) (by decide +kernel), by decide +kernel⟩
theorem lk_L_68 : zLkV RL 68 mX7_letter 2 := ⟨zWs_r _ [1066, 1067, 1068, 72, 1069] (by decide +kernel) (by decide +kernel), by decide +kernel⟩
theorem lk_L_69 : zLkV RL 69 mX6_light 3 := ⟨zWs_r _ [595, 596, 597, 65, 598] (by decide +kernel) (by decide +kernel), by decide +kernel⟩
theorem lk_L_72 : zLkV RL 72 mX7_light 3 := ⟨zWs_r _ [1085, 1086, 1087, 72, 1088] (by decide +kernel) (by decide +kernel), by decide +kernel⟩
theorem lk_L_73 : zLkV RL 73 mX6_damp 4 := ⟨zWs_r _ [639, 640, 641, 65, 642] (by decide +kernel) (by decide +kernel), by decide +kernel⟩
theorem lk_L_77 : zLkV RL 77 mX7_damp 4 := ⟨zWs_r _ [1101, 1102, 1103, 72, 1104] (by decide +kernel) (by decide +kernel), by decide +kernel⟩
theorem lk_L_78 : zLkV RL 78 mX6_read 2 := ⟨zWs_r _ [656, 657, 658, 65, 659] (by decide +kernel) (by decide +kernel), by decide +kernel⟩
theorem lk_L_81 : zLkV RL 81 mX7_read 2 := ⟨zWs_r _ [1106, 1107, 1108, 72, 1109] (by decide +kernel) (by decide +kernel), by decide +kernel⟩
theorem lk_L_82 : zLkV RL 82 mX6_behind 2 := ⟨zWs_r _ [663, 664, 665, 65, 666] (by decide +kernel) (by decide +kernel), by decide +kernel⟩
theorem lk_L_85 : zLkV RL 85 mX7_behind 2 := ⟨zWs_r _ [1111, 1112, 1113, 72, 1114] (by decide +kernel) (by decide +kernel), by decide +kernel⟩
theorem lk_L_86 : zLkV RL 86 mX6_ways 1 := ⟨zWs_r _ [690, 691, 692, 65, 693] (by decide +kernel) (by decide +kernel), by decide +kernel⟩
theorem lk_L_89 : zLkV RL 89 mX7_ways 1 := ⟨zWs_r _ [1131, 1132, 1133, 72, 1134] (by decide +kernel) (by decide +kernel), by decide +kernel⟩
theorem lk_L_90 : zLkV RL 90 mX6_anew 1 := ⟨zWs_r _ [695, 696, 697, 65, 698] (by decide +kernel) (by decide +kernel), by decide +kernel⟩
theorem lk_L_93 : zLkV RL 93 mX7_anew 1 := ⟨zWs_r _ [1135, 1136, 1137, 72, 1138] (by decide +kernel) (by decide +kernel), by decide +kernel⟩
theorem lk_L_94 : zLkV RL 94 mX6_fits 2 := ⟨zWs_r _ [709, 710, 711, 65, 712] (by decide +kernel) (by decide +kernel), by decide +kernel⟩
theorem lk_L_97 : zLkV RL 97 mX7_fits 2 := ⟨zWs_r _ [1143, 1144, 1145, 72, 1146] (by decide +kernel) (by decide +kernel), by decide +kernel⟩
theorem lk_L_98 : zLkV RL 98 mX6_harm 1 := ⟨zWs_r _ [717, 718, 719, 65, 720] (by decide +kernel) (by decide +kernel), by decide +kernel⟩
theorem lk_L_101 : zLkV RL 101 mX7_harm 1 := ⟨zWs_r _ [1147, 1148, 1149, 72, 1150] (by decide +kernel) (by decide +kernel), by decide +kernel⟩
theorem lk_L_102 : zLkV RL 102 mX6_leastHarm 1 := ⟨zWs_r _ [725, 726, 727, 65, 728] (by decide +kernel) (by decide +kernel), by decide +kernel⟩
theorem lk_L_105 : zLkV RL 105 mX7_leastHarm 1 := ⟨zWs_r _ [1155, 1156, 1157, 72, 1158] (by decide +kernel) (by decide +kernel), by decide +kernel⟩
theorem lk_L_106 : zLkV RL 106 mX6_safe 1 := ⟨zWs_r _ [730, 731, 732, 65, 733] (by decide +kernel) (by decide +kernel), by decide +kernel⟩
theorem lk_L_109 : zLkV RL 109 mX7_safe 1 := ⟨zWs_r _ [1159, 1160, 1161, 72, 1162] (by decide +kernel) (by decide +kernel), by decide +kernel⟩
theorem lk_L_110 : zLkV RL 110 mX6_over 3 := ⟨zWs_r _ [735, 736, 737, 65, 738] (by decide +kernel) (by decide +kernel), by decide +kernel⟩
theorem lk_L_113 : zLkV RL 113 mX7_over 3 := ⟨zWs_r _ [1163, 1164, 1165, 72, 1166] (by decide +kernel) (by decide +kernel), by decide +kernel⟩
theorem lk_L_114 : zLkV RL 114 mX6_image 1 := ⟨zWs_r _ [739, 740, 741, 65, 742] (by decide +kernel) (by decide +kernel), by decide +kernel⟩
theorem lk_L_117 : zLkV RL 117 mX7_image 1 := ⟨zWs_r _ [1167, 1168, 1169, 72, 1170] (by decide +kernel) (by decide +kernel), by decide +kernel⟩
theorem lk_L_118 : zLkV RL 118 mX6_restore 1 := ⟨zWs_r _ [747, 748, 749, 65, 750] (by decide +kernel) (by decide +kernel), by decide +kernel⟩
theorem lk_L_121 : zLkV RL 121 mX7_restore 1 := ⟨zWs_r _ [1171, 1172, 1173, 72, 1174] (by decide +kernel) (by decide +kernel), by decide +kernel⟩
theorem lk_L_122 : zLkV RL 122 mX6_kind 1 := ⟨zWs_r _ [751, 752, 753, 65, 754] (by decide +kernel) (by decide +kernel), by decide +kernel⟩
theorem lk_L_125 : zLkV RL 125 mX7_kind 1 := ⟨zWs_r _ [1175, 1176, 1177, 72, 1178] (by decide +kernel) (by decide +kernel), by decide +kernel⟩
theorem lk_L_126 : zLkV RL 126 mX6_as 2 := ⟨zWs_r _ [756, 757, 758, 65, 759] (by decide +kernel) (by decide +kernel), by decide +kernel⟩
theorem lk_L_129 : zLkV RL 129 mX7_as 2 := ⟨zWs_r _ [1179, 1180, 1181, 72, 1182] (by decide +kernel) (by decide +kernel), by decide +kernel⟩
theorem lk_L_130 : zLkV RL 130 mX6_ask 2 := ⟨zWs_r _ [763, 764, 765, 65, 766] (by decide +kernel) (by decide +kernel), by decide +kernel⟩
theorem lk_L_133 : zLkV RL 133 mX7_ask 2 := ⟨zWs_r _ [1187, 1188, 1189, 72, 1190] (by decide +kernel) (by decide +kernel), by decide +kernel⟩
theorem lk_L_134 : zLkV RL 134 mX6_trace 1 := ⟨zWs_r _ [804, 805, 806, 65, 807] (by decide +kernel) (by decide +kernel), by decide +kernel⟩
theorem lk_L_137 : zLkV RL 137 mX7_trace 1 := ⟨zWs_r _ [1211, 1212, 1213, 72, 1214] (by decide +kernel) (by decide +kernel), by decide +kernel⟩
theorem lk_L_138 : zLkV RL 138 mX6_count 1 := ⟨zWs_r _ [814, 815, 816, 65, 817] (by decide +kernel) (by decide +kernel), by decide +kernel⟩
theorem lk_L_141 : zLkV RL 141 mX7_count 1 := ⟨zWs_r _ [1215, 1216, 1217, 72, 1218] (by decide +kernel) (by decide +kernel), by decide +kernel⟩
theorem lk_L_142 : zLkV RL 142 mX6_status 0 := ⟨zWs_r _ [827, 828, 829, 65, 830] (by decide +kernel) (by decide +kernel), by decide +kernel⟩
theorem lk_L_145 : zLkV RL 145 mX7_status 0 := ⟨zWs_r _ [1219, 1220, 1221, 72, 1222] (by decide +kernel) (by decide +kernel), by decide +kernel⟩
theorem fl_X0_25 : Cond.fieldLink RX0 25 (TX0 4).1 (TX0 4).2.1 (TX0 4).2.2.1 ∈ zWs := zWs_at 191 (by decide +kernel) rfl
theorem fl_X0_21 : Cond.fieldLink RX0 21 (TX0 3).1 (TX0 3).2.1 (TX0 3).2.2.1 ∈ zWs := zWs_at 190 (by decide +kernel) rfl
theorem lk_X0_42 : ∀ w ∈ [Cond.methodLink RX0 42 Lib.Math.max.name, .static Lib.Math.max.name, .initialized "java/lang/Math", .code Lib.Math.max.name Lib.Math.max.code 2 (some .int)], w ∈ zWs := zWs_r _ [575, 576, 78, 577] (by decide +kernel) (by decide +kernel)
theorem lk_X0_3 : ∀ w ∈ [Cond.methodLink RX0 3 Lib.objectInit, .instanceMethod Lib.objectInit, .code Lib.objectInit ⟨#[0xb1]⟩ 1 none], w ∈ zWs := zWs_r _ [186, 86, 87] (by decide +kernel) (by decide +kernel)
theorem fl_X0_9 : Cond.fieldLink RX0 9 (TX0 0).1 (TX0 0).2.1 (TX0 0).2.2.1 ∈ zWs := zWs_at 187 (by decide +kernel) rfl
theorem fl_X0_15 : Cond.fieldLink RX0 15 (TX0 1).1 (TX0 1).2.1 (TX0 1).2.2.1 ∈ zWs := zWs_at 188 (by decide +kernel) rfl
theorem fl_X0_18 : Cond.fieldLink RX0 18 (TX0 2).1 (TX0 2).2.1 (TX0 2).2.2.1 ∈ zWs := zWs_at 189 (by decide +kernel) rfl
theorem lk_X0_28 : ∀ w ∈ [Cond.methodLink RX0 28 Lib.Math.min.name, .static Lib.Math.min.name, .initialized "java/lang/Math", .code Lib.Math.min.name Lib.Math.min.code 2 (some .int)], w ∈ zWs := zWs_r _ [534, 535, 78, 536] (by decide +kernel) (by decide +kernel)
theorem lk_X0_34 : zLkS RX0 34 mX6_putItem 3 ∨ zLkN RX0 34 mX6_putItem 3 := Or.inr ⟨zNw_at 537 (by decide +kernel) rfl, zWs_r _ [296, 65, 297] (by decide +kernel) (by decide +kernel), by decide +kernel⟩
theorem lk_X0_38 : zLkS RX0 38 mX6_itemOf 2 ∨ zLkN RX0 38 mX6_itemOf 2 := Or.inr ⟨zNw_at 562 (by decide +kernel) rfl, zWs_r _ [303, 65, 304] (by decide +kernel) (by decide +kernel), by decide +kernel⟩
theorem fl_X1_15 : Cond.fieldLink RX1 15 (TX1 1).1 (TX1 1).2.1 (TX1 1).2.2.1 ∈ zWs := zWs_at 211 (by decide +kernel) rfl
theorem lk_X1_19 : zLkV RX1 19 mX2_kindOf 1 := ⟨zWs_r _ [771, 648, 649, 68, 650] (by decide +kernel) (by decide +kernel), by decide +kernel⟩
theorem lk_X1_25 : zLkS RX1 25 mX6_isOfKind 2 ∨ zLkN RX1 25 mX6_isOfKind 2 := Or.inr ⟨zNw_at 772 (by decide +kernel) rfl, zWs_r _ [761, 65, 762] (by decide +kernel) (by decide +kernel), by decide +kernel⟩
theorem lk_X1_29 : zLkV RX1 29 mX1_sizeOfMark 2 := ⟨zWs_r _ [773, 775, 22, 70, 776] (by decide +kernel) (by decide +kernel), by decide +kernel⟩
theorem lk_X1_33 : zLkV RX1 33 mX1_sizeOfPlain 2 := ⟨zWs_r _ [788, 790, 25, 70, 791] (by decide +kernel) (by decide +kernel), by decide +kernel⟩
theorem lk_X1_36 : zLkV RX1 36 mX1_markOfMark 2 := ⟨zWs_r _ [800, 802, 28, 70, 803] (by decide +kernel) (by decide +kernel), by decide +kernel⟩
theorem lk_X1_39 : zLkV RX1 39 mX1_markOfPlain 2 := ⟨zWs_r _ [792, 794, 26, 70, 795] (by decide +kernel) (by decide +kernel), by decide +kernel⟩
theorem fl_X1_9 : Cond.fieldLink RX1 9 (TX1 0).1 (TX1 0).2.1 (TX1 0).2.2.1 ∈ zWs := zWs_at 210 (by decide +kernel) rfl
theorem lk_X1_65 : zLkS RX1 65 mX6_putItem 3 ∨ zLkN RX1 65 mX6_putItem 3 := Or.inr ⟨zNw_at 781 (by decide +kernel) rfl, zWs_r _ [296, 65, 297] (by decide +kernel) (by decide +kernel), by decide +kernel⟩
theorem lk_X1_3 : ∀ w ∈ [Cond.methodLink RX1 3 Lib.objectInit, .instanceMethod Lib.objectInit, .code Lib.objectInit ⟨#[0xb1]⟩ 1 none], w ∈ zWs := zWs_r _ [209, 86, 87] (by decide +kernel) (by decide +kernel)
theorem lk_X1_47 : zLkV RX1 47 mX1_begin 1 := ⟨zWs_r _ [777, 779, 23, 70, 780] (by decide +kernel) (by decide +kernel), by decide +kernel⟩
theorem lk_X1_62 : zLkV RX1 62 mX1_markOfAny 1 := ⟨zWs_r _ [796, 798, 27, 70, 799] (by decide +kernel) (by decide +kernel), by decide +kernel⟩
theorem lk_X1_51 : zLkV RX1 51 mX2_cellsOf 1 := ⟨zWs_r _ [786, 587, 588, 68, 589] (by decide +kernel) (by decide +kernel), by decide +kernel⟩
theorem lk_X1_54 : zLkS RX1 54 mJ6_bitCount_0f7a4 1 ∨ zLkN RX1 54 mJ6_bitCount_0f7a4 1 := Or.inl ⟨zWs_r _ [787, 624, 79, 625] (by decide +kernel) (by decide +kernel), by decide +kernel⟩
theorem lk_X1_59 : zLkV RX1 59 mX1_sizeOfAny 2 := ⟨zWs_r _ [782, 784, 24, 70, 785] (by decide +kernel) (by decide +kernel), by decide +kernel⟩
theorem lk_X1_42 : zLkS RX1 42 mX6_itemOf 2 ∨ zLkN RX1 42 mX6_itemOf 2 := Or.inr ⟨zNw_at 812 (by decide +kernel) rfl, zWs_r _ [303, 65, 304] (by decide +kernel) (by decide +kernel), by decide +kernel⟩
theorem co_X1_46 : Cond.constant RX1 46 (-1000000) ∈ zWs := zWs_at 813 (by decide +kernel) rfl
theorem fl_X2_15 : Cond.fieldLink RX2 15 (TX2 4).1 (TX2 4).2.1 (TX2 4).2.2.1 ∈ zWs := zWs_at 139 (by decide +kernel) rfl
theorem fl_X2_27 : Cond.fieldLink RX2 27 (TX2 1).1 (TX2 1).2.1 (TX2 1).2.2.1 ∈ zWs := zWs_at 132 (by decide +kernel) rfl
theorem lk_X2_41 : zLkS RX2 41 mX6_putItem 3 ∨ zLkN RX2 41 mX6_putItem 3 := Or.inr ⟨zNw_at 462 (by decide +kernel) rfl, zWs_r _ [296, 65, 297] (by decide +kernel) (by decide +kernel), by decide +kernel⟩
theorem fl_X2_9 : Cond.fieldLink RX2 9 (TX2 3).1 (TX2 3).2.1 (TX2 3).2.2.1 ∈ zWs := zWs_at 138 (by decide +kernel) rfl
theorem fl_X2_18 : Cond.fieldLink RX2 18 (TX2 5).1 (TX2 5).2.1 (TX2 5).2.2.1 ∈ zWs := zWs_at 140 (by decide +kernel) rfl
theorem lk_X2_45 : zLkS RX2 45 mX2_throughFor 2 ∨ zLkN RX2 45 mX2_throughFor 2 := Or.inl ⟨zWs_r _ [463, 464, 68, 465] (by decide +kernel) (by decide +kernel), by decide +kernel⟩
theorem fl_X2_21 : Cond.fieldLink RX2 21 (TX2 6).1 (TX2 6).2.1 (TX2 6).2.2.1 ∈ zWs := zWs_at 141 (by decide +kernel) rfl
theorem fl_X2_31 : Cond.fieldLink RX2 31 (TX2 2).1 (TX2 2).2.1 (TX2 2).2.2.1 ∈ zWs := zWs_at 135 (by decide +kernel) rfl
theorem lk_X2_49 : zLkV RX2 49 mX2_letterAt 2 := ⟨zWs_r _ [552, 526, 527, 68, 528] (by decide +kernel) (by decide +kernel), by decide +kernel⟩
theorem lk_X2_82 : zLkV RX2 82 mX2_behindToRead 2 := ⟨zWs_r _ [682, 683, 684, 68, 685] (by decide +kernel) (by decide +kernel), by decide +kernel⟩
theorem lk_X2_85 : zLkV RX2 85 mX2_readOf 2 := ⟨zWs_r _ [686, 688, 20, 68, 689] (by decide +kernel) (by decide +kernel), by decide +kernel⟩
theorem lk_X2_98 : zLkV RX2 98 mX4_isMissing 0 := ⟨zWs_r _ [675, 284, 285, 71, 286] (by decide +kernel) (by decide +kernel), by decide +kernel⟩
theorem fl_X2_104 : Cond.fieldLink RX2 104 (TX4 2).1 (TX4 2).2.1 (TX4 2).2.2.1 ∈ zWs := zWs_at 227 (by decide +kernel) rfl
theorem lk_X2_107 : zLkV RX2 107 mX4_itemAt 1 := ⟨zWs_r _ [676, 299, 300, 71, 301] (by decide +kernel) (by decide +kernel), by decide +kernel⟩
theorem lk_X2_110 : zLkV RX2 110 mX2_hasLetter 1 := ⟨zWs_r _ [677, 522, 523, 68, 524] (by decide +kernel) (by decide +kernel), by decide +kernel⟩
theorem lk_X2_56 : zLkS RX2 56 mX6_itemOf 2 ∨ zLkN RX2 56 mX6_itemOf 2 := Or.inr ⟨zNw_at 529 (by decide +kernel) rfl, zWs_r _ [303, 65, 304] (by decide +kernel) (by decide +kernel), by decide +kernel⟩
theorem co_X2_88 : Cond.constant RX2 88 (-1000000) ∈ zWs := zWs_at 703 (by decide +kernel) rfl
theorem lk_X2_60 : zLkV RX2 60 mX2_letterBehind 2 := ⟨zWs_r _ [603, 604, 605, 68, 606] (by decide +kernel) (by decide +kernel), by decide +kernel⟩
theorem lk_X2_89 : zLkS RX2 89 mX6_hasBit 2 ∨ zLkN RX2 89 mX6_hasBit 2 := Or.inr ⟨zNw_at 704 (by decide +kernel) rfl, zWs_r _ [705, 65, 706] (by decide +kernel) (by decide +kernel), by decide +kernel⟩
theorem lk_X2_93 : ∀ w ∈ [Cond.methodLink RX2 93 Lib.Math.min.name, .static Lib.Math.min.name, .initialized "java/lang/Math", .code Lib.Math.min.name Lib.Math.min.code 2 (some .int)], w ∈ zWs := zWs_r _ [707, 535, 78, 536] (by decide +kernel) (by decide +kernel)
theorem lk_X2_63 : zLkV RX2 63 mX2_shownOf 2 := ⟨zWs_r _ [607, 609, 15, 68, 610] (by decide +kernel) (by decide +kernel), by decide +kernel⟩
theorem lk_X2_3 : ∀ w ∈ [Cond.methodLink RX2 3 Lib.objectInit, .instanceMethod Lib.objectInit, .code Lib.objectInit ⟨#[0xb1]⟩ 1 none], w ∈ zWs := zWs_r _ [129, 86, 87] (by decide +kernel) (by decide +kernel)
theorem fl_X2_24 : Cond.fieldLink RX2 24 (TX2 7).1 (TX2 7).2.1 (TX2 7).2.2.1 ∈ zWs := zWs_at 142 (by decide +kernel) rfl
theorem lk_X2_79 : zLkV RX2 79 mX2_leastOff 1 := ⟨zWs_r _ [638, 630, 631, 68, 632] (by decide +kernel) (by decide +kernel), by decide +kernel⟩
theorem lk_X2_73 : zLkV RX2 73 mX2_offOf 2 := ⟨zWs_r _ [619, 621, 17, 68, 622] (by decide +kernel) (by decide +kernel), by decide +kernel⟩
theorem lk_X2_76 : zLkV RX2 76 mX2_nearest 1 := ⟨zWs_r _ [633, 616, 617, 68, 618] (by decide +kernel) (by decide +kernel), by decide +kernel⟩
theorem fl_X2_34 : Cond.fieldLink RX2 34 (TX2 0).1 (TX2 0).2.1 (TX2 0).2.2.1 ∈ zWs := zWs_at 131 (by decide +kernel) rfl
theorem lk_X2_117 : zLkS RX2 117 mJ6_bitCount_0f7a4 1 ∨ zLkN RX2 117 mJ6_bitCount_0f7a4 1 := Or.inl ⟨zWs_r _ [623, 624, 79, 625] (by decide +kernel) (by decide +kernel), by decide +kernel⟩
theorem lk_X2_114 : zLkV RX2 114 mX2_shownByLight 2 := ⟨zWs_r _ [826, 600, 601, 68, 602] (by decide +kernel) (by decide +kernel), by decide +kernel⟩
theorem lk_X2_66 : zLkV RX2 66 mX2_kindOf 1 := ⟨zWs_r _ [647, 648, 649, 68, 650] (by decide +kernel) (by decide +kernel), by decide +kernel⟩
theorem lk_X2_70 : zLkV RX2 70 mX2_cellsOf 1 := ⟨zWs_r _ [651, 587, 588, 68, 589] (by decide +kernel) (by decide +kernel), by decide +kernel⟩
theorem lk_X2_37 : zLkS RX2 37 mX6_copyItems 5 ∨ zLkN RX2 37 mX6_copyItems 5 := Or.inr ⟨zNw_at 503 (by decide +kernel) rfl, zWs_r _ [314, 65, 315] (by decide +kernel) (by decide +kernel), by decide +kernel⟩
theorem lk_X2_122 : zLkS RX2 122 mX6_turned 1 ∨ zLkN RX2 122 mX6_turned 1 := Or.inr ⟨zNw_at 466 (by decide +kernel) rfl, zWs_r _ [467, 65, 468] (by decide +kernel) (by decide +kernel), by decide +kernel⟩
theorem lk_X2_52 : zLkV RX2 52 mX2_putLetter 3 := ⟨zWs_r _ [553, 487, 488, 68, 489] (by decide +kernel) (by decide +kernel), by decide +kernel⟩
theorem fl_X3_125 : Cond.fieldLink RX3 125 (TX3 2).1 (TX3 2).2.1 (TX3 2).2.2.1 ∈ zWs := zWs_at 165 (by decide +kernel) rfl
theorem fl_X3_12 : Cond.fieldLink RX3 12 (TX3 0).1 (TX3 0).2.1 (TX3 0).2.2.1 ∈ zWs := zWs_at 160 (by decide +kernel) rfl
theorem fl_X3_128 : Cond.fieldLink RX3 128 (TX5 3).1 (TX5 3).2.1 (TX5 3).2.2.1 ∈ zWs := zWs_at 110 (by decide +kernel) rfl
theorem fl_X3_131 : Cond.fieldLink RX3 131 (TX3 3).1 (TX3 3).2.1 (TX3 3).2.2.1 ∈ zWs := zWs_at 167 (by decide +kernel) rfl
theorem lk_X3_3 : ∀ w ∈ [Cond.methodLink RX3 3 Lib.objectInit, .instanceMethod Lib.objectInit, .code Lib.objectInit ⟨#[0xb1]⟩ 1 none], w ∈ zWs := zWs_r _ [97, 86, 87] (by decide +kernel) (by decide +kernel)
theorem nw_X3_9 : ∀ w ∈ [Cond.classLink RX3 9 RX5, .instantiable RX5 5, .initialized RX5], w ∈ zWs := zWs_r _ [98, 99, 67] (by decide +kernel) (by decide +kernel)
theorem lk_X3_11 : zLkI RX3 11 mX5_init 0 ∨ zLkJ RX3 11 mX5_init 0 := Or.inr ⟨zNw_at 100 (by decide +kernel) rfl, zWs_r _ [101, 67, 102] (by decide +kernel) (by decide +kernel), rfl, rfl, by decide +kernel⟩
theorem nw_X3_18 : ∀ w ∈ [Cond.classLink RX3 18 RX2, .instantiable RX2 8, .initialized RX2], w ∈ zWs := zWs_r _ [124, 125, 68] (by decide +kernel) (by decide +kernel)
theorem lk_X3_20 : zLkI RX3 20 mX2_init 0 ∨ zLkJ RX3 20 mX2_init 0 := Or.inr ⟨zNw_at 126 (by decide +kernel) rfl, zWs_r _ [127, 68, 128] (by decide +kernel) (by decide +kernel), rfl, rfl, by decide +kernel⟩
theorem fl_X3_21 : Cond.fieldLink RX3 21 (TX3 1).1 (TX3 1).2.1 (TX3 1).2.2.1 ∈ zWs := zWs_at 162 (by decide +kernel) rfl
theorem fl_X3_118 : Cond.fieldLink RX3 118 (TX2 2).1 (TX2 2).2.1 (TX2 2).2.2.1 ∈ zWs := zWs_at 137 (by decide +kernel) rfl
theorem fl_X3_108 : Cond.fieldLink RX3 108 (TX2 1).1 (TX2 1).2.1 (TX2 1).2.2.1 ∈ zWs := zWs_at 133 (by decide +kernel) rfl
theorem lk_X3_51 : zLkV RX3 51 mX3_takesNumber 1 := ⟨zWs_r _ [428, 430, 6, 66, 431] (by decide +kernel) (by decide +kernel), by decide +kernel⟩
theorem fl_X3_55 : Cond.fieldLink RX3 55 (TX3 4).1 (TX3 4).2.1 (TX3 4).2.2.1 ∈ zWs := zWs_at 168 (by decide +kernel) rfl
theorem lk_X3_121 : zLkV RX3 121 mX2_putLetter 3 := ⟨zWs_r _ [486, 487, 488, 68, 489] (by decide +kernel) (by decide +kernel), by decide +kernel⟩
theorem fl_X3_105 : Cond.fieldLink RX3 105 (TX5 2).1 (TX5 2).2.1 (TX5 2).2.2.1 ∈ zWs := zWs_at 108 (by decide +kernel) rfl
theorem lk_X3_73 : zLkV RX3 73 mX3_fails 1 := ⟨zWs_r _ [423, 425, 5, 66, 426] (by decide +kernel) (by decide +kernel), by decide +kernel⟩
theorem lk_X3_111 : zLkV RX3 111 mX2_addPlace 1 := ⟨zWs_r _ [478, 479, 480, 68, 481] (by decide +kernel) (by decide +kernel), by decide +kernel⟩
theorem lk_X3_115 : zLkV RX3 115 mX5_numberTold 0 := ⟨zWs_r _ [432, 433, 434, 67, 435] (by decide +kernel) (by decide +kernel), by decide +kernel⟩
theorem co_X3_45 : (RX3, 45, "law", 0) ∈ zStr := by decide
theorem lk_X3_47 : zLkV RX3 47 mX3_takesWord 1 := ⟨zWs_r _ [367, 369, 4, 66, 370] (by decide +kernel) (by decide +kernel), by decide +kernel⟩
theorem fl_X3_59 : Cond.fieldLink RX3 59 (TX2 0).1 (TX2 0).2.1 (TX2 0).2.2.1 ∈ zWs := zWs_at 130 (by decide +kernel) rfl
theorem lk_X3_62 : zLkV RX3 62 mX3_takesSign 1 := ⟨zWs_r _ [436, 438, 7, 66, 439] (by decide +kernel) (by decide +kernel), by decide +kernel⟩
theorem co_X3_65 : (RX3, 65, "letter", 1) ∈ zStr := by decide
theorem lk_X3_76 : zLkV RX3 76 mX3_sortTold 0 := ⟨zWs_r _ [449, 451, 10, 66, 452] (by decide +kernel) (by decide +kernel), by decide +kernel⟩
theorem lk_X3_80 : zLkV RX3 80 mX5_advance 0 := ⟨zWs_r _ [427, 355, 356, 67, 357] (by decide +kernel) (by decide +kernel), by decide +kernel⟩
theorem lk_X3_83 : zLkV RX3 83 mX2_addLetter 2 := ⟨zWs_r _ [458, 459, 460, 68, 461] (by decide +kernel) (by decide +kernel), by decide +kernel⟩
theorem lk_X3_67 : zLkV RX3 67 mX5_isWord 1 := ⟨zWs_r _ [371, 372, 373, 67, 374] (by decide +kernel) (by decide +kernel), by decide +kernel⟩
theorem lk_X3_70 : zLkV RX3 70 mX3_readsLetter 0 := ⟨zWs_r _ [445, 447, 9, 66, 448] (by decide +kernel) (by decide +kernel), by decide +kernel⟩
theorem lk_X3_25 : zLkV RX3 25 mX2_makeEmpty 0 := ⟨zWs_r _ [346, 347, 348, 68, 349] (by decide +kernel) (by decide +kernel), by decide +kernel⟩
theorem lk_X3_28 : zLkV RX3 28 mX5_rewind 0 := ⟨zWs_r _ [350, 351, 352, 67, 353] (by decide +kernel) (by decide +kernel), by decide +kernel⟩
theorem lk_X3_31 : zLkV RX3 31 mX3_readsLaw 0 := ⟨zWs_r _ [362, 364, 3, 66, 365] (by decide +kernel) (by decide +kernel), by decide +kernel⟩
theorem lk_X3_35 : zLkV RX3 35 mX3_readsLetters 0 := ⟨zWs_r _ [440, 442, 8, 66, 443] (by decide +kernel) (by decide +kernel), by decide +kernel⟩
theorem lk_X3_38 : zLkV RX3 38 mX3_readsSheet 0 := ⟨zWs_r _ [469, 471, 11, 66, 472] (by decide +kernel) (by decide +kernel), by decide +kernel⟩
theorem lk_X3_41 : zLkV RX3 41 mX3_readsEnd 0 := ⟨zWs_r _ [490, 492, 14, 66, 493] (by decide +kernel) (by decide +kernel), by decide +kernel⟩
theorem lk_X3_44 : zLkV RX3 44 mX5_makeEmpty 0 := ⟨zWs_r _ [494, 495, 496, 67, 497] (by decide +kernel) (by decide +kernel), by decide +kernel⟩
theorem co_X3_97 : (RX3, 97, "sheet", 7) ∈ zStr := by decide
theorem lk_X3_99 : zLkV RX3 99 mX3_readsFront 0 := ⟨zWs_r _ [474, 476, 12, 66, 477] (by decide +kernel) (by decide +kernel), by decide +kernel⟩
theorem lk_X3_102 : zLkV RX3 102 mX3_readsBack 0 := ⟨zWs_r _ [482, 484, 13, 66, 485] (by decide +kernel) (by decide +kernel), by decide +kernel⟩
theorem co_X3_87 : (RX3, 87, "plain", 2) ∈ zStr := by decide
theorem co_X3_89 : (RX3, 89, "bold", 3) ∈ zStr := by decide
theorem co_X3_91 : (RX3, 91, "thin", 4) ∈ zStr := by decide
theorem co_X3_93 : (RX3, 93, "mark", 5) ∈ zStr := by decide
theorem co_X3_95 : (RX3, 95, "dry", 6) ∈ zStr := by decide
theorem fl_X4_19 : Cond.fieldLink RX4 19 (TX4 2).1 (TX4 2).2.1 (TX4 2).2.2.1 ∈ zWs := zWs_at 225 (by decide +kernel) rfl
theorem lk_X4_3 : ∀ w ∈ [Cond.methodLink RX4 3 Lib.objectInit, .instanceMethod Lib.objectInit, .code Lib.objectInit ⟨#[0xb1]⟩ 1 none], w ∈ zWs := zWs_r _ [221, 86, 87] (by decide +kernel) (by decide +kernel)
theorem fl_X4_9 : Cond.fieldLink RX4 9 (TX4 0).1 (TX4 0).2.1 (TX4 0).2.2.1 ∈ zWs := zWs_at 222 (by decide +kernel) rfl
theorem fl_X4_15 : Cond.fieldLink RX4 15 (TX4 1).1 (TX4 1).2.1 (TX4 1).2.2.1 ∈ zWs := zWs_at 223 (by decide +kernel) rfl
theorem lk_X4_22 : zLkS RX4 22 mX6_itemOf 2 ∨ zLkN RX4 22 mX6_itemOf 2 := Or.inr ⟨zNw_at 302 (by decide +kernel) rfl, zWs_r _ [303, 65, 304] (by decide +kernel) (by decide +kernel), by decide +kernel⟩
theorem lk_X4_26 : zLkS RX4 26 mX6_putItem 3 ∨ zLkN RX4 26 mX6_putItem 3 := Or.inr ⟨zNw_at 295 (by decide +kernel) rfl, zWs_r _ [296, 65, 297] (by decide +kernel) (by decide +kernel), by decide +kernel⟩
theorem lk_X4_30 : zLkS RX4 30 mX6_copyItems 5 ∨ zLkN RX4 30 mX6_copyItems 5 := Or.inr ⟨zNw_at 313 (by decide +kernel) rfl, zWs_r _ [314, 65, 315] (by decide +kernel) (by decide +kernel), by decide +kernel⟩
theorem fl_X5_25 : Cond.fieldLink RX5 25 (TX5 4).1 (TX5 4).2.1 (TX5 4).2.2.1 ∈ zWs := zWs_at 111 (by decide +kernel) rfl
theorem fl_X5_15 : Cond.fieldLink RX5 15 (TX5 1).1 (TX5 1).2.1 (TX5 1).2.2.1 ∈ zWs := zWs_at 105 (by decide +kernel) rfl
theorem fl_X5_9 : Cond.fieldLink RX5 9 (TX5 0).1 (TX5 0).2.1 (TX5 0).2.2.1 ∈ zWs := zWs_at 104 (by decide +kernel) rfl
theorem lk_X5_31 : zLkS RX5 31 mX6_itemOf 2 ∨ zLkN RX5 31 mX6_itemOf 2 := Or.inr ⟨zNw_at 358 (by decide +kernel) rfl, zWs_r _ [303, 65, 304] (by decide +kernel) (by decide +kernel), by decide +kernel⟩
theorem lk_X5_35 : zLkS RX5 35 mX5_sortOf 1 ∨ zLkN RX5 35 mX5_sortOf 1 := Or.inl ⟨zWs_r _ [359, 360, 67, 361] (by decide +kernel) (by decide +kernel), by decide +kernel⟩
theorem fl_X5_39 : Cond.fieldLink RX5 39 (TX5 3).1 (TX5 3).2.1 (TX5 3).2.2.1 ∈ zWs := zWs_at 109 (by decide +kernel) rfl
theorem fl_X5_42 : Cond.fieldLink RX5 42 (TX5 2).1 (TX5 2).2.1 (TX5 2).2.2.1 ∈ zWs := zWs_at 107 (by decide +kernel) rfl
theorem co_X5_19 : Cond.constantLong RX5 19 (255) ∈ zWs := zWs_at 335 (by decide +kernel) rfl
theorem lk_X5_21 : zLkS RX5 21 mX6_putItem 3 ∨ zLkN RX5 21 mX6_putItem 3 := Or.inr ⟨zNw_at 336 (by decide +kernel) rfl, zWs_r _ [296, 65, 297] (by decide +kernel) (by decide +kernel), by decide +kernel⟩
theorem lk_X5_3 : ∀ w ∈ [Cond.methodLink RX5 3 Lib.objectInit, .instanceMethod Lib.objectInit, .code Lib.objectInit ⟨#[0xb1]⟩ 1 none], w ∈ zWs := zWs_r _ [103, 86, 87] (by decide +kernel) (by decide +kernel)
theorem lk_X5_45 : zLkV RX5 45 mJ0_length_8abf5 0 := ⟨zWs_r _ [375, 376, 377, 74, 378] (by decide +kernel) (by decide +kernel), by decide +kernel⟩
theorem lk_X5_50 : zLkV RX5 50 mJ0_charAt_5068e 1 := ⟨zWs_r _ [385, 386, 387, 74, 388] (by decide +kernel) (by decide +kernel), by decide +kernel⟩
theorem lk_X5_28 : zLkV RX5 28 mX5_advance 0 := ⟨zWs_r _ [354, 355, 356, 67, 357] (by decide +kernel) (by decide +kernel), by decide +kernel⟩
theorem lk_X6_48 : zLkV RX6 48 mX6_rowOf 1 := ⟨zWs_r _ [261, 263, 0, 65, 264] (by decide +kernel) (by decide +kernel), by decide +kernel⟩
theorem lk_X6_193 : zLkV RX6 193 mX6_refusalOfLetters 1 := ⟨zWs_r _ [667, 669, 19, 65, 670] (by decide +kernel) (by decide +kernel), by decide +kernel⟩
theorem fl_X6_29 : Cond.fieldLink RX6 29 (TX6 3).1 (TX6 3).2.1 (TX6 3).2.2.1 ∈ zWs := zWs_at 238 (by decide +kernel) rfl
theorem fl_X6_121 : Cond.fieldLink RX6 121 (TX2 2).1 (TX2 2).2.1 (TX2 2).2.2.1 ∈ zWs := zWs_at 136 (by decide +kernel) rfl
theorem lk_X6_75 : zLkV RX6 75 mX4_itemAt 1 := ⟨zWs_r _ [298, 299, 300, 71, 301] (by decide +kernel) (by decide +kernel), by decide +kernel⟩
theorem lk_X6_205 : zLkV RX6 205 mX2_fewestAnew 2 := ⟨zWs_r _ [699, 700, 701, 68, 702] (by decide +kernel) (by decide +kernel), by decide +kernel⟩
theorem co_X6_208 : Cond.constant RX6 208 (-1000000) ∈ zWs := zWs_at 708 (by decide +kernel) rfl
theorem lk_X6_61 : zLkV RX6 61 mX6_unfound 1 := ⟨zWs_r _ [275, 277, 2, 65, 278] (by decide +kernel) (by decide +kernel), by decide +kernel⟩
theorem lk_X6_255 : zLkV RX6 255 mX2_nearest 1 := ⟨zWs_r _ [615, 616, 617, 68, 618] (by decide +kernel) (by decide +kernel), by decide +kernel⟩
theorem lk_X6_258 : zLkV RX6 258 mX2_leastOff 1 := ⟨zWs_r _ [629, 630, 631, 68, 632] (by decide +kernel) (by decide +kernel), by decide +kernel⟩
theorem lk_X6_261 : zLkV RX6 261 mX2_isDoubt 1 := ⟨zWs_r _ [634, 635, 636, 68, 637] (by decide +kernel) (by decide +kernel), by decide +kernel⟩
theorem co_X6_52 : Cond.constant RX6 52 (-1000001) ∈ zWs := zWs_at 265 (by decide +kernel) rfl
theorem lk_X6_130 : zLkV RX6 130 mX2_hasLetter 1 := ⟨zWs_r _ [521, 522, 523, 68, 524] (by decide +kernel) (by decide +kernel), by decide +kernel⟩
theorem lk_X6_229 : zLkV RX6 229 mX2_kindOf 1 := ⟨zWs_r _ [755, 648, 649, 68, 650] (by decide +kernel) (by decide +kernel), by decide +kernel⟩
theorem lk_X6_232 : zLkS RX6 232 mX6_isOfKind 2 ∨ zLkN RX6 232 mX6_isOfKind 2 := Or.inl ⟨zWs_r _ [760, 761, 65, 762] (by decide +kernel) (by decide +kernel), by decide +kernel⟩
theorem lk_X6_53 : zLkV RX6 53 mX6_found 1 := ⟨zWs_r _ [266, 268, 1, 65, 269] (by decide +kernel) (by decide +kernel), by decide +kernel⟩
theorem fl_X6_43 : Cond.fieldLink RX6 43 (TX6 5).1 (TX6 5).2.1 (TX6 5).2.2.1 ∈ zWs := zWs_at 240 (by decide +kernel) rfl
theorem lk_X6_235 : zLkV RX6 235 mX1_answer 3 := ⟨zWs_r _ [767, 768, 769, 70, 770] (by decide +kernel) (by decide +kernel), by decide +kernel⟩
theorem lk_X6_127 : zLkV RX6 127 mX2_hasPlace 2 := ⟨zWs_r _ [517, 518, 519, 68, 520] (by decide +kernel) (by decide +kernel), by decide +kernel⟩
theorem lk_X6_134 : zLkV RX6 134 mX2_letterAt 2 := ⟨zWs_r _ [525, 526, 527, 68, 528] (by decide +kernel) (by decide +kernel), by decide +kernel⟩
theorem lk_X6_145 : zLkV RX6 145 mX2_isThere 0 := ⟨zWs_r _ [543, 544, 545, 68, 546] (by decide +kernel) (by decide +kernel), by decide +kernel⟩
theorem lk_X6_197 : zLkV RX6 197 mX2_behindFor 2 := ⟨zWs_r _ [678, 679, 680, 68, 681] (by decide +kernel) (by decide +kernel), by decide +kernel⟩
theorem lk_X6_64 : zLkV RX6 64 mX4_isMissing 0 := ⟨zWs_r _ [283, 284, 285, 71, 286] (by decide +kernel) (by decide +kernel), by decide +kernel⟩
theorem fl_X6_78 : Cond.fieldLink RX6 78 (TX4 1).1 (TX4 1).2.1 (TX4 1).2.2.1 ∈ zWs := zWs_at 224 (by decide +kernel) rfl
theorem lk_X6_68 : zLkV RX6 68 mX4_holds 2 := ⟨zWs_r _ [287, 288, 289, 71, 290] (by decide +kernel) (by decide +kernel), by decide +kernel⟩
theorem lk_X6_82 : zLkV RX6 82 mX4_takeItems 4 := ⟨zWs_r _ [309, 310, 311, 71, 312] (by decide +kernel) (by decide +kernel), by decide +kernel⟩
theorem lk_X6_264 : ∀ w ∈ [Cond.methodLink RX6 264 arraycopyName, .static arraycopyName, .initialized "java/lang/System", .native arraycopyName], w ∈ zWs := zWs_r _ [316, 317, 73, 318] (by decide +kernel) (by decide +kernel)
theorem lk_X6_242 : zLkV RX6 242 mX6_rowsThere 0 := ⟨zWs_r _ [818, 820, 29, 65, 821] (by decide +kernel) (by decide +kernel), by decide +kernel⟩
theorem fl_X6_245 : Cond.fieldLink RX6 245 (TX2 1).1 (TX2 1).2.1 (TX2 1).2.2.1 ∈ zWs := zWs_at 134 (by decide +kernel) rfl
theorem lk_X6_248 : zLkV RX6 248 mX2_placesLeftAsTheyStand 0 := ⟨zWs_r _ [822, 823, 824, 68, 825] (by decide +kernel) (by decide +kernel), by decide +kernel⟩
theorem fl_X6_36 : Cond.fieldLink RX6 36 (TX6 4).1 (TX6 4).2.1 (TX6 4).2.2.1 ∈ zWs := zWs_at 239 (by decide +kernel) rfl
theorem fl_X6_152 : Cond.fieldLink RX6 152 (TX0 4).1 (TX0 4).2.1 (TX0 4).2.2.1 ∈ zWs := zWs_at 192 (by decide +kernel) rfl
theorem fl_X6_24 : Cond.fieldLink RX6 24 (TX6 2).1 (TX6 2).2.1 (TX6 2).2.2.1 ∈ zWs := zWs_at 237 (by decide +kernel) rfl
theorem fl_X6_92 : Cond.fieldLink RX6 92 (TX3 0).1 (TX3 0).2.1 (TX3 0).2.2.1 ∈ zWs := zWs_at 161 (by decide +kernel) rfl
theorem fl_X6_102 : Cond.fieldLink RX6 102 (TX5 1).1 (TX5 1).2.1 (TX5 1).2.2.1 ∈ zWs := zWs_at 106 (by decide +kernel) rfl
theorem lk_X6_183 : zLkV RX6 183 mX2_shownByDamp 3 := ⟨zWs_r _ [643, 644, 645, 68, 646] (by decide +kernel) (by decide +kernel), by decide +kernel⟩
theorem lk_X6_187 : zLkV RX6 187 mX6_cellsOrReading 2 := ⟨zWs_r _ [652, 654, 18, 65, 655] (by decide +kernel) (by decide +kernel), by decide +kernel⟩
theorem fl_X6_86 : Cond.fieldLink RX6 86 (TX4 2).1 (TX4 2).2.1 (TX4 2).2.2.1 ∈ zWs := zWs_at 226 (by decide +kernel) rfl
theorem lk_X6_89 : zLkV RX6 89 mX4_makeMissing 0 := ⟨zWs_r _ [323, 324, 325, 71, 326] (by decide +kernel) (by decide +kernel), by decide +kernel⟩
theorem fl_X6_124 : Cond.fieldLink RX6 124 (TX3 2).1 (TX3 2).2.1 (TX3 2).2.2.1 ∈ zWs := zWs_at 164 (by decide +kernel) rfl
theorem lk_X6_96 : zLkV RX6 96 mX5_append 2 := ⟨zWs_r _ [331, 332, 333, 67, 334] (by decide +kernel) (by decide +kernel), by decide +kernel⟩
theorem co_X6_103 : Cond.constant RX6 103 (-1000003) ∈ zWs := zWs_at 337 (by decide +kernel) rfl
theorem lk_X6_190 : zLkS RX6 190 mX6_areCells 1 ∨ zLkN RX6 190 mX6_areCells 1 := Or.inl ⟨zWs_r _ [660, 661, 65, 662] (by decide +kernel) (by decide +kernel), by decide +kernel⟩
theorem lk_X6_209 : zLkV RX6 209 mX2_fitting 2 := ⟨zWs_r _ [713, 714, 715, 68, 716] (by decide +kernel) (by decide +kernel), by decide +kernel⟩
theorem fl_X6_251 : Cond.fieldLink RX6 251 (TX6 6).1 (TX6 6).2.1 (TX6 6).2.2.1 ∈ zWs := zWs_at 241 (by decide +kernel) rfl
theorem co_X6_254 : Cond.constant RX6 254 (-1000010) ∈ zWs := zWs_at 270 (by decide +kernel) rfl
theorem lk_X6_212 : zLkV RX6 212 mX2_harmOf 1 := ⟨zWs_r _ [721, 722, 723, 68, 724] (by decide +kernel) (by decide +kernel), by decide +kernel⟩
theorem lk_X6_225 : zLkV RX6 225 mX6_imageOf 1 := ⟨zWs_r _ [743, 745, 21, 65, 746] (by decide +kernel) (by decide +kernel), by decide +kernel⟩
theorem co_X6_148 : Cond.constant RX6 148 (-1000002) ∈ zWs := zWs_at 547 (by decide +kernel) rfl
theorem lk_X6_114 : zLkV RX6 114 mX2_takeAll 1 := ⟨zWs_r _ [499, 500, 501, 68, 502] (by decide +kernel) (by decide +kernel), by decide +kernel⟩
theorem fl_X6_17 : Cond.fieldLink RX6 17 (TX6 1).1 (TX6 1).2.1 (TX6 1).2.2.1 ∈ zWs := zWs_at 236 (by decide +kernel) rfl
theorem lk_X6_1 : ∀ w ∈ [Cond.methodLink RX6 1 Lib.objectInit, .instanceMethod Lib.objectInit, .code Lib.objectInit ⟨#[0xb1]⟩ 1 none], w ∈ zWs := zWs_r _ [85, 86, 87] (by decide +kernel) (by decide +kernel)
theorem aw_X6_9 : Cond.classLink RX6 9 RX4 ∈ zWs := zWs_at 88 (by decide +kernel) rfl
theorem fl_X6_11 : Cond.fieldLink RX6 11 (TX6 0).1 (TX6 0).2.1 (TX6 0).2.2.1 ∈ zWs := zWs_at 235 (by decide +kernel) rfl
theorem aw_X6_15 : Cond.classLink RX6 15 RX2 ∈ zWs := zWs_at 90 (by decide +kernel) rfl
theorem nw_X6_21 : ∀ w ∈ [Cond.classLink RX6 21 RX3, .instantiable RX3 5, .initialized RX3], w ∈ zWs := zWs_r _ [92, 93, 66] (by decide +kernel) (by decide +kernel)
theorem lk_X6_23 : zLkI RX6 23 mX3_init 0 ∨ zLkJ RX6 23 mX3_init 0 := Or.inr ⟨zNw_at 94 (by decide +kernel) rfl, zWs_r _ [95, 66, 96] (by decide +kernel) (by decide +kernel), rfl, rfl, by decide +kernel⟩
theorem nw_X6_15 : ∀ w ∈ [Cond.classLink RX6 15 RX2, .instantiable RX2 8, .initialized RX2], w ∈ zWs := zWs_r _ [90, 125, 68] (by decide +kernel) (by decide +kernel)
theorem lk_X6_28 : zLkI RX6 28 mX2_init 0 ∨ zLkJ RX6 28 mX2_init 0 := Or.inr ⟨zNw_at 180 (by decide +kernel) rfl, zWs_r _ [127, 68, 128] (by decide +kernel) (by decide +kernel), rfl, rfl, by decide +kernel⟩
theorem nw_X6_33 : ∀ w ∈ [Cond.classLink RX6 33 RX0, .instantiable RX0 5, .initialized RX0], w ∈ zWs := zWs_r _ [181, 182, 69] (by decide +kernel) (by decide +kernel)
theorem lk_X6_35 : zLkI RX6 35 mX0_init 0 ∨ zLkJ RX6 35 mX0_init 0 := Or.inr ⟨zNw_at 183 (by decide +kernel) rfl, zWs_r _ [184, 69, 185] (by decide +kernel) (by decide +kernel), rfl, rfl, by decide +kernel⟩
theorem nw_X6_40 : ∀ w ∈ [Cond.classLink RX6 40 RX1, .instantiable RX1 2, .initialized RX1], w ∈ zWs := zWs_r _ [204, 205, 70] (by decide +kernel) (by decide +kernel)
theorem lk_X6_42 : zLkI RX6 42 mX1_init 0 ∨ zLkJ RX6 42 mX1_init 0 := Or.inr ⟨zNw_at 206 (by decide +kernel) rfl, zWs_r _ [207, 70, 208] (by decide +kernel) (by decide +kernel), rfl, rfl, by decide +kernel⟩
theorem nw_X6_9 : ∀ w ∈ [Cond.classLink RX6 9 RX4, .instantiable RX4 3, .initialized RX4], w ∈ zWs := zWs_r _ [88, 217, 71] (by decide +kernel) (by decide +kernel)
theorem lk_X6_47 : zLkI RX6 47 mX4_init 0 ∨ zLkJ RX6 47 mX4_init 0 := Or.inr ⟨zNw_at 218 (by decide +kernel) rfl, zWs_r _ [219, 71, 220] (by decide +kernel) (by decide +kernel), rfl, rfl, by decide +kernel⟩
theorem lk_X6_215 : zLkS RX6 215 mX6_hasBit 2 ∨ zLkN RX6 215 mX6_hasBit 2 := Or.inl ⟨zWs_r _ [729, 705, 65, 706] (by decide +kernel) (by decide +kernel), by decide +kernel⟩
theorem lk_X6_218 : zLkV RX6 218 mX2_canBeABack 1 := ⟨zWs_r _ [671, 672, 673, 68, 674] (by decide +kernel) (by decide +kernel), by decide +kernel⟩
theorem lk_X6_168 : zLkV RX6 168 mX2_cellsOf 1 := ⟨zWs_r _ [586, 587, 588, 68, 589] (by decide +kernel) (by decide +kernel), by decide +kernel⟩
theorem lk_X6_171 : zLkS RX6 171 mX6_turned 1 ∨ zLkN RX6 171 mX6_turned 1 := Or.inl ⟨zWs_r _ [590, 467, 65, 468] (by decide +kernel) (by decide +kernel), by decide +kernel⟩
theorem lk_X6_174 : zLkV RX6 174 mX2_throughOf 1 := ⟨zWs_r _ [591, 592, 593, 68, 594] (by decide +kernel) (by decide +kernel), by decide +kernel⟩
theorem lk_X6_177 : zLkV RX6 177 mX2_shownByLight 2 := ⟨zWs_r _ [599, 600, 601, 68, 602] (by decide +kernel) (by decide +kernel), by decide +kernel⟩
theorem lk_X6_180 : zLkV RX6 180 mX6_answerOfReading 2 := ⟨zWs_r _ [611, 613, 16, 65, 614] (by decide +kernel) (by decide +kernel), by decide +kernel⟩
theorem lk_X6_104 : zLkV RX6 104 mX3_readsPage 0 := ⟨zWs_r _ [342, 343, 344, 66, 345] (by decide +kernel) (by decide +kernel), by decide +kernel⟩
theorem co_X6_107 : Cond.constant RX6 107 (-1000100) ∈ zWs := zWs_at 498 (by decide +kernel) rfl
theorem fl_X6_108 : Cond.fieldLink RX6 108 (TX3 3).1 (TX3 3).2.1 (TX3 3).2.2.1 ∈ zWs := zWs_at 166 (by decide +kernel) rfl
theorem fl_X6_111 : Cond.fieldLink RX6 111 (TX3 1).1 (TX3 1).2.1 (TX3 1).2.2.1 ∈ zWs := zWs_at 163 (by decide +kernel) rfl
theorem lk_X6_118 : zLkV RX6 118 mX0_forgetAll 0 := ⟨zWs_r _ [504, 505, 506, 69, 507] (by decide +kernel) (by decide +kernel), by decide +kernel⟩
theorem lk_X6_57 : zLkV RX6 57 mX4_make 2 := ⟨zWs_r _ [271, 272, 273, 71, 274] (by decide +kernel) (by decide +kernel), by decide +kernel⟩
theorem lk_X6_222 : zLkV RX6 222 mX2_behindToRead 2 := ⟨zWs_r _ [734, 683, 684, 68, 685] (by decide +kernel) (by decide +kernel), by decide +kernel⟩
theorem lk_X6_72 : zLkV RX6 72 mX4_store 2 := ⟨zWs_r _ [291, 292, 293, 71, 294] (by decide +kernel) (by decide +kernel), by decide +kernel⟩
theorem lk_X6_239 : zLkV RX6 239 mX1_traced 1 := ⟨zWs_r _ [808, 809, 810, 70, 811] (by decide +kernel) (by decide +kernel), by decide +kernel⟩
theorem lk_X6_138 : zLkV RX6 138 mX0_keep 3 := ⟨zWs_r _ [530, 531, 532, 69, 533] (by decide +kernel) (by decide +kernel), by decide +kernel⟩
theorem lk_X6_149 : zLkV RX6 149 mX2_turnOver 0 := ⟨zWs_r _ [548, 549, 550, 68, 551] (by decide +kernel) (by decide +kernel), by decide +kernel⟩
theorem lk_X6_155 : zLkV RX6 155 mX0_latestSide 0 := ⟨zWs_r _ [558, 559, 560, 69, 561] (by decide +kernel) (by decide +kernel), by decide +kernel⟩
theorem lk_X6_159 : zLkV RX6 159 mX0_latestPlace 0 := ⟨zWs_r _ [563, 564, 565, 69, 566] (by decide +kernel) (by decide +kernel), by decide +kernel⟩
theorem lk_X6_162 : zLkV RX6 162 mX0_latestLetter 0 := ⟨zWs_r _ [567, 568, 569, 69, 570] (by decide +kernel) (by decide +kernel), by decide +kernel⟩
theorem lk_X6_142 : zLkV RX6 142 mX2_putLetter 3 := ⟨zWs_r _ [538, 487, 488, 68, 489] (by decide +kernel) (by decide +kernel), by decide +kernel⟩
theorem lk_X6_165 : zLkV RX6 165 mX0_forgetLatest 0 := ⟨zWs_r _ [571, 572, 573, 69, 574] (by decide +kernel) (by decide +kernel), by decide +kernel⟩
theorem lk_X6_200 : zLkS RX6 200 mJ6_bitCount_0f7a4 1 ∨ zLkN RX6 200 mJ6_bitCount_0f7a4 1 := Or.inl ⟨zWs_r _ [694, 624, 79, 625] (by decide +kernel) (by decide +kernel), by decide +kernel⟩
theorem fl_X7_41 : Cond.fieldLink RX7 41 (TX7 0).1 (TX7 0).2.1 (TX7 0).2.2.1 ∈ zWs := zWs_at 837 (by decide +kernel) rfl
theorem lk_X7_229 : zLkV RX7 229 mX7_barred 2 := ⟨zWs_r _ [1115, 1117, 53, 72, 1118] (by decide +kernel) (by decide +kernel), by decide +kernel⟩
theorem fl_X7_19 : Cond.fieldLink RX7 19 (TX7 5).1 (TX7 5).2.1 (TX7 5).2.2.1 ∈ zWs := zWs_at 842 (by decide +kernel) rfl
theorem fl_X7_16 : Cond.fieldLink RX7 16 (TX7 4).1 (TX7 4).2.1 (TX7 4).2.2.1 ∈ zWs := zWs_at 841 (by decide +kernel) rfl
theorem lk_X7_236 : zLkV RX7 236 mX7_anewAt 2 := ⟨zWs_r _ [1139, 1141, 57, 72, 1142] (by decide +kernel) (by decide +kernel), by decide +kernel⟩
theorem co_X7_77 : Cond.constant RX7 77 (-1000000) ∈ zWs := zWs_at 967 (by decide +kernel) rfl
theorem lk_X7_170 : zLkV RX7 170 mX7_on 2 := ⟨zWs_r _ [1045, 1047, 46, 72, 1048] (by decide +kernel) (by decide +kernel), by decide +kernel⟩
theorem lk_X7_216 : zLkV RX7 216 mX7_behindOf 2 := ⟨zWs_r _ [1090, 1092, 51, 72, 1093] (by decide +kernel) (by decide +kernel), by decide +kernel⟩
theorem lk_X7_226 : zLkV RX7 226 mX7_readBy 2 := ⟨zWs_r _ [1127, 1129, 56, 72, 1130] (by decide +kernel) (by decide +kernel), by decide +kernel⟩
theorem lk_X7_203 : zLkV RX7 203 mX7_isOne 1 := ⟨zWs_r _ [1037, 1039, 44, 72, 1040] (by decide +kernel) (by decide +kernel), by decide +kernel⟩
theorem co_X7_242 : Cond.constantLong RX7 242 (5) ∈ zWs := zWs_at 1183 (by decide +kernel) rfl
theorem lk_X7_51 : zLkS RX7 51 mX7_in 3 ∨ zLkN RX7 51 mX7_in 3 := Or.inl ⟨zWs_r _ [922, 923, 72, 924] (by decide +kernel) (by decide +kernel), by decide +kernel⟩
theorem co_X7_61 : Cond.constant RX7 61 (-1000001) ∈ zWs := zWs_at 926 (by decide +kernel) rfl
theorem fl_X7_45 : Cond.fieldLink RX7 45 (TX7 1).1 (TX7 1).2.1 (TX7 1).2.2.1 ∈ zWs := zWs_at 838 (by decide +kernel) rfl
theorem lk_X7_173 : zLkV RX7 173 mX7_kindOf 1 := ⟨zWs_r _ [1081, 1083, 50, 72, 1084] (by decide +kernel) (by decide +kernel), by decide +kernel⟩
theorem lk_X7_244 : zLkS RX7 244 mX7_isOf 2 ∨ zLkN RX7 244 mX7_isOf 2 := Or.inl ⟨zWs_r _ [1184, 1185, 72, 1186] (by decide +kernel) (by decide +kernel), by decide +kernel⟩
theorem lk_X7_62 : zLkV RX7 62 mX7_finding 1 := ⟨zWs_r _ [927, 929, 30, 72, 930] (by decide +kernel) (by decide +kernel), by decide +kernel⟩
theorem fl_X7_248 : Cond.fieldLink RX7 248 (TX7 24).1 (TX7 24).2.1 (TX7 24).2.2.1 ∈ zWs := zWs_at 861 (by decide +kernel) rfl
theorem lk_X7_263 : zLkV RX7 263 mX7_sizeOf 1 := ⟨zWs_r _ [1191, 1193, 59, 72, 1194] (by decide +kernel) (by decide +kernel), by decide +kernel⟩
theorem lk_X7_260 : zLkV RX7 260 mX7_markOf 1 := ⟨zWs_r _ [1207, 1209, 63, 72, 1210] (by decide +kernel) (by decide +kernel), by decide +kernel⟩
theorem lk_X7_197 : zLkS RX7 197 mX7_isSide 1 ∨ zLkN RX7 197 mX7_isSide 1 := Or.inl ⟨zWs_r _ [1030, 1031, 72, 1032] (by decide +kernel) (by decide +kernel), by decide +kernel⟩
theorem lk_X7_200 : zLkV RX7 200 mX7_isPlace 1 := ⟨zWs_r _ [1033, 1035, 43, 72, 1036] (by decide +kernel) (by decide +kernel), by decide +kernel⟩
theorem fl_X7_99 : Cond.fieldLink RX7 99 (TX7 17).1 (TX7 17).2.1 (TX7 17).2.2.1 ∈ zWs := zWs_at 854 (by decide +kernel) rfl
theorem fl_X7_84 : Cond.fieldLink RX7 84 (TX7 15).1 (TX7 15).2.1 (TX7 15).2.2.1 ∈ zWs := zWs_at 852 (by decide +kernel) rfl
theorem fl_X7_105 : Cond.fieldLink RX7 105 (TX7 18).1 (TX7 18).2.1 (TX7 18).2.2.1 ∈ zWs := zWs_at 855 (by decide +kernel) rfl
theorem lk_X7_209 : zLkV RX7 209 mX7_isThere 0 := ⟨zWs_r _ [1053, 1055, 47, 72, 1056] (by decide +kernel) (by decide +kernel), by decide +kernel⟩
theorem co_X7_213 : Cond.constant RX7 213 (-1000002) ∈ zWs := zWs_at 1057 (by decide +kernel) rfl
theorem lk_X7_55 : zLkS RX7 55 mX7_isRow 1 ∨ zLkN RX7 55 mX7_isRow 1 := Or.inl ⟨zWs_r _ [918, 919, 72, 920] (by decide +kernel) (by decide +kernel), by decide +kernel⟩
theorem fl_X7_7 : Cond.fieldLink RX7 7 (TX7 2).1 (TX7 2).2.1 (TX7 2).2.2.1 ∈ zWs := zWs_at 839 (by decide +kernel) rfl
theorem fl_X7_13 : Cond.fieldLink RX7 13 (TX7 3).1 (TX7 3).2.1 (TX7 3).2.2.1 ∈ zWs := zWs_at 840 (by decide +kernel) rfl
theorem lk_X7_223 : zLkV RX7 223 mX7_hasLetters 1 := ⟨zWs_r _ [1119, 1121, 54, 72, 1122] (by decide +kernel) (by decide +kernel), by decide +kernel⟩
theorem fl_X7_38 : Cond.fieldLink RX7 38 (TX7 23).1 (TX7 23).2.1 (TX7 23).2.2.1 ∈ zWs := zWs_at 860 (by decide +kernel) rfl
theorem fl_X7_68 : Cond.fieldLink RX7 68 (TX7 10).1 (TX7 10).2.1 (TX7 10).2.2.1 ∈ zWs := zWs_at 847 (by decide +kernel) rfl
theorem fl_X7_74 : Cond.fieldLink RX7 74 (TX7 12).1 (TX7 12).2.1 (TX7 12).2.2.1 ∈ zWs := zWs_at 849 (by decide +kernel) rfl
theorem fl_X7_78 : Cond.fieldLink RX7 78 (TX7 13).1 (TX7 13).2.1 (TX7 13).2.2.1 ∈ zWs := zWs_at 850 (by decide +kernel) rfl
theorem lk_X7_102 : zLkV RX7 102 mX7_next 0 := ⟨zWs_r _ [959, 961, 32, 72, 962] (by decide +kernel) (by decide +kernel), by decide +kernel⟩
theorem lk_X7_233 : zLkV RX7 233 mX7_behindBy 2 := ⟨zWs_r _ [1123, 1125, 55, 72, 1126] (by decide +kernel) (by decide +kernel), by decide +kernel⟩
theorem fl_X7_28 : Cond.fieldLink RX7 28 (TX7 9).1 (TX7 9).2.1 (TX7 9).2.2.1 ∈ zWs := zWs_at 846 (by decide +kernel) rfl
theorem fl_X7_167 : Cond.fieldLink RX7 167 (TX7 8).1 (TX7 8).2.1 (TX7 8).2.2.1 ∈ zWs := zWs_at 845 (by decide +kernel) rfl
theorem co_X7_219 : Cond.constantLong RX7 219 (30) ∈ zWs := zWs_at 1105 (by decide +kernel) rfl
theorem lk_X7_176 : zLkV RX7 176 mX7_cellsOf 1 := ⟨zWs_r _ [1070, 1072, 48, 72, 1073] (by decide +kernel) (by decide +kernel), by decide +kernel⟩
theorem lk_X7_191 : zLkV RX7 191 mX7_throughOf 1 := ⟨zWs_r _ [1077, 1079, 49, 72, 1080] (by decide +kernel) (by decide +kernel), by decide +kernel⟩
theorem lk_X7_194 : zLkV RX7 194 mX7_readOf 1 := ⟨zWs_r _ [1094, 1096, 52, 72, 1097] (by decide +kernel) (by decide +kernel), by decide +kernel⟩
theorem fl_X7_163 : Cond.fieldLink RX7 163 (TX7 11).1 (TX7 11).2.1 (TX7 11).2.2.1 ∈ zWs := zWs_at 848 (by decide +kernel) rfl
theorem co_X7_66 : Cond.constantLong RX7 66 (8) ∈ zWs := zWs_at 948 (by decide +kernel) rfl
theorem co_X7_71 : Cond.constant RX7 71 (-1000003) ∈ zWs := zWs_at 949 (by decide +kernel) rfl
theorem co_X7_72 : Cond.constantLong RX7 72 (255) ∈ zWs := zWs_at 950 (by decide +kernel) rfl
theorem fl_X7_96 : Cond.fieldLink RX7 96 (TX7 16).1 (TX7 16).2.1 (TX7 16).2.2.1 ∈ zWs := zWs_at 853 (by decide +kernel) rfl
theorem fl_X7_87 : Cond.fieldLink RX7 87 (TX7 14).1 (TX7 14).2.1 (TX7 14).2.2.1 ∈ zWs := zWs_at 851 (by decide +kernel) rfl
theorem co_X7_48 : Cond.constant RX7 48 (-1000010) ∈ zWs := zWs_at 931 (by decide +kernel) rfl
theorem co_X7_221 : Cond.constantLong RX7 221 (511) ∈ zWs := zWs_at 1110 (by decide +kernel) rfl
theorem lk_X7_239 : zLkV RX7 239 mX7_harmOf 1 := ⟨zWs_r _ [1151, 1153, 58, 72, 1154] (by decide +kernel) (by decide +kernel), by decide +kernel⟩
theorem fl_X7_35 : Cond.fieldLink RX7 35 (TX7 22).1 (TX7 22).2.1 (TX7 22).2.2.1 ∈ zWs := zWs_at 859 (by decide +kernel) rfl
theorem fl_X7_31 : Cond.fieldLink RX7 31 (TX7 21).1 (TX7 21).2.1 (TX7 21).2.2.1 ∈ zWs := zWs_at 858 (by decide +kernel) rfl
theorem lk_X7_1 : ∀ w ∈ [Cond.methodLink RX7 1 Lib.objectInit, .instanceMethod Lib.objectInit, .code Lib.objectInit ⟨#[0xb1]⟩ 1 none], w ∈ zWs := zWs_r _ [836, 86, 87] (by decide +kernel) (by decide +kernel)
theorem fl_X7_22 : Cond.fieldLink RX7 22 (TX7 6).1 (TX7 6).2.1 (TX7 6).2.2.1 ∈ zWs := zWs_at 843 (by decide +kernel) rfl
theorem fl_X7_25 : Cond.fieldLink RX7 25 (TX7 7).1 (TX7 7).2.1 (TX7 7).2.2.1 ∈ zWs := zWs_at 844 (by decide +kernel) rfl
theorem co_X7_49 : Cond.constantLong RX7 49 (7) ∈ zWs := zWs_at 921 (by decide +kernel) rfl
theorem co_X7_120 : Cond.constantLong RX7 120 (482854660462) ∈ zWs := zWs_at 1007 (by decide +kernel) rfl
theorem co_X7_122 : Cond.constantLong RX7 122 (1651469412) ∈ zWs := zWs_at 1008 (by decide +kernel) rfl
theorem co_X7_124 : Cond.constantLong RX7 124 (1952999790) ∈ zWs := zWs_at 1009 (by decide +kernel) rfl
theorem co_X7_126 : Cond.constantLong RX7 126 (1835102827) ∈ zWs := zWs_at 1010 (by decide +kernel) rfl
theorem co_X7_128 : Cond.constantLong RX7 128 (6582905) ∈ zWs := zWs_at 1011 (by decide +kernel) rfl
theorem co_X7_59 : Cond.constantLong RX7 59 (2) ∈ zWs := zWs_at 925 (by decide +kernel) rfl
theorem lk_X7_179 : zLkS RX7 179 mX7_turned 1 ∨ zLkN RX7 179 mX7_turned 1 := Or.inl ⟨zWs_r _ [1074, 1075, 72, 1076] (by decide +kernel) (by decide +kernel), by decide +kernel⟩
theorem co_X7_214 : Cond.constantLong RX7 214 (3) ∈ zWs := zWs_at 1089 (by decide +kernel) rfl
theorem fl_X7_182 : Cond.fieldLink RX7 182 (TX7 19).1 (TX7 19).2.1 (TX7 19).2.2.1 ∈ zWs := zWs_at 856 (by decide +kernel) rfl
theorem fl_X7_188 : Cond.fieldLink RX7 188 (TX7 20).1 (TX7 20).2.1 (TX7 20).2.2.1 ∈ zWs := zWs_at 857 (by decide +kernel) rfl
theorem lk_X7_251 : zLkV RX7 251 mX7_began 1 := ⟨zWs_r _ [1199, 1201, 61, 72, 1202] (by decide +kernel) (by decide +kernel), by decide +kernel⟩
theorem lk_X7_257 : zLkV RX7 257 mX7_markSize 1 := ⟨zWs_r _ [1195, 1197, 60, 72, 1198] (by decide +kernel) (by decide +kernel), by decide +kernel⟩
theorem lk_X7_254 : zLkV RX7 254 mX7_plainSize 1 := ⟨zWs_r _ [1203, 1205, 62, 72, 1206] (by decide +kernel) (by decide +kernel), by decide +kernel⟩
theorem lk_X7_108 : zLkV RX7 108 mX7_bad 1 := ⟨zWs_r _ [983, 985, 36, 72, 986] (by decide +kernel) (by decide +kernel), by decide +kernel⟩
theorem lk_X7_116 : zLkV RX7 116 mX7_must 1 := ⟨zWs_r _ [979, 981, 35, 72, 982] (by decide +kernel) (by decide +kernel), by decide +kernel⟩
theorem lk_X7_81 : zLkV RX7 81 mX7_byteAt 1 := ⟨zWs_r _ [963, 965, 33, 72, 966] (by decide +kernel) (by decide +kernel), by decide +kernel⟩
theorem lk_X7_90 : zLkS RX7 90 mX7_isLetter 1 ∨ zLkN RX7 90 mX7_isLetter 1 := Or.inl ⟨zWs_r _ [968, 969, 72, 970] (by decide +kernel) (by decide +kernel), by decide +kernel⟩
theorem lk_X7_93 : zLkS RX7 93 mX7_isFigure 1 ∨ zLkN RX7 93 mX7_isFigure 1 := Or.inl ⟨zWs_r _ [971, 972, 72, 973] (by decide +kernel) (by decide +kernel), by decide +kernel⟩
theorem lk_X7_112 : zLkV RX7 112 mX7_figures 0 := ⟨zWs_r _ [991, 993, 38, 72, 994] (by decide +kernel) (by decide +kernel), by decide +kernel⟩
theorem lk_X7_150 : zLkV RX7 150 mX7_begin 0 := ⟨zWs_r _ [955, 957, 31, 72, 958] (by decide +kernel) (by decide +kernel), by decide +kernel⟩
theorem lk_X7_130 : zLkV RX7 130 mX7_name 0 := ⟨zWs_r _ [974, 976, 34, 72, 977] (by decide +kernel) (by decide +kernel), by decide +kernel⟩
theorem co_X7_153 : Cond.constantLong RX7 153 (7102839) ∈ zWs := zWs_at 978 (by decide +kernel) rfl
theorem lk_X7_138 : zLkV RX7 138 mX7_number 2 := ⟨zWs_r _ [987, 989, 37, 72, 990] (by decide +kernel) (by decide +kernel), by decide +kernel⟩
theorem lk_X7_142 : zLkV RX7 142 mX7_mustEnd 0 := ⟨zWs_r _ [995, 997, 39, 72, 998] (by decide +kernel) (by decide +kernel), by decide +kernel⟩
theorem co_X7_155 : Cond.constantLong RX7 155 (119183001281906) ∈ zWs := zWs_at 999 (by decide +kernel) rfl
theorem lk_X7_157 : zLkV RX7 157 mX7_readLetter 0 := ⟨zWs_r _ [1000, 1002, 40, 72, 1003] (by decide +kernel) (by decide +kernel), by decide +kernel⟩
theorem lk_X7_160 : zLkV RX7 160 mX7_readSheet 0 := ⟨zWs_r _ [1012, 1014, 41, 72, 1015] (by decide +kernel) (by decide +kernel), by decide +kernel⟩
theorem co_X7_166 : Cond.constant RX7 166 (-1000100) ∈ zWs := zWs_at 1021 (by decide +kernel) rfl
theorem lk_X7_185 : zLkS RX7 185 mX7_bits 1 ∨ zLkN RX7 185 mX7_bits 1 := Or.inl ⟨zWs_r _ [1098, 1099, 72, 1100] (by decide +kernel) (by decide +kernel), by decide +kernel⟩
theorem lk_X7_134 : zLkS RX7 134 mX7_kindBy 1 ∨ zLkN RX7 134 mX7_kindBy 1 := Or.inl ⟨zWs_r _ [1004, 1005, 72, 1006] (by decide +kernel) (by decide +kernel), by decide +kernel⟩
theorem co_X7_145 : Cond.constantLong RX7 145 (495672714612) ∈ zWs := zWs_at 1016 (by decide +kernel) rfl
theorem lk_X7_147 : zLkV RX7 147 mX7_readFront 0 := ⟨zWs_r _ [1017, 1019, 42, 72, 1020] (by decide +kernel) (by decide +kernel), by decide +kernel⟩
theorem lk_X7_206 : zLkV RX7 206 mX7_keep 0 := ⟨zWs_r _ [1041, 1043, 45, 72, 1044] (by decide +kernel) (by decide +kernel), by decide +kernel⟩
theorem ar_int : Cond.arrayClass .int ∈ zWs := zWs_at 123 (by decide +kernel) rfl
theorem ar_bool : Cond.arrayClass .boolean ∈ zWs := zWs_at 913 (by decide +kernel) rfl
end
