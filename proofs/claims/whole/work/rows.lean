section
-- ===== PART A: goes FIRST, ahead of the names: the tables' words, and 'selects' of the private methods out of them =====
/-- a private method of a class that the tables say can be made, by its rows of tables_1 -/
def lw_okq (q : MethodName × Nat) : Prop := (q.1.cls ≠ "java/lang/invoke/MethodHandle" ∧ q.1.cls ≠ "java/lang/invoke/VarHandle") ∧ Cond.instantiable q.1.cls q.2 ∈ tables_1 ∧ Cond.privateMethod q.1 ∈ tables_1 ∧ Cond.instanceMethod q.1 ∈ tables_1
theorem lw_p0 : lw_okq (⟨"PaperHears", "refuseBad", "()I"⟩, 12) := ⟨⟨by decide +kernel, by decide +kernel⟩, List.mem_of_getElem? (i := 17) (by decide +kernel), List.mem_of_getElem? (i := 228) (by decide +kernel), List.mem_of_getElem? (i := 229) (by decide +kernel)⟩
theorem lw_p1 : lw_okq (⟨"PaperHears", "refuseFull", "()I"⟩, 12) := ⟨⟨by decide +kernel, by decide +kernel⟩, List.mem_of_getElem? (i := 17) (by decide +kernel), List.mem_of_getElem? (i := 236) (by decide +kernel), List.mem_of_getElem? (i := 237) (by decide +kernel)⟩
theorem lw_p2 : lw_okq (⟨"PaperHears$Reader", "advance", "()V"⟩, 7) := ⟨⟨by decide +kernel, by decide +kernel⟩, List.mem_of_getElem? (i := 100) (by decide +kernel), List.mem_of_getElem? (i := 277) (by decide +kernel), List.mem_of_getElem? (i := 278) (by decide +kernel)⟩
theorem lw_p3 : lw_okq (⟨"PaperHears$Reader", "sortAt", "(I)I"⟩, 7) := ⟨⟨by decide +kernel, by decide +kernel⟩, List.mem_of_getElem? (i := 100) (by decide +kernel), List.mem_of_getElem? (i := 285) (by decide +kernel), List.mem_of_getElem? (i := 286) (by decide +kernel)⟩
theorem lw_p4 : lw_okq (⟨"PaperHears$Reader", "isWord", "(Ljava/lang/String;)Z"⟩, 7) := ⟨⟨by decide +kernel, by decide +kernel⟩, List.mem_of_getElem? (i := 100) (by decide +kernel), List.mem_of_getElem? (i := 290) (by decide +kernel), List.mem_of_getElem? (i := 291) (by decide +kernel)⟩
theorem lw_p5 : lw_okq (⟨"PaperHears$Reader", "readStop", "()Z"⟩, 7) := ⟨⟨by decide +kernel, by decide +kernel⟩, List.mem_of_getElem? (i := 100) (by decide +kernel), List.mem_of_getElem? (i := 342) (by decide +kernel), List.mem_of_getElem? (i := 343) (by decide +kernel)⟩
theorem lw_p6 : lw_okq (⟨"PaperHears$Reader", "itemBegun", "()I"⟩, 7) := ⟨⟨by decide +kernel, by decide +kernel⟩, List.mem_of_getElem? (i := 100) (by decide +kernel), List.mem_of_getElem? (i := 346) (by decide +kernel), List.mem_of_getElem? (i := 347) (by decide +kernel)⟩
theorem lw_p7 : lw_okq (⟨"PaperHears$Reader", "readNumbers", "(I)Z"⟩, 7) := ⟨⟨by decide +kernel, by decide +kernel⟩, List.mem_of_getElem? (i := 100) (by decide +kernel), List.mem_of_getElem? (i := 359) (by decide +kernel), List.mem_of_getElem? (i := 360) (by decide +kernel)⟩
theorem lw_p8 : lw_okq (⟨"PaperHears$Reader", "readNumber", "(II)Z"⟩, 7) := ⟨⟨by decide +kernel, by decide +kernel⟩, List.mem_of_getElem? (i := 100) (by decide +kernel), List.mem_of_getElem? (i := 363) (by decide +kernel), List.mem_of_getElem? (i := 364) (by decide +kernel)⟩
theorem lw_p9 : lw_okq (⟨"PaperHears$Reader", "obey", "(LPaperHears$House;I)V"⟩, 7) := ⟨⟨by decide +kernel, by decide +kernel⟩, List.mem_of_getElem? (i := 100) (by decide +kernel), List.mem_of_getElem? (i := 368) (by decide +kernel), List.mem_of_getElem? (i := 369) (by decide +kernel)⟩
theorem lw_p10 : lw_okq (⟨"PaperHears", "refuseNo", "()I"⟩, 12) := ⟨⟨by decide +kernel, by decide +kernel⟩, List.mem_of_getElem? (i := 17) (by decide +kernel), List.mem_of_getElem? (i := 458) (by decide +kernel), List.mem_of_getElem? (i := 459) (by decide +kernel)⟩
theorem lw_p11 : lw_okq (⟨"PaperHears", "isListener", "(I)Z"⟩, 12) := ⟨⟨by decide +kernel, by decide +kernel⟩, List.mem_of_getElem? (i := 17) (by decide +kernel), List.mem_of_getElem? (i := 467) (by decide +kernel), List.mem_of_getElem? (i := 468) (by decide +kernel)⟩
theorem lw_p12 : lw_okq (⟨"PaperHears", "isSaying", "(I)Z"⟩, 12) := ⟨⟨by decide +kernel, by decide +kernel⟩, List.mem_of_getElem? (i := 17) (by decide +kernel), List.mem_of_getElem? (i := 500) (by decide +kernel), List.mem_of_getElem? (i := 501) (by decide +kernel)⟩
theorem lw_p13 : lw_okq (⟨"PaperHears", "isSet", "(I)Z"⟩, 12) := ⟨⟨by decide +kernel, by decide +kernel⟩, List.mem_of_getElem? (i := 17) (by decide +kernel), List.mem_of_getElem? (i := 538) (by decide +kernel), List.mem_of_getElem? (i := 539) (by decide +kernel)⟩
theorem lw_p14 : lw_okq (⟨"PaperHears", "areBrothers", "()Z"⟩, 12) := ⟨⟨by decide +kernel, by decide +kernel⟩, List.mem_of_getElem? (i := 17) (by decide +kernel), List.mem_of_getElem? (i := 553) (by decide +kernel), List.mem_of_getElem? (i := 554) (by decide +kernel)⟩
theorem lw_p15 : lw_okq (⟨"PaperHears$Plans", "wouldRest", "(III)Z"⟩, 1) := ⟨⟨by decide +kernel, by decide +kernel⟩, List.mem_of_getElem? (i := 131) (by decide +kernel), List.mem_of_getElem? (i := 653) (by decide +kernel), List.mem_of_getElem? (i := 654) (by decide +kernel)⟩
def lw_privs_1 : List (MethodName × Nat) := [(⟨"PaperHears", "refuseBad", "()I"⟩, 12), (⟨"PaperHears", "refuseFull", "()I"⟩, 12), (⟨"PaperHears$Reader", "advance", "()V"⟩, 7), (⟨"PaperHears$Reader", "sortAt", "(I)I"⟩, 7), (⟨"PaperHears$Reader", "isWord", "(Ljava/lang/String;)Z"⟩, 7), (⟨"PaperHears$Reader", "readStop", "()Z"⟩, 7), (⟨"PaperHears$Reader", "itemBegun", "()I"⟩, 7), (⟨"PaperHears$Reader", "readNumbers", "(I)Z"⟩, 7), (⟨"PaperHears$Reader", "readNumber", "(II)Z"⟩, 7), (⟨"PaperHears$Reader", "obey", "(LPaperHears$House;I)V"⟩, 7), (⟨"PaperHears", "refuseNo", "()I"⟩, 12), (⟨"PaperHears", "isListener", "(I)Z"⟩, 12), (⟨"PaperHears", "isSaying", "(I)Z"⟩, 12), (⟨"PaperHears", "isSet", "(I)Z"⟩, 12), (⟨"PaperHears", "areBrothers", "()Z"⟩, 12), (⟨"PaperHears$Plans", "wouldRest", "(III)Z"⟩, 1)]
theorem lw_r1 : ∀ q ∈ lw_privs_1, lw_okq q := List.forall_mem_cons.mpr ⟨lw_p0, List.forall_mem_cons.mpr ⟨lw_p1, List.forall_mem_cons.mpr ⟨lw_p2, List.forall_mem_cons.mpr ⟨lw_p3, List.forall_mem_cons.mpr ⟨lw_p4, List.forall_mem_cons.mpr ⟨lw_p5, List.forall_mem_cons.mpr ⟨lw_p6, List.forall_mem_cons.mpr ⟨lw_p7, List.forall_mem_cons.mpr ⟨lw_p8, List.forall_mem_cons.mpr ⟨lw_p9, List.forall_mem_cons.mpr ⟨lw_p10, List.forall_mem_cons.mpr ⟨lw_p11, List.forall_mem_cons.mpr ⟨lw_p12, List.forall_mem_cons.mpr ⟨lw_p13, List.forall_mem_cons.mpr ⟨lw_p14, List.forall_mem_cons.mpr ⟨lw_p15, fun _ h => absurd h List.not_mem_nil⟩⟩⟩⟩⟩⟩⟩⟩⟩⟩⟩⟩⟩⟩⟩⟩
theorem lw_p16 : lw_okq (⟨"PaperHears$Plans", "gain", "(III)I"⟩, 1) := ⟨⟨by decide +kernel, by decide +kernel⟩, List.mem_of_getElem? (i := 131) (by decide +kernel), List.mem_of_getElem? (i := 657) (by decide +kernel), List.mem_of_getElem? (i := 658) (by decide +kernel)⟩
theorem lw_p17 : lw_okq (⟨"PaperHears$Fraction", "become", "(JJ)V"⟩, 2) := ⟨⟨by decide +kernel, by decide +kernel⟩, List.mem_of_getElem? (i := 143) (by decide +kernel), List.mem_of_getElem? (i := 671) (by decide +kernel), List.mem_of_getElem? (i := 672) (by decide +kernel)⟩
theorem lw_p18 : lw_okq (⟨"PaperHears", "howMany", "(I)I"⟩, 12) := ⟨⟨by decide +kernel, by decide +kernel⟩, List.mem_of_getElem? (i := 17) (by decide +kernel), List.mem_of_getElem? (i := 725) (by decide +kernel), List.mem_of_getElem? (i := 726) (by decide +kernel)⟩
theorem lw_p19 : lw_okq (⟨"PaperHearsModel", "empties", "()V"⟩, 27) := ⟨⟨by decide +kernel, by decide +kernel⟩, List.mem_of_getElem? (i := 745) (by decide +kernel), List.mem_of_getElem? (i := 751) (by decide +kernel), List.mem_of_getElem? (i := 752) (by decide +kernel)⟩
theorem lw_p20 : lw_okq (⟨"PaperHearsModel", "bad", "()I"⟩, 27) := ⟨⟨by decide +kernel, by decide +kernel⟩, List.mem_of_getElem? (i := 745) (by decide +kernel), List.mem_of_getElem? (i := 860) (by decide +kernel), List.mem_of_getElem? (i := 861) (by decide +kernel)⟩
theorem lw_p21 : lw_okq (⟨"PaperHearsModel", "full", "()I"⟩, 27) := ⟨⟨by decide +kernel, by decide +kernel⟩, List.mem_of_getElem? (i := 745) (by decide +kernel), List.mem_of_getElem? (i := 864) (by decide +kernel), List.mem_of_getElem? (i := 865) (by decide +kernel)⟩
theorem lw_p22 : lw_okq (⟨"PaperHearsModel", "sayingComes", "(III)V"⟩, 27) := ⟨⟨by decide +kernel, by decide +kernel⟩, List.mem_of_getElem? (i := 745) (by decide +kernel), List.mem_of_getElem? (i := 868) (by decide +kernel), List.mem_of_getElem? (i := 869) (by decide +kernel)⟩
theorem lw_p23 : lw_okq (⟨"PaperHearsModel", "earComes", "(II)V"⟩, 27) := ⟨⟨by decide +kernel, by decide +kernel⟩, List.mem_of_getElem? (i := 745) (by decide +kernel), List.mem_of_getElem? (i := 876) (by decide +kernel), List.mem_of_getElem? (i := 877) (by decide +kernel)⟩
theorem lw_p24 : lw_okq (⟨"PaperHearsModel", "readAll", "()I"⟩, 27) := ⟨⟨by decide +kernel, by decide +kernel⟩, List.mem_of_getElem? (i := 745) (by decide +kernel), List.mem_of_getElem? (i := 893) (by decide +kernel), List.mem_of_getElem? (i := 894) (by decide +kernel)⟩
theorem lw_p25 : lw_okq (⟨"PaperHearsModel", "skips", "()V"⟩, 27) := ⟨⟨by decide +kernel, by decide +kernel⟩, List.mem_of_getElem? (i := 745) (by decide +kernel), List.mem_of_getElem? (i := 897) (by decide +kernel), List.mem_of_getElem? (i := 898) (by decide +kernel)⟩
theorem lw_p26 : lw_okq (⟨"PaperHearsModel", "byteAt", "(I)I"⟩, 27) := ⟨⟨by decide +kernel, by decide +kernel⟩, List.mem_of_getElem? (i := 745) (by decide +kernel), List.mem_of_getElem? (i := 901) (by decide +kernel), List.mem_of_getElem? (i := 902) (by decide +kernel)⟩
theorem lw_p27 : lw_okq (⟨"PaperHearsModel", "word", "()J"⟩, 27) := ⟨⟨by decide +kernel, by decide +kernel⟩, List.mem_of_getElem? (i := 745) (by decide +kernel), List.mem_of_getElem? (i := 905) (by decide +kernel), List.mem_of_getElem? (i := 906) (by decide +kernel)⟩
theorem lw_p28 : lw_okq (⟨"PaperHearsModel", "faults", "(I)V"⟩, 27) := ⟨⟨by decide +kernel, by decide +kernel⟩, List.mem_of_getElem? (i := 745) (by decide +kernel), List.mem_of_getElem? (i := 924) (by decide +kernel), List.mem_of_getElem? (i := 925) (by decide +kernel)⟩
theorem lw_p29 : lw_okq (⟨"PaperHearsModel", "readItem", "(II)V"⟩, 27) := ⟨⟨by decide +kernel, by decide +kernel⟩, List.mem_of_getElem? (i := 745) (by decide +kernel), List.mem_of_getElem? (i := 928) (by decide +kernel), List.mem_of_getElem? (i := 929) (by decide +kernel)⟩
theorem lw_p30 : lw_okq (⟨"PaperHearsModel", "number", "(II)I"⟩, 27) := ⟨⟨by decide +kernel, by decide +kernel⟩, List.mem_of_getElem? (i := 745) (by decide +kernel), List.mem_of_getElem? (i := 932) (by decide +kernel), List.mem_of_getElem? (i := 933) (by decide +kernel)⟩
theorem lw_p31 : lw_okq (⟨"PaperHearsModel", "ends", "()V"⟩, 27) := ⟨⟨by decide +kernel, by decide +kernel⟩, List.mem_of_getElem? (i := 745) (by decide +kernel), List.mem_of_getElem? (i := 941) (by decide +kernel), List.mem_of_getElem? (i := 942) (by decide +kernel)⟩
def lw_privs_2 : List (MethodName × Nat) := [(⟨"PaperHears$Plans", "gain", "(III)I"⟩, 1), (⟨"PaperHears$Fraction", "become", "(JJ)V"⟩, 2), (⟨"PaperHears", "howMany", "(I)I"⟩, 12), (⟨"PaperHearsModel", "empties", "()V"⟩, 27), (⟨"PaperHearsModel", "bad", "()I"⟩, 27), (⟨"PaperHearsModel", "full", "()I"⟩, 27), (⟨"PaperHearsModel", "sayingComes", "(III)V"⟩, 27), (⟨"PaperHearsModel", "earComes", "(II)V"⟩, 27), (⟨"PaperHearsModel", "readAll", "()I"⟩, 27), (⟨"PaperHearsModel", "skips", "()V"⟩, 27), (⟨"PaperHearsModel", "byteAt", "(I)I"⟩, 27), (⟨"PaperHearsModel", "word", "()J"⟩, 27), (⟨"PaperHearsModel", "faults", "(I)V"⟩, 27), (⟨"PaperHearsModel", "readItem", "(II)V"⟩, 27), (⟨"PaperHearsModel", "number", "(II)I"⟩, 27), (⟨"PaperHearsModel", "ends", "()V"⟩, 27)]
theorem lw_r2 : ∀ q ∈ lw_privs_2, lw_okq q := List.forall_mem_cons.mpr ⟨lw_p16, List.forall_mem_cons.mpr ⟨lw_p17, List.forall_mem_cons.mpr ⟨lw_p18, List.forall_mem_cons.mpr ⟨lw_p19, List.forall_mem_cons.mpr ⟨lw_p20, List.forall_mem_cons.mpr ⟨lw_p21, List.forall_mem_cons.mpr ⟨lw_p22, List.forall_mem_cons.mpr ⟨lw_p23, List.forall_mem_cons.mpr ⟨lw_p24, List.forall_mem_cons.mpr ⟨lw_p25, List.forall_mem_cons.mpr ⟨lw_p26, List.forall_mem_cons.mpr ⟨lw_p27, List.forall_mem_cons.mpr ⟨lw_p28, List.forall_mem_cons.mpr ⟨lw_p29, List.forall_mem_cons.mpr ⟨lw_p30, List.forall_mem_cons.mpr ⟨lw_p31, fun _ h => absurd h List.not_mem_nil⟩⟩⟩⟩⟩⟩⟩⟩⟩⟩⟩⟩⟩⟩⟩⟩
theorem lw_p32 : lw_okq (⟨"PaperHearsModel", "becomes", "(I)V"⟩, 27) := ⟨⟨by decide +kernel, by decide +kernel⟩, List.mem_of_getElem? (i := 745) (by decide +kernel), List.mem_of_getElem? (i := 945) (by decide +kernel), List.mem_of_getElem? (i := 946) (by decide +kernel)⟩
theorem lw_p33 : lw_okq (⟨"PaperHearsModel", "goMinutes", "(I)V"⟩, 27) := ⟨⟨by decide +kernel, by decide +kernel⟩, List.mem_of_getElem? (i := 745) (by decide +kernel), List.mem_of_getElem? (i := 949) (by decide +kernel), List.mem_of_getElem? (i := 950) (by decide +kernel)⟩
theorem lw_p34 : lw_okq (⟨"PaperHearsModel", "goesBy", "()V"⟩, 27) := ⟨⟨by decide +kernel, by decide +kernel⟩, List.mem_of_getElem? (i := 745) (by decide +kernel), List.mem_of_getElem? (i := 953) (by decide +kernel), List.mem_of_getElem? (i := 954) (by decide +kernel)⟩
theorem lw_p35 : lw_okq (⟨"PaperHearsModel", "heardNow", "(I)I"⟩, 27) := ⟨⟨by decide +kernel, by decide +kernel⟩, List.mem_of_getElem? (i := 745) (by decide +kernel), List.mem_of_getElem? (i := 957) (by decide +kernel), List.mem_of_getElem? (i := 958) (by decide +kernel)⟩
theorem lw_p36 : lw_okq (⟨"PaperHearsModel", "minuteOf", "(I)I"⟩, 27) := ⟨⟨by decide +kernel, by decide +kernel⟩, List.mem_of_getElem? (i := 745) (by decide +kernel), List.mem_of_getElem? (i := 961) (by decide +kernel), List.mem_of_getElem? (i := 962) (by decide +kernel)⟩
theorem lw_p37 : lw_okq (⟨"PaperHearsModel", "heardIn", "(III)I"⟩, 27) := ⟨⟨by decide +kernel, by decide +kernel⟩, List.mem_of_getElem? (i := 745) (by decide +kernel), List.mem_of_getElem? (i := 965) (by decide +kernel), List.mem_of_getElem? (i := 966) (by decide +kernel)⟩
theorem lw_p38 : lw_okq (⟨"PaperHearsModel", "heardOf", "(IIII)I"⟩, 27) := ⟨⟨by decide +kernel, by decide +kernel⟩, List.mem_of_getElem? (i := 745) (by decide +kernel), List.mem_of_getElem? (i := 969) (by decide +kernel), List.mem_of_getElem? (i := 970) (by decide +kernel)⟩
theorem lw_p39 : lw_okq (⟨"PaperHearsModel", "together", "(III)I"⟩, 27) := ⟨⟨by decide +kernel, by decide +kernel⟩, List.mem_of_getElem? (i := 745) (by decide +kernel), List.mem_of_getElem? (i := 973) (by decide +kernel), List.mem_of_getElem? (i := 974) (by decide +kernel)⟩
theorem lw_p40 : lw_okq (⟨"PaperHearsModel", "loudIn", "(II)I"⟩, 27) := ⟨⟨by decide +kernel, by decide +kernel⟩, List.mem_of_getElem? (i := 745) (by decide +kernel), List.mem_of_getElem? (i := 977) (by decide +kernel), List.mem_of_getElem? (i := 978) (by decide +kernel)⟩
theorem lw_p41 : lw_okq (⟨"PaperHearsModel", "keeps", "()V"⟩, 27) := ⟨⟨by decide +kernel, by decide +kernel⟩, List.mem_of_getElem? (i := 745) (by decide +kernel), List.mem_of_getElem? (i := 994) (by decide +kernel), List.mem_of_getElem? (i := 995) (by decide +kernel)⟩
theorem lw_p42 : lw_okq (⟨"PaperHearsModel", "loudNow", "(I)I"⟩, 27) := ⟨⟨by decide +kernel, by decide +kernel⟩, List.mem_of_getElem? (i := 745) (by decide +kernel), List.mem_of_getElem? (i := 998) (by decide +kernel), List.mem_of_getElem? (i := 999) (by decide +kernel)⟩
theorem lw_p43 : lw_okq (⟨"PaperHearsModel", "no", "()I"⟩, 27) := ⟨⟨by decide +kernel, by decide +kernel⟩, List.mem_of_getElem? (i := 745) (by decide +kernel), List.mem_of_getElem? (i := 1006) (by decide +kernel), List.mem_of_getElem? (i := 1007) (by decide +kernel)⟩
theorem lw_p44 : lw_okq (⟨"PaperHearsModel", "isEar", "(I)Z"⟩, 27) := ⟨⟨by decide +kernel, by decide +kernel⟩, List.mem_of_getElem? (i := 745) (by decide +kernel), List.mem_of_getElem? (i := 1014) (by decide +kernel), List.mem_of_getElem? (i := 1015) (by decide +kernel)⟩
theorem lw_p45 : lw_okq (⟨"PaperHearsModel", "knownByAll", "()I"⟩, 27) := ⟨⟨by decide +kernel, by decide +kernel⟩, List.mem_of_getElem? (i := 745) (by decide +kernel), List.mem_of_getElem? (i := 1023) (by decide +kernel), List.mem_of_getElem? (i := 1024) (by decide +kernel)⟩
theorem lw_p46 : lw_okq (⟨"PaperHearsModel", "isSaying", "(I)Z"⟩, 27) := ⟨⟨by decide +kernel, by decide +kernel⟩, List.mem_of_getElem? (i := 745) (by decide +kernel), List.mem_of_getElem? (i := 1038) (by decide +kernel), List.mem_of_getElem? (i := 1039) (by decide +kernel)⟩
theorem lw_p47 : lw_okq (⟨"PaperHearsModel", "stays", "(IIII)I"⟩, 27) := ⟨⟨by decide +kernel, by decide +kernel⟩, List.mem_of_getElem? (i := 745) (by decide +kernel), List.mem_of_getElem? (i := 1064) (by decide +kernel), List.mem_of_getElem? (i := 1065) (by decide +kernel)⟩
def lw_privs_3 : List (MethodName × Nat) := [(⟨"PaperHearsModel", "becomes", "(I)V"⟩, 27), (⟨"PaperHearsModel", "goMinutes", "(I)V"⟩, 27), (⟨"PaperHearsModel", "goesBy", "()V"⟩, 27), (⟨"PaperHearsModel", "heardNow", "(I)I"⟩, 27), (⟨"PaperHearsModel", "minuteOf", "(I)I"⟩, 27), (⟨"PaperHearsModel", "heardIn", "(III)I"⟩, 27), (⟨"PaperHearsModel", "heardOf", "(IIII)I"⟩, 27), (⟨"PaperHearsModel", "together", "(III)I"⟩, 27), (⟨"PaperHearsModel", "loudIn", "(II)I"⟩, 27), (⟨"PaperHearsModel", "keeps", "()V"⟩, 27), (⟨"PaperHearsModel", "loudNow", "(I)I"⟩, 27), (⟨"PaperHearsModel", "no", "()I"⟩, 27), (⟨"PaperHearsModel", "isEar", "(I)Z"⟩, 27), (⟨"PaperHearsModel", "knownByAll", "()I"⟩, 27), (⟨"PaperHearsModel", "isSaying", "(I)Z"⟩, 27), (⟨"PaperHearsModel", "stays", "(IIII)I"⟩, 27)]
theorem lw_r3 : ∀ q ∈ lw_privs_3, lw_okq q := List.forall_mem_cons.mpr ⟨lw_p32, List.forall_mem_cons.mpr ⟨lw_p33, List.forall_mem_cons.mpr ⟨lw_p34, List.forall_mem_cons.mpr ⟨lw_p35, List.forall_mem_cons.mpr ⟨lw_p36, List.forall_mem_cons.mpr ⟨lw_p37, List.forall_mem_cons.mpr ⟨lw_p38, List.forall_mem_cons.mpr ⟨lw_p39, List.forall_mem_cons.mpr ⟨lw_p40, List.forall_mem_cons.mpr ⟨lw_p41, List.forall_mem_cons.mpr ⟨lw_p42, List.forall_mem_cons.mpr ⟨lw_p43, List.forall_mem_cons.mpr ⟨lw_p44, List.forall_mem_cons.mpr ⟨lw_p45, List.forall_mem_cons.mpr ⟨lw_p46, List.forall_mem_cons.mpr ⟨lw_p47, fun _ h => absurd h List.not_mem_nil⟩⟩⟩⟩⟩⟩⟩⟩⟩⟩⟩⟩⟩⟩⟩⟩
theorem lw_p48 : lw_okq (⟨"PaperHearsModel", "heardBehind", "(III)I"⟩, 27) := ⟨⟨by decide +kernel, by decide +kernel⟩, List.mem_of_getElem? (i := 745) (by decide +kernel), List.mem_of_getElem? (i := 1073) (by decide +kernel), List.mem_of_getElem? (i := 1074) (by decide +kernel)⟩
theorem lw_p49 : lw_okq (⟨"PaperHearsModel", "isSo", "(II)Z"⟩, 27) := ⟨⟨by decide +kernel, by decide +kernel⟩, List.mem_of_getElem? (i := 745) (by decide +kernel), List.mem_of_getElem? (i := 1085) (by decide +kernel), List.mem_of_getElem? (i := 1086) (by decide +kernel)⟩
theorem lw_p50 : lw_okq (⟨"PaperHearsModel", "kindsOf", "(I)I"⟩, 27) := ⟨⟨by decide +kernel, by decide +kernel⟩, List.mem_of_getElem? (i := 745) (by decide +kernel), List.mem_of_getElem? (i := 1109) (by decide +kernel), List.mem_of_getElem? (i := 1110) (by decide +kernel)⟩
theorem lw_p51 : lw_okq (⟨"PaperHearsModel", "sortsOf", "(I)I"⟩, 27) := ⟨⟨by decide +kernel, by decide +kernel⟩, List.mem_of_getElem? (i := 745) (by decide +kernel), List.mem_of_getElem? (i := 1121) (by decide +kernel), List.mem_of_getElem? (i := 1122) (by decide +kernel)⟩
theorem lw_p52 : lw_okq (⟨"PaperHearsModel", "rests", "(II)Z"⟩, 27) := ⟨⟨by decide +kernel, by decide +kernel⟩, List.mem_of_getElem? (i := 745) (by decide +kernel), List.mem_of_getElem? (i := 1133) (by decide +kernel), List.mem_of_getElem? (i := 1134) (by decide +kernel)⟩
theorem lw_p53 : lw_okq (⟨"PaperHearsModel", "gain", "(III)I"⟩, 27) := ⟨⟨by decide +kernel, by decide +kernel⟩, List.mem_of_getElem? (i := 745) (by decide +kernel), List.mem_of_getElem? (i := 1137) (by decide +kernel), List.mem_of_getElem? (i := 1138) (by decide +kernel)⟩
theorem lw_p54 : lw_okq (⟨"PaperHearsModel", "moveAll", "(ZI)V"⟩, 27) := ⟨⟨by decide +kernel, by decide +kernel⟩, List.mem_of_getElem? (i := 745) (by decide +kernel), List.mem_of_getElem? (i := 1166) (by decide +kernel), List.mem_of_getElem? (i := 1167) (by decide +kernel)⟩
theorem lw_p55 : lw_okq (⟨"PaperHearsModel", "moves", "(ZII)I"⟩, 27) := ⟨⟨by decide +kernel, by decide +kernel⟩, List.mem_of_getElem? (i := 745) (by decide +kernel), List.mem_of_getElem? (i := 1170) (by decide +kernel), List.mem_of_getElem? (i := 1171) (by decide +kernel)⟩
theorem lw_p56 : lw_okq (⟨"PaperHearsModel", "moveRow", "(ZI[II)V"⟩, 27) := ⟨⟨by decide +kernel, by decide +kernel⟩, List.mem_of_getElem? (i := 745) (by decide +kernel), List.mem_of_getElem? (i := 1174) (by decide +kernel), List.mem_of_getElem? (i := 1175) (by decide +kernel)⟩
theorem lw_p57 : lw_okq (⟨"PaperHearsModel", "counted", "(I)I"⟩, 27) := ⟨⟨by decide +kernel, by decide +kernel⟩, List.mem_of_getElem? (i := 745) (by decide +kernel), List.mem_of_getElem? (i := 1186) (by decide +kernel), List.mem_of_getElem? (i := 1187) (by decide +kernel)⟩
theorem lw_p58 : lw_okq (⟨"PaperHearsModel", "stripped", "()I"⟩, 27) := ⟨⟨by decide +kernel, by decide +kernel⟩, List.mem_of_getElem? (i := 745) (by decide +kernel), List.mem_of_getElem? (i := 1190) (by decide +kernel), List.mem_of_getElem? (i := 1191) (by decide +kernel)⟩
def lw_privs_4 : List (MethodName × Nat) := [(⟨"PaperHearsModel", "heardBehind", "(III)I"⟩, 27), (⟨"PaperHearsModel", "isSo", "(II)Z"⟩, 27), (⟨"PaperHearsModel", "kindsOf", "(I)I"⟩, 27), (⟨"PaperHearsModel", "sortsOf", "(I)I"⟩, 27), (⟨"PaperHearsModel", "rests", "(II)Z"⟩, 27), (⟨"PaperHearsModel", "gain", "(III)I"⟩, 27), (⟨"PaperHearsModel", "moveAll", "(ZI)V"⟩, 27), (⟨"PaperHearsModel", "moves", "(ZII)I"⟩, 27), (⟨"PaperHearsModel", "moveRow", "(ZI[II)V"⟩, 27), (⟨"PaperHearsModel", "counted", "(I)I"⟩, 27), (⟨"PaperHearsModel", "stripped", "()I"⟩, 27)]
theorem lw_r4 : ∀ q ∈ lw_privs_4, lw_okq q := List.forall_mem_cons.mpr ⟨lw_p48, List.forall_mem_cons.mpr ⟨lw_p49, List.forall_mem_cons.mpr ⟨lw_p50, List.forall_mem_cons.mpr ⟨lw_p51, List.forall_mem_cons.mpr ⟨lw_p52, List.forall_mem_cons.mpr ⟨lw_p53, List.forall_mem_cons.mpr ⟨lw_p54, List.forall_mem_cons.mpr ⟨lw_p55, List.forall_mem_cons.mpr ⟨lw_p56, List.forall_mem_cons.mpr ⟨lw_p57, List.forall_mem_cons.mpr ⟨lw_p58, fun _ h => absurd h List.not_mem_nil⟩⟩⟩⟩⟩⟩⟩⟩⟩⟩⟩
def lw_privs : List (MethodName × Nat) := lw_privs_1 ++ (lw_privs_2 ++ (lw_privs_3 ++ (lw_privs_4)))
def lw_tbl : List Cond := k2_sels lw_privs ++ tables_1
theorem lw_privs_ok : ∀ q ∈ lw_privs, lw_okq q := by
  show ∀ q ∈ lw_privs_1 ++ (lw_privs_2 ++ (lw_privs_3 ++ (lw_privs_4))), lw_okq q
  exact List.forall_mem_append.mpr ⟨lw_r1, List.forall_mem_append.mpr ⟨lw_r2, List.forall_mem_append.mpr ⟨lw_r3, lw_r4⟩⟩⟩

def RX0 : String := "PaperHears$Clues"
def TX0 : u_T := fun k => match k with
  | _ => ("", "", "", false)
def tyX0 : Nat → FieldType := fun k => match k with
  | _ => .int
theorem nmX0 : ∀ a, a < 0 → ∀ b, b < 0 → a ≠ b → (TX0 a).2.1 ≠ (TX0 b).2.1 := by decide +kernel
theorem tyX0_ok : ∀ k, k < 0 → parseFieldDescriptor (TX0 k).2.2.1 = some (tyX0 k) := by decide +kernel
abbrev cX0_setsSaid : ByteArray := prog_2_method_2_code
def yX0_setsSaid : MethodName := ⟨RX0, "setsSaid", "(LPaperHears$House;II)I"⟩
abbrev cX0_fitsTold : ByteArray := prog_2_method_3_code
def yX0_fitsTold : MethodName := ⟨RX0, "fitsTold", "(LPaperHears$House;II)Z"⟩
abbrev cX0_sayingKinds : ByteArray := prog_2_method_4_code
def yX0_sayingKinds : MethodName := ⟨RX0, "sayingKinds", "(LPaperHears$House;I)I"⟩
abbrev cX0_fitsNotes : ByteArray := prog_2_method_5_code
def yX0_fitsNotes : MethodName := ⟨RX0, "fitsNotes", "(LPaperHears$House;II)Z"⟩
abbrev cX0_nextLook : ByteArray := prog_2_method_6_code
def yX0_nextLook : MethodName := ⟨RX0, "nextLook", "(LPaperHears$House;I)I"⟩
abbrev cX0_mostAlike : ByteArray := prog_2_method_7_code
def yX0_mostAlike : MethodName := ⟨RX0, "mostAlike", "(III)I"⟩
abbrev cX0_asLoudAs : ByteArray := prog_2_method_8_code
def yX0_asLoudAs : MethodName := ⟨RX0, "asLoudAs", "(IIII)I"⟩
abbrev cX0_listenerKinds : ByteArray := prog_2_method_9_code
def yX0_listenerKinds : MethodName := ⟨RX0, "listenerKinds", "(LPaperHears$House;I)I"⟩
abbrev cX0_fitsMarks : ByteArray := prog_2_method_10_code
def yX0_fitsMarks : MethodName := ⟨RX0, "fitsMarks", "(LPaperHears$House;II)Z"⟩
abbrev cX0_nextQuestion : ByteArray := prog_2_method_11_code
def yX0_nextQuestion : MethodName := ⟨RX0, "nextQuestion", "(LPaperHears$House;I)I"⟩
abbrev cX0_greaterPart : ByteArray := prog_2_method_12_code
def yX0_greaterPart : MethodName := ⟨RX0, "greaterPart", "(III)I"⟩
def RX1 : String := "PaperHears$Fraction"
def TX1 : u_T := fun k => match k with
  | 0 => ("PaperHears$Fraction", "above", "J", false)
  | _ => ("PaperHears$Fraction", "below", "J", false)
def tyX1 : Nat → FieldType := fun k => match k with
  | 0 => .long
  | _ => .long
theorem nmX1 : ∀ a, a < 2 → ∀ b, b < 2 → a ≠ b → (TX1 a).2.1 ≠ (TX1 b).2.1 := by decide +kernel
theorem tyX1_ok : ∀ k, k < 2 → parseFieldDescriptor (TX1 k).2.2.1 = some (tyX1 k) := by decide +kernel
abbrev cX1_init : ByteArray := prog_3_method_1_code
def yX1_init : MethodName := ⟨RX1, "<init>", "()V"⟩
abbrev cX1_becomeChance : ByteArray := prog_3_method_2_code
def yX1_becomeChance : MethodName := ⟨RX1, "becomeChance", "(LPaperHears$House;III)V"⟩
abbrev cX1_become : ByteArray := prog_3_method_3_code
def yX1_become : MethodName := ⟨RX1, "become", "(JJ)V"⟩
abbrev cX1_commonDivisor : ByteArray := prog_3_method_4_code
def yX1_commonDivisor : MethodName := ⟨RX1, "commonDivisor", "(JJ)J"⟩
abbrev cX1_power : ByteArray := prog_3_method_5_code
def yX1_power : MethodName := ⟨RX1, "power", "(II)J"⟩
def RX2 : String := "PaperHears$House"
def TX2 : u_T := fun k => match k with
  | 0 => ("PaperHears$House", "minute", "I", false)
  | 1 => ("PaperHears$House", "sayings", "LPaperHears$Rows;", true)
  | 2 => ("PaperHears$House", "listeners", "LPaperHears$Rows;", true)
  | 3 => ("PaperHears$House", "stripped", "LPaperHears$Rows;", true)
  | 4 => ("PaperHears$House", "told", "LPaperHears$Rows;", true)
  | 5 => ("PaperHears$House", "notes", "LPaperHears$Rows;", true)
  | 6 => ("PaperHears$House", "marks", "LPaperHears$Rows;", true)
  | _ => ("PaperHears$House", "past", "LPaperHears$Rows;", true)
def tyX2 : Nat → FieldType := fun k => match k with
  | 0 => .int
  | 1 => .object "PaperHears$Rows"
  | 2 => .object "PaperHears$Rows"
  | 3 => .object "PaperHears$Rows"
  | 4 => .object "PaperHears$Rows"
  | 5 => .object "PaperHears$Rows"
  | 6 => .object "PaperHears$Rows"
  | _ => .object "PaperHears$Rows"
theorem nmX2 : ∀ a, a < 8 → ∀ b, b < 8 → a ≠ b → (TX2 a).2.1 ≠ (TX2 b).2.1 := by decide +kernel
theorem tyX2_ok : ∀ k, k < 8 → parseFieldDescriptor (TX2 k).2.2.1 = some (tyX2 k) := by decide +kernel
abbrev cX2_init : ByteArray := prog_4_method_1_code
def yX2_init : MethodName := ⟨RX2, "<init>", "()V"⟩
abbrev cX2_reset : ByteArray := prog_4_method_2_code
def yX2_reset : MethodName := ⟨RX2, "reset", "()V"⟩
abbrev cX2_copy : ByteArray := prog_4_method_3_code
def yX2_copy : MethodName := ⟨RX2, "copy", "(LPaperHears$House;)V"⟩
abbrev cX2_addSaying : ByteArray := prog_4_method_4_code
def yX2_addSaying : MethodName := ⟨RX2, "addSaying", "(III)I"⟩
abbrev cX2_addListener : ByteArray := prog_4_method_5_code
def yX2_addListener : MethodName := ⟨RX2, "addListener", "(II)I"⟩
abbrev cX2_strip : ByteArray := prog_4_method_6_code
def yX2_strip : MethodName := ⟨RX2, "strip", "(I)V"⟩
abbrev cX2_paper : ByteArray := prog_4_method_7_code
def yX2_paper : MethodName := ⟨RX2, "paper", "(I)V"⟩
abbrev cX2_isStripped : ByteArray := prog_4_method_8_code
def yX2_isStripped : MethodName := ⟨RX2, "isStripped", "(I)Z"⟩
abbrev cX2_strippedRooms : ByteArray := prog_4_method_9_code
def yX2_strippedRooms : MethodName := ⟨RX2, "strippedRooms", "()I"⟩
abbrev cX2_roomMinute : ByteArray := prog_4_method_10_code
def yX2_roomMinute : MethodName := ⟨RX2, "roomMinute", "(II)I"⟩
abbrev cX2_loudness : ByteArray := prog_4_method_11_code
def yX2_loudness : MethodName := ⟨RX2, "loudness", "(II)I"⟩
abbrev cX2_loudnessOfSet : ByteArray := prog_4_method_12_code
def yX2_loudnessOfSet : MethodName := ⟨RX2, "loudnessOfSet", "(II)I"⟩
abbrev cX2_roomLoudness : ByteArray := prog_4_method_13_code
def yX2_roomLoudness : MethodName := ⟨RX2, "roomLoudness", "(I)I"⟩
abbrev cX2_sayingsOfRoom : ByteArray := prog_4_method_14_code
def yX2_sayingsOfRoom : MethodName := ⟨RX2, "sayingsOfRoom", "(I)I"⟩
abbrev cX2_heardIn : ByteArray := prog_4_method_15_code
def yX2_heardIn : MethodName := ⟨RX2, "heardIn", "(III)I"⟩
abbrev cX2_heardNow : ByteArray := prog_4_method_16_code
def yX2_heardNow : MethodName := ⟨RX2, "heardNow", "(I)I"⟩
abbrev cX2_passMinutes : ByteArray := prog_4_method_17_code
def yX2_passMinutes : MethodName := ⟨RX2, "passMinutes", "(II)V"⟩
abbrev cX2_knownByAny : ByteArray := prog_4_method_18_code
def yX2_knownByAny : MethodName := ⟨RX2, "knownByAny", "()I"⟩
abbrev cX2_remember : ByteArray := prog_4_method_19_code
def yX2_remember : MethodName := ⟨RX2, "remember", "()V"⟩
abbrev cX2_recall : ByteArray := prog_4_method_20_code
def yX2_recall : MethodName := ⟨RX2, "recall", "()V"⟩
def RX3 : String := "PaperHears$Kinds"
def TX3 : u_T := fun k => match k with
  | _ => ("", "", "", false)
def tyX3 : Nat → FieldType := fun k => match k with
  | _ => .int
theorem nmX3 : ∀ a, a < 0 → ∀ b, b < 0 → a ≠ b → (TX3 a).2.1 ≠ (TX3 b).2.1 := by decide +kernel
theorem tyX3_ok : ∀ k, k < 0 → parseFieldDescriptor (TX3 k).2.2.1 = some (tyX3 k) := by decide +kernel
abbrev cX3_loudness : ByteArray := prog_5_method_2_code
def yX3_loudness : MethodName := ⟨RX3, "loudness", "(III)I"⟩
abbrev cX3_hears : ByteArray := prog_5_method_3_code
def yX3_hears : MethodName := ⟨RX3, "hears", "(III)Z"⟩
abbrev cX3_heard : ByteArray := prog_5_method_4_code
def yX3_heard : MethodName := ⟨RX3, "heard", "(III)I"⟩
def RX4 : String := "PaperHears$Plans"
def TX4 : u_T := fun k => match k with
  | _ => ("PaperHears$Plans", "byRoom", "LPaperHears$Rows;", true)
def tyX4 : Nat → FieldType := fun k => match k with
  | _ => .object "PaperHears$Rows"
theorem nmX4 : ∀ a, a < 1 → ∀ b, b < 1 → a ≠ b → (TX4 a).2.1 ≠ (TX4 b).2.1 := by decide +kernel
theorem tyX4_ok : ∀ k, k < 1 → parseFieldDescriptor (TX4 k).2.2.1 = some (tyX4 k) := by decide +kernel
abbrev cX4_init : ByteArray := prog_6_method_1_code
def yX4_init : MethodName := ⟨RX4, "<init>", "()V"⟩
abbrev cX4_firstHearing : ByteArray := prog_6_method_2_code
def yX4_firstHearing : MethodName := ⟨RX4, "firstHearing", "(LPaperHears$House;II)I"⟩
abbrev cX4_stayIn : ByteArray := prog_6_method_3_code
def yX4_stayIn : MethodName := ⟨RX4, "stayIn", "(LPaperHears$House;IIII)I"⟩
abbrev cX4_bestStay : ByteArray := prog_6_method_4_code
def yX4_bestStay : MethodName := ⟨RX4, "bestStay", "(LPaperHears$House;III)I"⟩
abbrev cX4_bestStand : ByteArray := prog_6_method_5_code
def yX4_bestStand : MethodName := ⟨RX4, "bestStand", "(LPaperHears$House;II)I"⟩
abbrev cX4_knownBehind : ByteArray := prog_6_method_6_code
def yX4_knownBehind : MethodName := ⟨RX4, "knownBehind", "(LPaperHears$House;III)I"⟩
abbrev cX4_restingPair : ByteArray := prog_6_method_7_code
def yX4_restingPair : MethodName := ⟨RX4, "restingPair", "(LPaperHears$House;I)I"⟩
abbrev cX4_wouldRest : ByteArray := prog_6_method_8_code
def yX4_wouldRest : MethodName := ⟨RX4, "wouldRest", "(III)Z"⟩
abbrev cX4_gain : ByteArray := prog_6_method_9_code
def yX4_gain : MethodName := ⟨RX4, "gain", "(III)I"⟩
abbrev cX4_workJobs : ByteArray := prog_6_method_10_code
def yX4_workJobs : MethodName := ⟨RX4, "workJobs", "(LPaperHears$House;II)V"⟩
def RX5 : String := "PaperHears$Reader"
def TX5 : u_T := fun k => match k with
  | 0 => ("PaperHears$Reader", "text", "LPaperHears$Rows;", true)
  | 1 => ("PaperHears$Reader", "begin", "I", false)
  | 2 => ("PaperHears$Reader", "end", "I", false)
  | 3 => ("PaperHears$Reader", "sort", "I", false)
  | 4 => ("PaperHears$Reader", "value", "I", false)
  | 5 => ("PaperHears$Reader", "kind", "I", false)
  | _ => ("PaperHears$Reader", "place", "I", false)
def tyX5 : Nat → FieldType := fun k => match k with
  | 0 => .object "PaperHears$Rows"
  | 1 => .int
  | 2 => .int
  | 3 => .int
  | 4 => .int
  | 5 => .int
  | _ => .int
theorem nmX5 : ∀ a, a < 7 → ∀ b, b < 7 → a ≠ b → (TX5 a).2.1 ≠ (TX5 b).2.1 := by decide +kernel
theorem tyX5_ok : ∀ k, k < 7 → parseFieldDescriptor (TX5 k).2.2.1 = some (tyX5 k) := by decide +kernel
abbrev cX5_init : ByteArray := prog_7_method_1_code
def yX5_init : MethodName := ⟨RX5, "<init>", "()V"⟩
abbrev cX5_readInto : ByteArray := prog_7_method_2_code
def yX5_readInto : MethodName := ⟨RX5, "readInto", "(LPaperHears$House;)I"⟩
abbrev cX5_itemBegun : ByteArray := prog_7_method_3_code
def yX5_itemBegun : MethodName := ⟨RX5, "itemBegun", "()I"⟩
abbrev cX5_mayBegin : ByteArray := prog_7_method_4_code
def yX5_mayBegin : MethodName := ⟨RX5, "mayBegin", "(LPaperHears$House;I)Z"⟩
abbrev cX5_readNumbers : ByteArray := prog_7_method_5_code
def yX5_readNumbers : MethodName := ⟨RX5, "readNumbers", "(I)Z"⟩
abbrev cX5_obey : ByteArray := prog_7_method_6_code
def yX5_obey : MethodName := ⟨RX5, "obey", "(LPaperHears$House;I)V"⟩
abbrev cX5_readNumber : ByteArray := prog_7_method_7_code
def yX5_readNumber : MethodName := ⟨RX5, "readNumber", "(II)Z"⟩
abbrev cX5_readStop : ByteArray := prog_7_method_8_code
def yX5_readStop : MethodName := ⟨RX5, "readStop", "()Z"⟩
abbrev cX5_isWord : ByteArray := prog_7_method_9_code
def yX5_isWord : MethodName := ⟨RX5, "isWord", "(Ljava/lang/String;)Z"⟩
abbrev cX5_advance : ByteArray := prog_7_method_10_code
def yX5_advance : MethodName := ⟨RX5, "advance", "()V"⟩
abbrev cX5_sortAt : ByteArray := prog_7_method_11_code
def yX5_sortAt : MethodName := ⟨RX5, "sortAt", "(I)I"⟩
def RX6 : String := "PaperHears$Rows"
def TX6 : u_T := fun k => match k with
  | 0 => ("PaperHears$Rows", "limit", "I", true)
  | 1 => ("PaperHears$Rows", "width", "I", true)
  | 2 => ("PaperHears$Rows", "cells", "[I", true)
  | _ => ("PaperHears$Rows", "size", "I", false)
def tyX6 : Nat → FieldType := fun k => match k with
  | 0 => .int
  | 1 => .int
  | 2 => .array .int
  | _ => .int
theorem nmX6 : ∀ a, a < 4 → ∀ b, b < 4 → a ≠ b → (TX6 a).2.1 ≠ (TX6 b).2.1 := by decide +kernel
theorem tyX6_ok : ∀ k, k < 4 → parseFieldDescriptor (TX6 k).2.2.1 = some (tyX6 k) := by decide +kernel
abbrev cX6_init : ByteArray := prog_8_method_1_code
def yX6_init : MethodName := ⟨RX6, "<init>", "(II)V"⟩
abbrev cX6_isFull : ByteArray := prog_8_method_2_code
def yX6_isFull : MethodName := ⟨RX6, "isFull", "()Z"⟩
abbrev cX6_get : ByteArray := prog_8_method_3_code
def yX6_get : MethodName := ⟨RX6, "get", "(II)I"⟩
abbrev cX6_set : ByteArray := prog_8_method_4_code
def yX6_set : MethodName := ⟨RX6, "set", "(III)V"⟩
abbrev cX6_add : ByteArray := prog_8_method_5_code
def yX6_add : MethodName := ⟨RX6, "add", "(IIII)I"⟩
abbrev cX6_empty : ByteArray := prog_8_method_6_code
def yX6_empty : MethodName := ⟨RX6, "empty", "()I"⟩
abbrev cX6_dropFirst : ByteArray := prog_8_method_7_code
def yX6_dropFirst : MethodName := ⟨RX6, "dropFirst", "()V"⟩
abbrev cX6_copy : ByteArray := prog_8_method_8_code
def yX6_copy : MethodName := ⟨RX6, "copy", "(LPaperHears$Rows;)V"⟩
abbrev cX6_mixedInto : ByteArray := prog_8_method_9_code
def yX6_mixedInto : MethodName := ⟨RX6, "mixedInto", "(J)J"⟩
def RX7 : String := "PaperHears"
def TX7 : u_T := fun k => match k with
  | 0 => ("PaperHears", "now", "LPaperHears$House;", true)
  | 1 => ("PaperHears", "draft", "LPaperHears$House;", true)
  | 2 => ("PaperHears", "firstImage", "LPaperHears$House;", true)
  | 3 => ("PaperHears", "secondImage", "LPaperHears$House;", true)
  | 4 => ("PaperHears", "firstKept", "Z", false)
  | 5 => ("PaperHears", "secondKept", "Z", false)
  | 6 => ("PaperHears", "reader", "LPaperHears$Reader;", true)
  | 7 => ("PaperHears", "plans", "LPaperHears$Plans;", true)
  | 8 => ("PaperHears", "fraction", "LPaperHears$Fraction;", true)
  | 9 => ("PaperHears", "badCalls", "I", false)
  | 10 => ("PaperHears", "noCalls", "I", false)
  | _ => ("PaperHears", "fullCalls", "I", false)
def tyX7 : Nat → FieldType := fun k => match k with
  | 0 => .object "PaperHears$House"
  | 1 => .object "PaperHears$House"
  | 2 => .object "PaperHears$House"
  | 3 => .object "PaperHears$House"
  | 4 => .boolean
  | 5 => .boolean
  | 6 => .object "PaperHears$Reader"
  | 7 => .object "PaperHears$Plans"
  | 8 => .object "PaperHears$Fraction"
  | 9 => .int
  | 10 => .int
  | _ => .int
theorem nmX7 : ∀ a, a < 12 → ∀ b, b < 12 → a ≠ b → (TX7 a).2.1 ≠ (TX7 b).2.1 := by decide +kernel
theorem tyX7_ok : ∀ k, k < 12 → parseFieldDescriptor (TX7 k).2.2.1 = some (tyX7 k) := by decide +kernel
abbrev cX7_init : ByteArray := prog_1_method_1_code
def yX7_init : MethodName := ⟨RX7, "<init>", "()V"⟩
abbrev cX7_house : ByteArray := prog_1_method_2_code
def yX7_house : MethodName := ⟨RX7, "house", "()I"⟩
abbrev cX7_say : ByteArray := prog_1_method_3_code
def yX7_say : MethodName := ⟨RX7, "say", "(III)I"⟩
abbrev cX7_ear : ByteArray := prog_1_method_4_code
def yX7_ear : MethodName := ⟨RX7, "ear", "(I)I"⟩
abbrev cX7_type : ByteArray := prog_1_method_5_code
def yX7_type : MethodName := ⟨RX7, "type", "(I)I"⟩
abbrev cX7_clear : ByteArray := prog_1_method_6_code
def yX7_clear : MethodName := ⟨RX7, "clear", "()I"⟩
abbrev cX7_read : ByteArray := prog_1_method_7_code
def yX7_read : MethodName := ⟨RX7, "read", "()I"⟩
abbrev cX7_strips : ByteArray := prog_1_method_8_code
def yX7_strips : MethodName := ⟨RX7, "strips", "(I)I"⟩
abbrev cX7_papers : ByteArray := prog_1_method_9_code
def yX7_papers : MethodName := ⟨RX7, "papers", "(I)I"⟩
abbrev cX7_goes : ByteArray := prog_1_method_10_code
def yX7_goes : MethodName := ⟨RX7, "goes", "(II)I"⟩
abbrev cX7_minutes : ByteArray := prog_1_method_11_code
def yX7_minutes : MethodName := ⟨RX7, "minutes", "(I)I"⟩
abbrev cX7_undo : ByteArray := prog_1_method_12_code
def yX7_undo : MethodName := ⟨RX7, "undo", "()I"⟩
abbrev cX7_of : ByteArray := prog_1_method_13_code
def yX7_of : MethodName := ⟨RX7, "of", "(II)I"⟩
abbrev cX7_about : ByteArray := prog_1_method_14_code
def yX7_about : MethodName := ⟨RX7, "about", "(II)I"⟩
abbrev cX7_room : ByteArray := prog_1_method_15_code
def yX7_room : MethodName := ⟨RX7, "room", "(II)I"⟩
abbrev cX7_loud : ByteArray := prog_1_method_16_code
def yX7_loud : MethodName := ⟨RX7, "loud", "(II)I"⟩
abbrev cX7_first : ByteArray := prog_1_method_17_code
def yX7_first : MethodName := ⟨RX7, "first", "(II)I"⟩
abbrev cX7_stay : ByteArray := prog_1_method_18_code
def yX7_stay : MethodName := ⟨RX7, "stay", "(IIII)I"⟩
abbrev cX7_stand : ByteArray := prog_1_method_19_code
def yX7_stand : MethodName := ⟨RX7, "stand", "(II)I"⟩
abbrev cX7_told : ByteArray := prog_1_method_20_code
def yX7_told : MethodName := ⟨RX7, "told", "(III)I"⟩
abbrev cX7_said : ByteArray := prog_1_method_21_code
def yX7_said : MethodName := ⟨RX7, "said", "(II)I"⟩
abbrev cX7_note : ByteArray := prog_1_method_22_code
def yX7_note : MethodName := ⟨RX7, "note", "(IIII)I"⟩
abbrev cX7_mark : ByteArray := prog_1_method_23_code
def yX7_mark : MethodName := ⟨RX7, "mark", "(IIII)I"⟩
abbrev cX7_forget : ByteArray := prog_1_method_24_code
def yX7_forget : MethodName := ⟨RX7, "forget", "(I)I"⟩
abbrev cX7_is : ByteArray := prog_1_method_25_code
def yX7_is : MethodName := ⟨RX7, "is", "(I)I"⟩
abbrev cX7_look : ByteArray := prog_1_method_26_code
def yX7_look : MethodName := ⟨RX7, "look", "(I)I"⟩
abbrev cX7_kinds : ByteArray := prog_1_method_27_code
def yX7_kinds : MethodName := ⟨RX7, "kinds", "(I)I"⟩
abbrev cX7_ask : ByteArray := prog_1_method_28_code
def yX7_ask : MethodName := ⟨RX7, "ask", "(I)I"⟩
abbrev cX7_brothers : ByteArray := prog_1_method_29_code
def yX7_brothers : MethodName := ⟨RX7, "brothers", "(I)I"⟩
abbrev cX7_holds : ByteArray := prog_1_method_30_code
def yX7_holds : MethodName := ⟨RX7, "holds", "(III)I"⟩
abbrev cX7_jobs : ByteArray := prog_1_method_31_code
def yX7_jobs : MethodName := ⟨RX7, "jobs", "(II)I"⟩
abbrev cX7_part : ByteArray := prog_1_method_32_code
def yX7_part : MethodName := ⟨RX7, "part", "(I)J"⟩
abbrev cX7_image : ByteArray := prog_1_method_33_code
def yX7_image : MethodName := ⟨RX7, "image", "(I)I"⟩
abbrev cX7_from : ByteArray := prog_1_method_34_code
def yX7_from : MethodName := ⟨RX7, "from", "(I)I"⟩
abbrev cX7_status : ByteArray := prog_1_method_35_code
def yX7_status : MethodName := ⟨RX7, "status", "(I)I"⟩
abbrev cX7_count : ByteArray := prog_1_method_36_code
def yX7_count : MethodName := ⟨RX7, "count", "(I)I"⟩
abbrev cX7_digest : ByteArray := prog_1_method_37_code
def yX7_digest : MethodName := ⟨RX7, "digest", "()J"⟩
abbrev cX7_howMany : ByteArray := prog_1_method_38_code
def yX7_howMany : MethodName := ⟨RX7, "howMany", "(I)I"⟩
abbrev cX7_refuseBad : ByteArray := prog_1_method_39_code
def yX7_refuseBad : MethodName := ⟨RX7, "refuseBad", "()I"⟩
abbrev cX7_refuseNo : ByteArray := prog_1_method_40_code
def yX7_refuseNo : MethodName := ⟨RX7, "refuseNo", "()I"⟩
abbrev cX7_refuseFull : ByteArray := prog_1_method_41_code
def yX7_refuseFull : MethodName := ⟨RX7, "refuseFull", "()I"⟩
abbrev cX7_isSaying : ByteArray := prog_1_method_42_code
def yX7_isSaying : MethodName := ⟨RX7, "isSaying", "(I)Z"⟩
abbrev cX7_isListener : ByteArray := prog_1_method_43_code
def yX7_isListener : MethodName := ⟨RX7, "isListener", "(I)Z"⟩
abbrev cX7_areBrothers : ByteArray := prog_1_method_44_code
def yX7_areBrothers : MethodName := ⟨RX7, "areBrothers", "()Z"⟩
abbrev cX7_isSet : ByteArray := prog_1_method_45_code
def yX7_isSet : MethodName := ⟨RX7, "isSet", "(I)Z"⟩
abbrev cX7_isKind : ByteArray := prog_1_method_46_code
def yX7_isKind : MethodName := ⟨RX7, "isKind", "(I)Z"⟩
abbrev cX7_isRoom : ByteArray := prog_1_method_47_code
def yX7_isRoom : MethodName := ⟨RX7, "isRoom", "(I)Z"⟩
abbrev cX7_isSpeakingMinute : ByteArray := prog_1_method_48_code
def yX7_isSpeakingMinute : MethodName := ⟨RX7, "isSpeakingMinute", "(I)Z"⟩
abbrev cX7_isIn : ByteArray := prog_1_method_49_code
def yX7_isIn : MethodName := ⟨RX7, "isIn", "(II)Z"⟩
abbrev cX7_within : ByteArray := prog_1_method_50_code
def yX7_within : MethodName := ⟨RX7, "within", "(III)Z"⟩
def RX8 : String := "PaperHearsModel"
def TX8 : u_T := fun k => match k with
  | 0 => ("PaperHearsModel", "refused", "[I", true)
  | 1 => ("PaperHearsModel", "sayings", "I", false)
  | 2 => ("PaperHearsModel", "kind", "[I", true)
  | 3 => ("PaperHearsModel", "spot", "[I", true)
  | 4 => ("PaperHearsModel", "force", "[I", true)
  | 5 => ("PaperHearsModel", "ears", "I", false)
  | 6 => ("PaperHearsModel", "sort", "[I", true)
  | 7 => ("PaperHearsModel", "now", "[I", true)
  | 8 => ("PaperHearsModel", "text", "[I", true)
  | 9 => ("PaperHearsModel", "typed", "I", false)
  | 10 => ("PaperHearsModel", "place", "I", false)
  | 11 => ("PaperHearsModel", "wrong", "I", false)
  | 12 => ("PaperHearsModel", "items", "[I", true)
  | 13 => ("PaperHearsModel", "undone", "[I", true)
  | 14 => ("PaperHearsModel", "undos", "I", false)
  | 15 => ("PaperHearsModel", "told", "[I", true)
  | 16 => ("PaperHearsModel", "tolds", "I", false)
  | 17 => ("PaperHearsModel", "noted", "[I", true)
  | 18 => ("PaperHearsModel", "notes", "I", false)
  | 19 => ("PaperHearsModel", "marked", "[I", true)
  | 20 => ("PaperHearsModel", "marks", "I", false)
  | 21 => ("PaperHearsModel", "hears", "[I", true)
  | 22 => ("PaperHearsModel", "over", "J", false)
  | 23 => ("PaperHearsModel", "under", "J", false)
  | 24 => ("PaperHearsModel", "aside", "[I", true)
  | 25 => ("PaperHearsModel", "kept", "[I", true)
  | _ => ("PaperHearsModel", "isKept", "[Z", true)
def tyX8 : Nat → FieldType := fun k => match k with
  | 0 => .array .int
  | 1 => .int
  | 2 => .array .int
  | 3 => .array .int
  | 4 => .array .int
  | 5 => .int
  | 6 => .array .int
  | 7 => .array .int
  | 8 => .array .int
  | 9 => .int
  | 10 => .int
  | 11 => .int
  | 12 => .array .int
  | 13 => .array .int
  | 14 => .int
  | 15 => .array .int
  | 16 => .int
  | 17 => .array .int
  | 18 => .int
  | 19 => .array .int
  | 20 => .int
  | 21 => .array .int
  | 22 => .long
  | 23 => .long
  | 24 => .array .int
  | 25 => .array .int
  | _ => .array .boolean
theorem nmX8 : ∀ a, a < 27 → ∀ b, b < 27 → a ≠ b → (TX8 a).2.1 ≠ (TX8 b).2.1 := by decide +kernel
theorem tyX8_ok : ∀ k, k < 27 → parseFieldDescriptor (TX8 k).2.2.1 = some (tyX8 k) := by decide +kernel
abbrev cX8_in : ByteArray := prog_10_method_2_code
def yX8_in : MethodName := ⟨RX8, "in", "(JJJ)Z"⟩
abbrev cX8_init : ByteArray := prog_10_method_3_code
def yX8_init : MethodName := ⟨RX8, "<init>", "()V"⟩
abbrev cX8_bad : ByteArray := prog_10_method_4_code
def yX8_bad : MethodName := ⟨RX8, "bad", "()I"⟩
abbrev cX8_no : ByteArray := prog_10_method_5_code
def yX8_no : MethodName := ⟨RX8, "no", "()I"⟩
abbrev cX8_full : ByteArray := prog_10_method_6_code
def yX8_full : MethodName := ⟨RX8, "full", "()I"⟩
abbrev cX8_status : ByteArray := prog_10_method_7_code
def yX8_status : MethodName := ⟨RX8, "status", "(I)I"⟩
abbrev cX8_isSaying : ByteArray := prog_10_method_8_code
def yX8_isSaying : MethodName := ⟨RX8, "isSaying", "(I)Z"⟩
abbrev cX8_isEar : ByteArray := prog_10_method_9_code
def yX8_isEar : MethodName := ⟨RX8, "isEar", "(I)Z"⟩
abbrev cX8_isRoom : ByteArray := prog_10_method_10_code
def yX8_isRoom : MethodName := ⟨RX8, "isRoom", "(I)Z"⟩
abbrev cX8_empties : ByteArray := prog_10_method_11_code
def yX8_empties : MethodName := ⟨RX8, "empties", "()V"⟩
abbrev cX8_house : ByteArray := prog_10_method_12_code
def yX8_house : MethodName := ⟨RX8, "house", "()I"⟩
abbrev cX8_sayingComes : ByteArray := prog_10_method_13_code
def yX8_sayingComes : MethodName := ⟨RX8, "sayingComes", "(III)V"⟩
abbrev cX8_earComes : ByteArray := prog_10_method_14_code
def yX8_earComes : MethodName := ⟨RX8, "earComes", "(II)V"⟩
abbrev cX8_say : ByteArray := prog_10_method_15_code
def yX8_say : MethodName := ⟨RX8, "say", "(III)I"⟩
abbrev cX8_ear : ByteArray := prog_10_method_16_code
def yX8_ear : MethodName := ⟨RX8, "ear", "(I)I"⟩
abbrev cX8_loudBy : ByteArray := prog_10_method_17_code
def yX8_loudBy : MethodName := ⟨RX8, "loudBy", "(III)I"⟩
abbrev cX8_youngBy : ByteArray := prog_10_method_18_code
def yX8_youngBy : MethodName := ⟨RX8, "youngBy", "(II)I"⟩
abbrev cX8_hearsBy : ByteArray := prog_10_method_19_code
def yX8_hearsBy : MethodName := ⟨RX8, "hearsBy", "(III)Z"⟩
abbrev cX8_minuteOf : ByteArray := prog_10_method_20_code
def yX8_minuteOf : MethodName := ⟨RX8, "minuteOf", "(I)I"⟩
abbrev cX8_loudIn : ByteArray := prog_10_method_21_code
def yX8_loudIn : MethodName := ⟨RX8, "loudIn", "(II)I"⟩
abbrev cX8_together : ByteArray := prog_10_method_22_code
def yX8_together : MethodName := ⟨RX8, "together", "(III)I"⟩
abbrev cX8_heardOf : ByteArray := prog_10_method_23_code
def yX8_heardOf : MethodName := ⟨RX8, "heardOf", "(IIII)I"⟩
abbrev cX8_heardIn : ByteArray := prog_10_method_24_code
def yX8_heardIn : MethodName := ⟨RX8, "heardIn", "(III)I"⟩
abbrev cX8_heardNow : ByteArray := prog_10_method_25_code
def yX8_heardNow : MethodName := ⟨RX8, "heardNow", "(I)I"⟩
abbrev cX8_many : ByteArray := prog_10_method_26_code
def yX8_many : MethodName := ⟨RX8, "many", "(I)I"⟩
abbrev cX8_knownByAll : ByteArray := prog_10_method_27_code
def yX8_knownByAll : MethodName := ⟨RX8, "knownByAll", "()I"⟩
abbrev cX8_goesBy : ByteArray := prog_10_method_28_code
def yX8_goesBy : MethodName := ⟨RX8, "goesBy", "()V"⟩
abbrev cX8_goMinutes : ByteArray := prog_10_method_29_code
def yX8_goMinutes : MethodName := ⟨RX8, "goMinutes", "(I)V"⟩
abbrev cX8_type : ByteArray := prog_10_method_30_code
def yX8_type : MethodName := ⟨RX8, "type", "(I)I"⟩
abbrev cX8_clear : ByteArray := prog_10_method_31_code
def yX8_clear : MethodName := ⟨RX8, "clear", "()I"⟩
abbrev cX8_byteAt : ByteArray := prog_10_method_32_code
def yX8_byteAt : MethodName := ⟨RX8, "byteAt", "(I)I"⟩
abbrev cX8_skips : ByteArray := prog_10_method_33_code
def yX8_skips : MethodName := ⟨RX8, "skips", "()V"⟩
abbrev cX8_faults : ByteArray := prog_10_method_34_code
def yX8_faults : MethodName := ⟨RX8, "faults", "(I)V"⟩
abbrev cX8_isLetter : ByteArray := prog_10_method_35_code
def yX8_isLetter : MethodName := ⟨RX8, "isLetter", "(I)Z"⟩
abbrev cX8_isFigure : ByteArray := prog_10_method_36_code
def yX8_isFigure : MethodName := ⟨RX8, "isFigure", "(I)Z"⟩
abbrev cX8_word : ByteArray := prog_10_method_37_code
def yX8_word : MethodName := ⟨RX8, "word", "()J"⟩
abbrev cX8_letters : ByteArray := prog_10_method_38_code
def yX8_letters : MethodName := ⟨RX8, "letters", "(IIIII)J"⟩
abbrev cX8_itemBy : ByteArray := prog_10_method_39_code
def yX8_itemBy : MethodName := ⟨RX8, "itemBy", "(J)I"⟩
abbrev cX8_number : ByteArray := prog_10_method_40_code
def yX8_number : MethodName := ⟨RX8, "number", "(II)I"⟩
abbrev cX8_ends : ByteArray := prog_10_method_41_code
def yX8_ends : MethodName := ⟨RX8, "ends", "()V"⟩
abbrev cX8_readItem : ByteArray := prog_10_method_42_code
def yX8_readItem : MethodName := ⟨RX8, "readItem", "(II)V"⟩
abbrev cX8_readAll : ByteArray := prog_10_method_43_code
def yX8_readAll : MethodName := ⟨RX8, "readAll", "()I"⟩
abbrev cX8_becomes : ByteArray := prog_10_method_44_code
def yX8_becomes : MethodName := ⟨RX8, "becomes", "(I)V"⟩
abbrev cX8_read : ByteArray := prog_10_method_45_code
def yX8_read : MethodName := ⟨RX8, "read", "()I"⟩
abbrev cX8_keeps : ByteArray := prog_10_method_46_code
def yX8_keeps : MethodName := ⟨RX8, "keeps", "()V"⟩
abbrev cX8_loudNow : ByteArray := prog_10_method_47_code
def yX8_loudNow : MethodName := ⟨RX8, "loudNow", "(I)I"⟩
abbrev cX8_strips : ByteArray := prog_10_method_48_code
def yX8_strips : MethodName := ⟨RX8, "strips", "(I)I"⟩
abbrev cX8_papers : ByteArray := prog_10_method_49_code
def yX8_papers : MethodName := ⟨RX8, "papers", "(I)I"⟩
abbrev cX8_goes : ByteArray := prog_10_method_50_code
def yX8_goes : MethodName := ⟨RX8, "goes", "(II)I"⟩
abbrev cX8_minutes : ByteArray := prog_10_method_51_code
def yX8_minutes : MethodName := ⟨RX8, "minutes", "(I)I"⟩
abbrev cX8_undo : ByteArray := prog_10_method_52_code
def yX8_undo : MethodName := ⟨RX8, "undo", "()I"⟩
abbrev cX8_of : ByteArray := prog_10_method_53_code
def yX8_of : MethodName := ⟨RX8, "of", "(II)I"⟩
abbrev cX8_about : ByteArray := prog_10_method_54_code
def yX8_about : MethodName := ⟨RX8, "about", "(II)I"⟩
abbrev cX8_room : ByteArray := prog_10_method_55_code
def yX8_room : MethodName := ⟨RX8, "room", "(II)I"⟩
abbrev cX8_loud : ByteArray := prog_10_method_56_code
def yX8_loud : MethodName := ⟨RX8, "loud", "(II)I"⟩
abbrev cX8_first : ByteArray := prog_10_method_57_code
def yX8_first : MethodName := ⟨RX8, "first", "(II)I"⟩
abbrev cX8_stays : ByteArray := prog_10_method_58_code
def yX8_stays : MethodName := ⟨RX8, "stays", "(IIII)I"⟩
abbrev cX8_stay : ByteArray := prog_10_method_59_code
def yX8_stay : MethodName := ⟨RX8, "stay", "(IIII)I"⟩
abbrev cX8_heardBehind : ByteArray := prog_10_method_60_code
def yX8_heardBehind : MethodName := ⟨RX8, "heardBehind", "(III)I"⟩
abbrev cX8_stand : ByteArray := prog_10_method_61_code
def yX8_stand : MethodName := ⟨RX8, "stand", "(II)I"⟩
abbrev cX8_told : ByteArray := prog_10_method_62_code
def yX8_told : MethodName := ⟨RX8, "told", "(III)I"⟩
abbrev cX8_isSo : ByteArray := prog_10_method_63_code
def yX8_isSo : MethodName := ⟨RX8, "isSo", "(II)Z"⟩
abbrev cX8_said : ByteArray := prog_10_method_64_code
def yX8_said : MethodName := ⟨RX8, "said", "(II)I"⟩
abbrev cX8_add : ByteArray := prog_10_method_65_code
def yX8_add : MethodName := ⟨RX8, "add", "([IIIIII)I"⟩
abbrev cX8_note : ByteArray := prog_10_method_66_code
def yX8_note : MethodName := ⟨RX8, "note", "(IIII)I"⟩
abbrev cX8_mark : ByteArray := prog_10_method_67_code
def yX8_mark : MethodName := ⟨RX8, "mark", "(IIII)I"⟩
abbrev cX8_forget : ByteArray := prog_10_method_68_code
def yX8_forget : MethodName := ⟨RX8, "forget", "(I)I"⟩
abbrev cX8_kindsOf : ByteArray := prog_10_method_69_code
def yX8_kindsOf : MethodName := ⟨RX8, "kindsOf", "(I)I"⟩
abbrev cX8_is : ByteArray := prog_10_method_70_code
def yX8_is : MethodName := ⟨RX8, "is", "(I)I"⟩
abbrev cX8_look : ByteArray := prog_10_method_71_code
def yX8_look : MethodName := ⟨RX8, "look", "(I)I"⟩
abbrev cX8_sortsOf : ByteArray := prog_10_method_72_code
def yX8_sortsOf : MethodName := ⟨RX8, "sortsOf", "(I)I"⟩
abbrev cX8_kinds : ByteArray := prog_10_method_73_code
def yX8_kinds : MethodName := ⟨RX8, "kinds", "(I)I"⟩
abbrev cX8_ask : ByteArray := prog_10_method_74_code
def yX8_ask : MethodName := ⟨RX8, "ask", "(I)I"⟩
abbrev cX8_gain : ByteArray := prog_10_method_75_code
def yX8_gain : MethodName := ⟨RX8, "gain", "(III)I"⟩
abbrev cX8_rests : ByteArray := prog_10_method_76_code
def yX8_rests : MethodName := ⟨RX8, "rests", "(II)Z"⟩
abbrev cX8_brothers : ByteArray := prog_10_method_77_code
def yX8_brothers : MethodName := ⟨RX8, "brothers", "(I)I"⟩
abbrev cX8_holds : ByteArray := prog_10_method_78_code
def yX8_holds : MethodName := ⟨RX8, "holds", "(III)I"⟩
abbrev cX8_jobs : ByteArray := prog_10_method_79_code
def yX8_jobs : MethodName := ⟨RX8, "jobs", "(II)I"⟩
abbrev cX8_part : ByteArray := prog_10_method_80_code
def yX8_part : MethodName := ⟨RX8, "part", "(I)J"⟩
abbrev cX8_moves : ByteArray := prog_10_method_81_code
def yX8_moves : MethodName := ⟨RX8, "moves", "(ZII)I"⟩
abbrev cX8_moveRow : ByteArray := prog_10_method_82_code
def yX8_moveRow : MethodName := ⟨RX8, "moveRow", "(ZI[II)V"⟩
abbrev cX8_moveAll : ByteArray := prog_10_method_83_code
def yX8_moveAll : MethodName := ⟨RX8, "moveAll", "(ZI)V"⟩
abbrev cX8_image : ByteArray := prog_10_method_84_code
def yX8_image : MethodName := ⟨RX8, "image", "(I)I"⟩
abbrev cX8_from : ByteArray := prog_10_method_85_code
def yX8_from : MethodName := ⟨RX8, "from", "(I)I"⟩
abbrev cX8_stripped : ByteArray := prog_10_method_86_code
def yX8_stripped : MethodName := ⟨RX8, "stripped", "()I"⟩
abbrev cX8_counted : ByteArray := prog_10_method_87_code
def yX8_counted : MethodName := ⟨RX8, "counted", "(I)I"⟩
abbrev cX8_count : ByteArray := prog_10_method_88_code
def yX8_count : MethodName := ⟨RX8, "count", "(I)I"⟩
abbrev cX8_adds : ByteArray := prog_10_method_89_code
def yX8_adds : MethodName := ⟨RX8, "adds", "(J[II)J"⟩
abbrev cX8_digest : ByteArray := prog_10_method_90_code
def yX8_digest : MethodName := ⟨RX8, "digest", "()J"⟩
def RJ6 : String := "java/lang/Integer"
def TJ6 : u_T := fun k => match k with
  | _ => ("", "", "", false)
def tyJ6 : Nat → FieldType := fun k => match k with
  | _ => .int
theorem nmJ6 : ∀ a, a < 0 → ∀ b, b < 0 → a ≠ b → (TJ6 a).2.1 ≠ (TJ6 b).2.1 := by decide +kernel
theorem tyJ6_ok : ∀ k, k < 0 → parseFieldDescriptor (TJ6 k).2.2.1 = some (tyJ6 k) := by decide +kernel
abbrev cJ6_bitCount_0f7a4 : ByteArray := prog_11_method_49_code
def yJ6_bitCount_0f7a4 : MethodName := ⟨RJ6, "bitCount", "(I)I"⟩
def RJ9 : String := "java/lang/Math"
def TJ9 : u_T := fun k => match k with
  | _ => ("", "", "", false)
def tyJ9 : Nat → FieldType := fun k => match k with
  | _ => .int
theorem nmJ9 : ∀ a, a < 0 → ∀ b, b < 0 → a ≠ b → (TJ9 a).2.1 ≠ (TJ9 b).2.1 := by decide +kernel
theorem tyJ9_ok : ∀ k, k < 0 → parseFieldDescriptor (TJ9 k).2.2.1 = some (tyJ9 k) := by decide +kernel
abbrev cJ9_max_7cf53 : ByteArray := prog_12_method_65_code
def yJ9_max_7cf53 : MethodName := ⟨RJ9, "max", "(II)I"⟩
abbrev cJ9_min_7cf53 : ByteArray := prog_12_method_69_code
def yJ9_min_7cf53 : MethodName := ⟨RJ9, "min", "(II)I"⟩
def RJ0 : String := "java/lang/String"
def TJ0 : u_T := fun k => match k with
  | _ => ("", "", "", false)
def tyJ0 : Nat → FieldType := fun k => match k with
  | _ => .int
theorem nmJ0 : ∀ a, a < 0 → ∀ b, b < 0 → a ≠ b → (TJ0 a).2.1 ≠ (TJ0 b).2.1 := by decide +kernel
theorem tyJ0_ok : ∀ k, k < 0 → parseFieldDescriptor (TJ0 k).2.2.1 = some (tyJ0 k) := by decide +kernel
abbrev cJ0_length_8abf5 : ByteArray := prog_13_method_54_code
def yJ0_length_8abf5 : MethodName := ⟨RJ0, "length", "()I"⟩
abbrev cJ0_charAt_5068e : ByteArray := prog_13_method_56_code
def yJ0_charAt_5068e : MethodName := ⟨RJ0, "charAt", "(I)C"⟩
abbrev cJ0_coder_7d493 : ByteArray := prog_13_method_152_code
def yJ0_coder_7d493 : MethodName := ⟨RJ0, "coder", "()B"⟩
abbrev cJ0_isLatin1_aae02 : ByteArray := prog_13_method_154_code
def yJ0_isLatin1_aae02 : MethodName := ⟨RJ0, "isLatin1", "()Z"⟩
abbrev cJ0_checkIndex_df160 : ByteArray := prog_13_method_155_code
def yJ0_checkIndex_df160 : MethodName := ⟨RJ0, "checkIndex", "(II)V"⟩
def RJ1 : String := "java/lang/StringLatin1"
def TJ1 : u_T := fun k => match k with
  | _ => ("", "", "", false)
def tyJ1 : Nat → FieldType := fun k => match k with
  | _ => .int
theorem nmJ1 : ∀ a, a < 0 → ∀ b, b < 0 → a ≠ b → (TJ1 a).2.1 ≠ (TJ1 b).2.1 := by decide +kernel
theorem tyJ1_ok : ∀ k, k < 0 → parseFieldDescriptor (TJ1 k).2.2.1 = some (tyJ1 k) := by decide +kernel
abbrev cJ1_charAt_3b067 : ByteArray := prog_14_method_2_code
def yJ1_charAt_3b067 : MethodName := ⟨RJ1, "charAt", "([BI)C"⟩
def RJ2 : String := "java/lang/StringUTF16"
def TJ2 : u_T := fun k => match k with
  | _ => ("", "", "", false)
def tyJ2 : Nat → FieldType := fun k => match k with
  | _ => .int
theorem nmJ2 : ∀ a, a < 0 → ∀ b, b < 0 → a ≠ b → (TJ2 a).2.1 ≠ (TJ2 b).2.1 := by decide +kernel
theorem tyJ2_ok : ∀ k, k < 0 → parseFieldDescriptor (TJ2 k).2.2.1 = some (tyJ2 k) := by decide +kernel
abbrev cJ2_getChar_3b067 : ByteArray := prog_15_method_5_code
def yJ2_getChar_3b067 : MethodName := ⟨RJ2, "getChar", "([BI)C"⟩
abbrev cJ2_length_9d52b : ByteArray := prog_15_method_6_code
def yJ2_length_9d52b : MethodName := ⟨RJ2, "length", "([B)I"⟩
abbrev cJ2_charAt_3b067 : ByteArray := prog_15_method_83_code
def yJ2_charAt_3b067 : MethodName := ⟨RJ2, "charAt", "([BI)C"⟩
abbrev cJ2_checkIndex_2214a : ByteArray := prog_15_method_91_code
def yJ2_checkIndex_2214a : MethodName := ⟨RJ2, "checkIndex", "(I[B)V"⟩
def RJ3 : String := "jdk/internal/util/Preconditions"
def TJ3 : u_T := fun k => match k with
  | _ => ("", "", "", false)
def tyJ3 : Nat → FieldType := fun k => match k with
  | _ => .int
theorem nmJ3 : ∀ a, a < 0 → ∀ b, b < 0 → a ≠ b → (TJ3 a).2.1 ≠ (TJ3 b).2.1 := by decide +kernel
theorem tyJ3_ok : ∀ k, k < 0 → parseFieldDescriptor (TJ3 k).2.2.1 = some (tyJ3 k) := by decide +kernel
abbrev cJ3_checkIndex_8e157 : ByteArray := prog_16_method_11_code
def yJ3_checkIndex_8e157 : MethodName := ⟨RJ3, "checkIndex", "(IILjava/util/function/BiFunction;)I"⟩
def RL : String := "PaperHearsLaw"
abbrev cL_law : ByteArray := code
def yL_law : MethodName := ⟨RL, "law", "([I)Z"⟩
theorem dX0_setsSaid_0 : decode cX0_setsSaid 0 = .ok (.aload_n 0, 1) := by decide +kernel
theorem dX0_setsSaid_1 : decode cX0_setsSaid 1 = .ok (.iload_n 1, 1) := by decide +kernel
theorem dX0_setsSaid_2 : decode cX0_setsSaid 2 = .ok (.invokevirtual 9, 3) := by decide +kernel
theorem dX0_setsSaid_5 : decode cX0_setsSaid 5 = .ok (.istore_n 3, 1) := by decide +kernel
theorem dX0_setsSaid_6 : decode cX0_setsSaid 6 = .ok (.iconst 0, 1) := by decide +kernel
theorem dX0_setsSaid_7 : decode cX0_setsSaid 7 = .ok (.istore 4, 2) := by decide +kernel
theorem dX0_setsSaid_9 : decode cX0_setsSaid 9 = .ok (.iload_n 3, 1) := by decide +kernel
theorem dX0_setsSaid_10 : decode cX0_setsSaid 10 = .ok (.istore 5, 2) := by decide +kernel
theorem dX0_setsSaid_12 : decode cX0_setsSaid 12 = .ok (.iconst 0, 1) := by decide +kernel
theorem dX0_setsSaid_13 : decode cX0_setsSaid 13 = .ok (.istore 6, 2) := by decide +kernel
theorem dX0_setsSaid_15 : decode cX0_setsSaid 15 = .ok (.iconst 0, 1) := by decide +kernel
theorem dX0_setsSaid_16 : decode cX0_setsSaid 16 = .ok (.istore 7, 2) := by decide +kernel
theorem dX0_setsSaid_18 : decode cX0_setsSaid 18 = .ok (.iload 7, 2) := by decide +kernel
theorem dX0_setsSaid_20 : decode cX0_setsSaid 20 = .ok (.sipush 256, 3) := by decide +kernel
theorem dX0_setsSaid_23 : decode cX0_setsSaid 23 = .ok (.if_icmp .ge 45, 3) := by decide +kernel
theorem dX0_setsSaid_26 : decode cX0_setsSaid 26 = .ok (.iload 7, 2) := by decide +kernel
theorem dX0_setsSaid_28 : decode cX0_setsSaid 28 = .ok (.iload_n 3, 1) := by decide +kernel
theorem dX0_setsSaid_29 : decode cX0_setsSaid 29 = .ok (.iand, 1) := by decide +kernel
theorem dX0_setsSaid_30 : decode cX0_setsSaid 30 = .ok (.iload 7, 2) := by decide +kernel
theorem dX0_setsSaid_32 : decode cX0_setsSaid 32 = .ok (.if_icmp .ne 30, 3) := by decide +kernel
theorem dX0_setsSaid_35 : decode cX0_setsSaid 35 = .ok (.aload_n 0, 1) := by decide +kernel
theorem dX0_setsSaid_36 : decode cX0_setsSaid 36 = .ok (.iload_n 1, 1) := by decide +kernel
theorem dX0_setsSaid_37 : decode cX0_setsSaid 37 = .ok (.iload 7, 2) := by decide +kernel
theorem dX0_setsSaid_39 : decode cX0_setsSaid 39 = .ok (.invokestatic 15, 3) := by decide +kernel
theorem dX0_setsSaid_42 : decode cX0_setsSaid 42 = .ok (.ifCond .eq 20, 3) := by decide +kernel
theorem dX0_setsSaid_45 : decode cX0_setsSaid 45 = .ok (.iinc 4 1, 3) := by decide +kernel
theorem dX0_setsSaid_48 : decode cX0_setsSaid 48 = .ok (.iload 5, 2) := by decide +kernel
theorem dX0_setsSaid_50 : decode cX0_setsSaid 50 = .ok (.iload 7, 2) := by decide +kernel
theorem dX0_setsSaid_52 : decode cX0_setsSaid 52 = .ok (.iand, 1) := by decide +kernel
theorem dX0_setsSaid_53 : decode cX0_setsSaid 53 = .ok (.istore 5, 2) := by decide +kernel
theorem dX0_setsSaid_55 : decode cX0_setsSaid 55 = .ok (.iload 6, 2) := by decide +kernel
theorem dX0_setsSaid_57 : decode cX0_setsSaid 57 = .ok (.iload 7, 2) := by decide +kernel
theorem dX0_setsSaid_59 : decode cX0_setsSaid 59 = .ok (.ior, 1) := by decide +kernel
theorem dX0_setsSaid_60 : decode cX0_setsSaid 60 = .ok (.istore 6, 2) := by decide +kernel
theorem dX0_setsSaid_62 : decode cX0_setsSaid 62 = .ok (.iinc 7 1, 3) := by decide +kernel
theorem dX0_setsSaid_65 : decode cX0_setsSaid 65 = .ok (.goto (-47), 3) := by decide +kernel
theorem dX0_setsSaid_68 : decode cX0_setsSaid 68 = .ok (.iload_n 2, 1) := by decide +kernel
theorem dX0_setsSaid_69 : decode cX0_setsSaid 69 = .ok (.ifCond .ne 6, 3) := by decide +kernel
theorem dX0_setsSaid_72 : decode cX0_setsSaid 72 = .ok (.iload 4, 2) := by decide +kernel
theorem dX0_setsSaid_74 : decode cX0_setsSaid 74 = .ok (.ireturn, 1) := by decide +kernel
theorem dX0_setsSaid_75 : decode cX0_setsSaid 75 = .ok (.iload_n 2, 1) := by decide +kernel
theorem dX0_setsSaid_76 : decode cX0_setsSaid 76 = .ok (.iconst 1, 1) := by decide +kernel
theorem dX0_setsSaid_77 : decode cX0_setsSaid 77 = .ok (.if_icmp .ne 15, 3) := by decide +kernel
theorem dX0_setsSaid_80 : decode cX0_setsSaid 80 = .ok (.iload 4, 2) := by decide +kernel
theorem dX0_setsSaid_82 : decode cX0_setsSaid 82 = .ok (.ifCond .ne 7, 3) := by decide +kernel
theorem dX0_setsSaid_85 : decode cX0_setsSaid 85 = .ok (.iconst (-1), 1) := by decide +kernel
theorem dX0_setsSaid_86 : decode cX0_setsSaid 86 = .ok (.goto 5, 3) := by decide +kernel
theorem dX0_setsSaid_89 : decode cX0_setsSaid 89 = .ok (.iload 5, 2) := by decide +kernel
theorem dX0_setsSaid_91 : decode cX0_setsSaid 91 = .ok (.ireturn, 1) := by decide +kernel
theorem dX0_setsSaid_92 : decode cX0_setsSaid 92 = .ok (.iload 6, 2) := by decide +kernel
theorem dX0_setsSaid_94 : decode cX0_setsSaid 94 = .ok (.ireturn, 1) := by decide +kernel
theorem dX0_fitsTold_0 : decode cX0_fitsTold 0 = .ok (.iconst 0, 1) := by decide +kernel
theorem dX0_fitsTold_1 : decode cX0_fitsTold 1 = .ok (.istore_n 3, 1) := by decide +kernel
theorem dX0_fitsTold_2 : decode cX0_fitsTold 2 = .ok (.iload_n 3, 1) := by decide +kernel
theorem dX0_fitsTold_3 : decode cX0_fitsTold 3 = .ok (.aload_n 0, 1) := by decide +kernel
theorem dX0_fitsTold_4 : decode cX0_fitsTold 4 = .ok (.getfield 21, 3) := by decide +kernel
theorem dX0_fitsTold_7 : decode cX0_fitsTold 7 = .ok (.getfield 25, 3) := by decide +kernel
theorem dX0_fitsTold_10 : decode cX0_fitsTold 10 = .ok (.if_icmp .ge 62, 3) := by decide +kernel
theorem dX0_fitsTold_13 : decode cX0_fitsTold 13 = .ok (.aload_n 0, 1) := by decide +kernel
theorem dX0_fitsTold_14 : decode cX0_fitsTold 14 = .ok (.getfield 21, 3) := by decide +kernel
theorem dX0_fitsTold_17 : decode cX0_fitsTold 17 = .ok (.iload_n 3, 1) := by decide +kernel
theorem dX0_fitsTold_18 : decode cX0_fitsTold 18 = .ok (.iconst 0, 1) := by decide +kernel
theorem dX0_fitsTold_19 : decode cX0_fitsTold 19 = .ok (.invokevirtual 31, 3) := by decide +kernel
theorem dX0_fitsTold_22 : decode cX0_fitsTold 22 = .ok (.iload_n 1, 1) := by decide +kernel
theorem dX0_fitsTold_23 : decode cX0_fitsTold 23 = .ok (.if_icmp .ne 7, 3) := by decide +kernel
theorem dX0_fitsTold_26 : decode cX0_fitsTold 26 = .ok (.iconst 1, 1) := by decide +kernel
theorem dX0_fitsTold_27 : decode cX0_fitsTold 27 = .ok (.goto 4, 3) := by decide +kernel
theorem dX0_fitsTold_30 : decode cX0_fitsTold 30 = .ok (.iconst 0, 1) := by decide +kernel
theorem dX0_fitsTold_31 : decode cX0_fitsTold 31 = .ok (.istore 4, 2) := by decide +kernel
theorem dX0_fitsTold_33 : decode cX0_fitsTold 33 = .ok (.iload 4, 2) := by decide +kernel
theorem dX0_fitsTold_35 : decode cX0_fitsTold 35 = .ok (.ifCond .eq 31, 3) := by decide +kernel
theorem dX0_fitsTold_38 : decode cX0_fitsTold 38 = .ok (.aload_n 0, 1) := by decide +kernel
theorem dX0_fitsTold_39 : decode cX0_fitsTold 39 = .ok (.iload_n 2, 1) := by decide +kernel
theorem dX0_fitsTold_40 : decode cX0_fitsTold 40 = .ok (.aload_n 0, 1) := by decide +kernel
theorem dX0_fitsTold_41 : decode cX0_fitsTold 41 = .ok (.getfield 21, 3) := by decide +kernel
theorem dX0_fitsTold_44 : decode cX0_fitsTold 44 = .ok (.iload_n 3, 1) := by decide +kernel
theorem dX0_fitsTold_45 : decode cX0_fitsTold 45 = .ok (.iconst 1, 1) := by decide +kernel
theorem dX0_fitsTold_46 : decode cX0_fitsTold 46 = .ok (.invokevirtual 31, 3) := by decide +kernel
theorem dX0_fitsTold_49 : decode cX0_fitsTold 49 = .ok (.invokevirtual 35, 3) := by decide +kernel
theorem dX0_fitsTold_52 : decode cX0_fitsTold 52 = .ok (.aload_n 0, 1) := by decide +kernel
theorem dX0_fitsTold_53 : decode cX0_fitsTold 53 = .ok (.getfield 21, 3) := by decide +kernel
theorem dX0_fitsTold_56 : decode cX0_fitsTold 56 = .ok (.iload_n 3, 1) := by decide +kernel
theorem dX0_fitsTold_57 : decode cX0_fitsTold 57 = .ok (.iconst 2, 1) := by decide +kernel
theorem dX0_fitsTold_58 : decode cX0_fitsTold 58 = .ok (.invokevirtual 31, 3) := by decide +kernel
theorem dX0_fitsTold_61 : decode cX0_fitsTold 61 = .ok (.if_icmp .eq 5, 3) := by decide +kernel
theorem dX0_fitsTold_64 : decode cX0_fitsTold 64 = .ok (.iconst 0, 1) := by decide +kernel
theorem dX0_fitsTold_65 : decode cX0_fitsTold 65 = .ok (.ireturn, 1) := by decide +kernel
theorem dX0_fitsTold_66 : decode cX0_fitsTold 66 = .ok (.iinc 3 1, 3) := by decide +kernel
theorem dX0_fitsTold_69 : decode cX0_fitsTold 69 = .ok (.goto (-67), 3) := by decide +kernel
theorem dX0_fitsTold_72 : decode cX0_fitsTold 72 = .ok (.iconst 1, 1) := by decide +kernel
theorem dX0_fitsTold_73 : decode cX0_fitsTold 73 = .ok (.ireturn, 1) := by decide +kernel
theorem dX0_sayingKinds_0 : decode cX0_sayingKinds 0 = .ok (.iconst 0, 1) := by decide +kernel
theorem dX0_sayingKinds_1 : decode cX0_sayingKinds 1 = .ok (.istore_n 2, 1) := by decide +kernel
theorem dX0_sayingKinds_2 : decode cX0_sayingKinds 2 = .ok (.iconst 0, 1) := by decide +kernel
theorem dX0_sayingKinds_3 : decode cX0_sayingKinds 3 = .ok (.istore_n 3, 1) := by decide +kernel
theorem dX0_sayingKinds_4 : decode cX0_sayingKinds 4 = .ok (.iload_n 3, 1) := by decide +kernel
theorem dX0_sayingKinds_5 : decode cX0_sayingKinds 5 = .ok (.bipush 6, 2) := by decide +kernel
theorem dX0_sayingKinds_7 : decode cX0_sayingKinds 7 = .ok (.if_icmp .ge 24, 3) := by decide +kernel
theorem dX0_sayingKinds_10 : decode cX0_sayingKinds 10 = .ok (.aload_n 0, 1) := by decide +kernel
theorem dX0_sayingKinds_11 : decode cX0_sayingKinds 11 = .ok (.iload_n 1, 1) := by decide +kernel
theorem dX0_sayingKinds_12 : decode cX0_sayingKinds 12 = .ok (.iload_n 3, 1) := by decide +kernel
theorem dX0_sayingKinds_13 : decode cX0_sayingKinds 13 = .ok (.invokestatic 38, 3) := by decide +kernel
theorem dX0_sayingKinds_16 : decode cX0_sayingKinds 16 = .ok (.ifCond .eq 9, 3) := by decide +kernel
theorem dX0_sayingKinds_19 : decode cX0_sayingKinds 19 = .ok (.iload_n 2, 1) := by decide +kernel
theorem dX0_sayingKinds_20 : decode cX0_sayingKinds 20 = .ok (.iconst 1, 1) := by decide +kernel
theorem dX0_sayingKinds_21 : decode cX0_sayingKinds 21 = .ok (.iload_n 3, 1) := by decide +kernel
theorem dX0_sayingKinds_22 : decode cX0_sayingKinds 22 = .ok (.ishl, 1) := by decide +kernel
theorem dX0_sayingKinds_23 : decode cX0_sayingKinds 23 = .ok (.ior, 1) := by decide +kernel
theorem dX0_sayingKinds_24 : decode cX0_sayingKinds 24 = .ok (.istore_n 2, 1) := by decide +kernel
theorem dX0_sayingKinds_25 : decode cX0_sayingKinds 25 = .ok (.iinc 3 1, 3) := by decide +kernel
theorem dX0_sayingKinds_28 : decode cX0_sayingKinds 28 = .ok (.goto (-24), 3) := by decide +kernel
theorem dX0_sayingKinds_31 : decode cX0_sayingKinds 31 = .ok (.iload_n 2, 1) := by decide +kernel
theorem dX0_sayingKinds_32 : decode cX0_sayingKinds 32 = .ok (.ireturn, 1) := by decide +kernel
theorem dX0_fitsNotes_0 : decode cX0_fitsNotes 0 = .ok (.iconst 0, 1) := by decide +kernel
theorem dX0_fitsNotes_1 : decode cX0_fitsNotes 1 = .ok (.istore_n 3, 1) := by decide +kernel
theorem dX0_fitsNotes_2 : decode cX0_fitsNotes 2 = .ok (.iload_n 3, 1) := by decide +kernel
theorem dX0_fitsNotes_3 : decode cX0_fitsNotes 3 = .ok (.aload_n 0, 1) := by decide +kernel
theorem dX0_fitsNotes_4 : decode cX0_fitsNotes 4 = .ok (.getfield 41, 3) := by decide +kernel
theorem dX0_fitsNotes_7 : decode cX0_fitsNotes 7 = .ok (.getfield 25, 3) := by decide +kernel
theorem dX0_fitsNotes_10 : decode cX0_fitsNotes 10 = .ok (.if_icmp .ge 62, 3) := by decide +kernel
theorem dX0_fitsNotes_13 : decode cX0_fitsNotes 13 = .ok (.iload_n 2, 1) := by decide +kernel
theorem dX0_fitsNotes_14 : decode cX0_fitsNotes 14 = .ok (.aload_n 0, 1) := by decide +kernel
theorem dX0_fitsNotes_15 : decode cX0_fitsNotes 15 = .ok (.getfield 41, 3) := by decide +kernel
theorem dX0_fitsNotes_18 : decode cX0_fitsNotes 18 = .ok (.iload_n 3, 1) := by decide +kernel
theorem dX0_fitsNotes_19 : decode cX0_fitsNotes 19 = .ok (.iconst 1, 1) := by decide +kernel
theorem dX0_fitsNotes_20 : decode cX0_fitsNotes 20 = .ok (.invokevirtual 31, 3) := by decide +kernel
theorem dX0_fitsNotes_23 : decode cX0_fitsNotes 23 = .ok (.aload_n 0, 1) := by decide +kernel
theorem dX0_fitsNotes_24 : decode cX0_fitsNotes 24 = .ok (.getfield 41, 3) := by decide +kernel
theorem dX0_fitsNotes_27 : decode cX0_fitsNotes 27 = .ok (.iload_n 3, 1) := by decide +kernel
theorem dX0_fitsNotes_28 : decode cX0_fitsNotes 28 = .ok (.iconst 2, 1) := by decide +kernel
theorem dX0_fitsNotes_29 : decode cX0_fitsNotes 29 = .ok (.invokevirtual 31, 3) := by decide +kernel
theorem dX0_fitsNotes_32 : decode cX0_fitsNotes 32 = .ok (.invokestatic 44, 3) := by decide +kernel
theorem dX0_fitsNotes_35 : decode cX0_fitsNotes 35 = .ok (.istore 4, 2) := by decide +kernel
theorem dX0_fitsNotes_37 : decode cX0_fitsNotes 37 = .ok (.aload_n 0, 1) := by decide +kernel
theorem dX0_fitsNotes_38 : decode cX0_fitsNotes 38 = .ok (.getfield 41, 3) := by decide +kernel
theorem dX0_fitsNotes_41 : decode cX0_fitsNotes 41 = .ok (.iload_n 3, 1) := by decide +kernel
theorem dX0_fitsNotes_42 : decode cX0_fitsNotes 42 = .ok (.iconst 0, 1) := by decide +kernel
theorem dX0_fitsNotes_43 : decode cX0_fitsNotes 43 = .ok (.invokevirtual 31, 3) := by decide +kernel
theorem dX0_fitsNotes_46 : decode cX0_fitsNotes 46 = .ok (.iload_n 1, 1) := by decide +kernel
theorem dX0_fitsNotes_47 : decode cX0_fitsNotes 47 = .ok (.if_icmp .ne 19, 3) := by decide +kernel
theorem dX0_fitsNotes_50 : decode cX0_fitsNotes 50 = .ok (.iload 4, 2) := by decide +kernel
theorem dX0_fitsNotes_52 : decode cX0_fitsNotes 52 = .ok (.aload_n 0, 1) := by decide +kernel
theorem dX0_fitsNotes_53 : decode cX0_fitsNotes 53 = .ok (.getfield 41, 3) := by decide +kernel
theorem dX0_fitsNotes_56 : decode cX0_fitsNotes 56 = .ok (.iload_n 3, 1) := by decide +kernel
theorem dX0_fitsNotes_57 : decode cX0_fitsNotes 57 = .ok (.iconst 3, 1) := by decide +kernel
theorem dX0_fitsNotes_58 : decode cX0_fitsNotes 58 = .ok (.invokevirtual 31, 3) := by decide +kernel
theorem dX0_fitsNotes_61 : decode cX0_fitsNotes 61 = .ok (.if_icmp .eq 5, 3) := by decide +kernel
theorem dX0_fitsNotes_64 : decode cX0_fitsNotes 64 = .ok (.iconst 0, 1) := by decide +kernel
theorem dX0_fitsNotes_65 : decode cX0_fitsNotes 65 = .ok (.ireturn, 1) := by decide +kernel
theorem dX0_fitsNotes_66 : decode cX0_fitsNotes 66 = .ok (.iinc 3 1, 3) := by decide +kernel
theorem dX0_fitsNotes_69 : decode cX0_fitsNotes 69 = .ok (.goto (-67), 3) := by decide +kernel
theorem dX0_fitsNotes_72 : decode cX0_fitsNotes 72 = .ok (.iconst 1, 1) := by decide +kernel
theorem dX0_fitsNotes_73 : decode cX0_fitsNotes 73 = .ok (.ireturn, 1) := by decide +kernel
theorem dX0_nextLook_0 : decode cX0_nextLook 0 = .ok (.aload_n 0, 1) := by decide +kernel
theorem dX0_nextLook_1 : decode cX0_nextLook 1 = .ok (.iload_n 1, 1) := by decide +kernel
theorem dX0_nextLook_2 : decode cX0_nextLook 2 = .ok (.invokestatic 50, 3) := by decide +kernel
theorem dX0_nextLook_5 : decode cX0_nextLook 5 = .ok (.istore_n 2, 1) := by decide +kernel
theorem dX0_nextLook_6 : decode cX0_nextLook 6 = .ok (.iload_n 2, 1) := by decide +kernel
theorem dX0_nextLook_7 : decode cX0_nextLook 7 = .ok (.ifCond .ne 5, 3) := by decide +kernel
theorem dX0_nextLook_10 : decode cX0_nextLook 10 = .ok (.iconst (-1), 1) := by decide +kernel
theorem dX0_nextLook_11 : decode cX0_nextLook 11 = .ok (.ireturn, 1) := by decide +kernel
theorem dX0_nextLook_12 : decode cX0_nextLook 12 = .ok (.aload_n 0, 1) := by decide +kernel
theorem dX0_nextLook_13 : decode cX0_nextLook 13 = .ok (.getfield 54, 3) := by decide +kernel
theorem dX0_nextLook_16 : decode cX0_nextLook 16 = .ok (.iload_n 1, 1) := by decide +kernel
theorem dX0_nextLook_17 : decode cX0_nextLook 17 = .ok (.iconst 2, 1) := by decide +kernel
theorem dX0_nextLook_18 : decode cX0_nextLook 18 = .ok (.invokevirtual 31, 3) := by decide +kernel
theorem dX0_nextLook_21 : decode cX0_nextLook 21 = .ok (.istore_n 3, 1) := by decide +kernel
theorem dX0_nextLook_22 : decode cX0_nextLook 22 = .ok (.bipush 7, 2) := by decide +kernel
theorem dX0_nextLook_24 : decode cX0_nextLook 24 = .ok (.istore 4, 2) := by decide +kernel
theorem dX0_nextLook_26 : decode cX0_nextLook 26 = .ok (.iconst (-1), 1) := by decide +kernel
theorem dX0_nextLook_27 : decode cX0_nextLook 27 = .ok (.istore 5, 2) := by decide +kernel
theorem dX0_nextLook_29 : decode cX0_nextLook 29 = .ok (.iconst 0, 1) := by decide +kernel
theorem dX0_nextLook_30 : decode cX0_nextLook 30 = .ok (.istore 6, 2) := by decide +kernel
theorem dX0_nextLook_32 : decode cX0_nextLook 32 = .ok (.iload 6, 2) := by decide +kernel
theorem dX0_nextLook_34 : decode cX0_nextLook 34 = .ok (.bipush 30, 2) := by decide +kernel
theorem dX0_nextLook_36 : decode cX0_nextLook 36 = .ok (.if_icmp .ge 33, 3) := by decide +kernel
theorem dX0_nextLook_39 : decode cX0_nextLook 39 = .ok (.iload_n 2, 1) := by decide +kernel
theorem dX0_nextLook_40 : decode cX0_nextLook 40 = .ok (.iload_n 3, 1) := by decide +kernel
theorem dX0_nextLook_41 : decode cX0_nextLook 41 = .ok (.iload 6, 2) := by decide +kernel
theorem dX0_nextLook_43 : decode cX0_nextLook 43 = .ok (.invokestatic 57, 3) := by decide +kernel
theorem dX0_nextLook_46 : decode cX0_nextLook 46 = .ok (.istore 7, 2) := by decide +kernel
theorem dX0_nextLook_48 : decode cX0_nextLook 48 = .ok (.iload 7, 2) := by decide +kernel
theorem dX0_nextLook_50 : decode cX0_nextLook 50 = .ok (.iload 4, 2) := by decide +kernel
theorem dX0_nextLook_52 : decode cX0_nextLook 52 = .ok (.if_icmp .ge 11, 3) := by decide +kernel
theorem dX0_nextLook_55 : decode cX0_nextLook 55 = .ok (.iload 7, 2) := by decide +kernel
theorem dX0_nextLook_57 : decode cX0_nextLook 57 = .ok (.istore 4, 2) := by decide +kernel
theorem dX0_nextLook_59 : decode cX0_nextLook 59 = .ok (.iload 6, 2) := by decide +kernel
theorem dX0_nextLook_61 : decode cX0_nextLook 61 = .ok (.istore 5, 2) := by decide +kernel
theorem dX0_nextLook_63 : decode cX0_nextLook 63 = .ok (.iinc 6 1, 3) := by decide +kernel
theorem dX0_nextLook_66 : decode cX0_nextLook 66 = .ok (.goto (-34), 3) := by decide +kernel
theorem dX0_nextLook_69 : decode cX0_nextLook 69 = .ok (.iload 5, 2) := by decide +kernel
theorem dX0_nextLook_71 : decode cX0_nextLook 71 = .ok (.ireturn, 1) := by decide +kernel
theorem dX0_mostAlike_0 : decode cX0_mostAlike 0 = .ok (.iconst 0, 1) := by decide +kernel
theorem dX0_mostAlike_1 : decode cX0_mostAlike 1 = .ok (.istore_n 3, 1) := by decide +kernel
theorem dX0_mostAlike_2 : decode cX0_mostAlike 2 = .ok (.iconst 0, 1) := by decide +kernel
theorem dX0_mostAlike_3 : decode cX0_mostAlike 3 = .ok (.istore 4, 2) := by decide +kernel
theorem dX0_mostAlike_5 : decode cX0_mostAlike 5 = .ok (.iload 4, 2) := by decide +kernel
theorem dX0_mostAlike_7 : decode cX0_mostAlike 7 = .ok (.bipush 6, 2) := by decide +kernel
theorem dX0_mostAlike_9 : decode cX0_mostAlike 9 = .ok (.if_icmp .ge 31, 3) := by decide +kernel
theorem dX0_mostAlike_12 : decode cX0_mostAlike 12 = .ok (.iload_n 0, 1) := by decide +kernel
theorem dX0_mostAlike_13 : decode cX0_mostAlike 13 = .ok (.iload 4, 2) := by decide +kernel
theorem dX0_mostAlike_15 : decode cX0_mostAlike 15 = .ok (.invokestatic 60, 3) := by decide +kernel
theorem dX0_mostAlike_18 : decode cX0_mostAlike 18 = .ok (.ifCond .eq 16, 3) := by decide +kernel
theorem dX0_mostAlike_21 : decode cX0_mostAlike 21 = .ok (.iload_n 3, 1) := by decide +kernel
theorem dX0_mostAlike_22 : decode cX0_mostAlike 22 = .ok (.iload 4, 2) := by decide +kernel
theorem dX0_mostAlike_24 : decode cX0_mostAlike 24 = .ok (.iload_n 0, 1) := by decide +kernel
theorem dX0_mostAlike_25 : decode cX0_mostAlike 25 = .ok (.iload_n 1, 1) := by decide +kernel
theorem dX0_mostAlike_26 : decode cX0_mostAlike 26 = .ok (.iload_n 2, 1) := by decide +kernel
theorem dX0_mostAlike_27 : decode cX0_mostAlike 27 = .ok (.invokestatic 64, 3) := by decide +kernel
theorem dX0_mostAlike_30 : decode cX0_mostAlike 30 = .ok (.invokestatic 68, 3) := by decide +kernel
theorem dX0_mostAlike_33 : decode cX0_mostAlike 33 = .ok (.istore_n 3, 1) := by decide +kernel
theorem dX0_mostAlike_34 : decode cX0_mostAlike 34 = .ok (.iinc 4 1, 3) := by decide +kernel
theorem dX0_mostAlike_37 : decode cX0_mostAlike 37 = .ok (.goto (-32), 3) := by decide +kernel
theorem dX0_mostAlike_40 : decode cX0_mostAlike 40 = .ok (.iload_n 3, 1) := by decide +kernel
theorem dX0_mostAlike_41 : decode cX0_mostAlike 41 = .ok (.ireturn, 1) := by decide +kernel
theorem dX0_asLoudAs_0 : decode cX0_asLoudAs 0 = .ok (.iload_n 0, 1) := by decide +kernel
theorem dX0_asLoudAs_1 : decode cX0_asLoudAs 1 = .ok (.iload_n 2, 1) := by decide +kernel
theorem dX0_asLoudAs_2 : decode cX0_asLoudAs 2 = .ok (.iload_n 3, 1) := by decide +kernel
theorem dX0_asLoudAs_3 : decode cX0_asLoudAs 3 = .ok (.invokestatic 44, 3) := by decide +kernel
theorem dX0_asLoudAs_6 : decode cX0_asLoudAs 6 = .ok (.istore 4, 2) := by decide +kernel
theorem dX0_asLoudAs_8 : decode cX0_asLoudAs 8 = .ok (.iconst 0, 1) := by decide +kernel
theorem dX0_asLoudAs_9 : decode cX0_asLoudAs 9 = .ok (.istore 5, 2) := by decide +kernel
theorem dX0_asLoudAs_11 : decode cX0_asLoudAs 11 = .ok (.iconst 0, 1) := by decide +kernel
theorem dX0_asLoudAs_12 : decode cX0_asLoudAs 12 = .ok (.istore 6, 2) := by decide +kernel
theorem dX0_asLoudAs_14 : decode cX0_asLoudAs 14 = .ok (.iload 6, 2) := by decide +kernel
theorem dX0_asLoudAs_16 : decode cX0_asLoudAs 16 = .ok (.bipush 6, 2) := by decide +kernel
theorem dX0_asLoudAs_18 : decode cX0_asLoudAs 18 = .ok (.if_icmp .ge 33, 3) := by decide +kernel
theorem dX0_asLoudAs_21 : decode cX0_asLoudAs 21 = .ok (.iload_n 1, 1) := by decide +kernel
theorem dX0_asLoudAs_22 : decode cX0_asLoudAs 22 = .ok (.iload 6, 2) := by decide +kernel
theorem dX0_asLoudAs_24 : decode cX0_asLoudAs 24 = .ok (.invokestatic 60, 3) := by decide +kernel
theorem dX0_asLoudAs_27 : decode cX0_asLoudAs 27 = .ok (.ifCond .eq 18, 3) := by decide +kernel
theorem dX0_asLoudAs_30 : decode cX0_asLoudAs 30 = .ok (.iload 6, 2) := by decide +kernel
theorem dX0_asLoudAs_32 : decode cX0_asLoudAs 32 = .ok (.iload_n 2, 1) := by decide +kernel
theorem dX0_asLoudAs_33 : decode cX0_asLoudAs 33 = .ok (.iload_n 3, 1) := by decide +kernel
theorem dX0_asLoudAs_34 : decode cX0_asLoudAs 34 = .ok (.invokestatic 44, 3) := by decide +kernel
theorem dX0_asLoudAs_37 : decode cX0_asLoudAs 37 = .ok (.iload 4, 2) := by decide +kernel
theorem dX0_asLoudAs_39 : decode cX0_asLoudAs 39 = .ok (.if_icmp .ne 6, 3) := by decide +kernel
theorem dX0_asLoudAs_42 : decode cX0_asLoudAs 42 = .ok (.iinc 5 1, 3) := by decide +kernel
theorem dX0_asLoudAs_45 : decode cX0_asLoudAs 45 = .ok (.iinc 6 1, 3) := by decide +kernel
theorem dX0_asLoudAs_48 : decode cX0_asLoudAs 48 = .ok (.goto (-34), 3) := by decide +kernel
theorem dX0_asLoudAs_51 : decode cX0_asLoudAs 51 = .ok (.iload 5, 2) := by decide +kernel
theorem dX0_asLoudAs_53 : decode cX0_asLoudAs 53 = .ok (.ireturn, 1) := by decide +kernel
theorem dX0_listenerKinds_0 : decode cX0_listenerKinds 0 = .ok (.iconst 0, 1) := by decide +kernel
theorem dX0_listenerKinds_1 : decode cX0_listenerKinds 1 = .ok (.istore_n 2, 1) := by decide +kernel
theorem dX0_listenerKinds_2 : decode cX0_listenerKinds 2 = .ok (.iconst 0, 1) := by decide +kernel
theorem dX0_listenerKinds_3 : decode cX0_listenerKinds 3 = .ok (.istore_n 3, 1) := by decide +kernel
theorem dX0_listenerKinds_4 : decode cX0_listenerKinds 4 = .ok (.iload_n 3, 1) := by decide +kernel
theorem dX0_listenerKinds_5 : decode cX0_listenerKinds 5 = .ok (.bipush 6, 2) := by decide +kernel
theorem dX0_listenerKinds_7 : decode cX0_listenerKinds 7 = .ok (.if_icmp .ge 24, 3) := by decide +kernel
theorem dX0_listenerKinds_10 : decode cX0_listenerKinds 10 = .ok (.aload_n 0, 1) := by decide +kernel
theorem dX0_listenerKinds_11 : decode cX0_listenerKinds 11 = .ok (.iload_n 1, 1) := by decide +kernel
theorem dX0_listenerKinds_12 : decode cX0_listenerKinds 12 = .ok (.iload_n 3, 1) := by decide +kernel
theorem dX0_listenerKinds_13 : decode cX0_listenerKinds 13 = .ok (.invokestatic 73, 3) := by decide +kernel
theorem dX0_listenerKinds_16 : decode cX0_listenerKinds 16 = .ok (.ifCond .eq 9, 3) := by decide +kernel
theorem dX0_listenerKinds_19 : decode cX0_listenerKinds 19 = .ok (.iload_n 2, 1) := by decide +kernel
theorem dX0_listenerKinds_20 : decode cX0_listenerKinds 20 = .ok (.iconst 1, 1) := by decide +kernel
theorem dX0_listenerKinds_21 : decode cX0_listenerKinds 21 = .ok (.iload_n 3, 1) := by decide +kernel
theorem dX0_listenerKinds_22 : decode cX0_listenerKinds 22 = .ok (.ishl, 1) := by decide +kernel
theorem dX0_listenerKinds_23 : decode cX0_listenerKinds 23 = .ok (.ior, 1) := by decide +kernel
theorem dX0_listenerKinds_24 : decode cX0_listenerKinds 24 = .ok (.istore_n 2, 1) := by decide +kernel
theorem dX0_listenerKinds_25 : decode cX0_listenerKinds 25 = .ok (.iinc 3 1, 3) := by decide +kernel
theorem dX0_listenerKinds_28 : decode cX0_listenerKinds 28 = .ok (.goto (-24), 3) := by decide +kernel
theorem dX0_listenerKinds_31 : decode cX0_listenerKinds 31 = .ok (.iload_n 2, 1) := by decide +kernel
theorem dX0_listenerKinds_32 : decode cX0_listenerKinds 32 = .ok (.ireturn, 1) := by decide +kernel
theorem dX0_fitsMarks_0 : decode cX0_fitsMarks 0 = .ok (.iconst 0, 1) := by decide +kernel
theorem dX0_fitsMarks_1 : decode cX0_fitsMarks 1 = .ok (.istore_n 3, 1) := by decide +kernel
theorem dX0_fitsMarks_2 : decode cX0_fitsMarks 2 = .ok (.iload_n 3, 1) := by decide +kernel
theorem dX0_fitsMarks_3 : decode cX0_fitsMarks 3 = .ok (.aload_n 0, 1) := by decide +kernel
theorem dX0_fitsMarks_4 : decode cX0_fitsMarks 4 = .ok (.getfield 76, 3) := by decide +kernel
theorem dX0_fitsMarks_7 : decode cX0_fitsMarks 7 = .ok (.getfield 25, 3) := by decide +kernel
theorem dX0_fitsMarks_10 : decode cX0_fitsMarks 10 = .ok (.if_icmp .ge 75, 3) := by decide +kernel
theorem dX0_fitsMarks_13 : decode cX0_fitsMarks 13 = .ok (.iload_n 2, 1) := by decide +kernel
theorem dX0_fitsMarks_14 : decode cX0_fitsMarks 14 = .ok (.aload_n 0, 1) := by decide +kernel
theorem dX0_fitsMarks_15 : decode cX0_fitsMarks 15 = .ok (.getfield 76, 3) := by decide +kernel
theorem dX0_fitsMarks_18 : decode cX0_fitsMarks 18 = .ok (.iload_n 3, 1) := by decide +kernel
theorem dX0_fitsMarks_19 : decode cX0_fitsMarks 19 = .ok (.iconst 1, 1) := by decide +kernel
theorem dX0_fitsMarks_20 : decode cX0_fitsMarks 20 = .ok (.invokevirtual 31, 3) := by decide +kernel
theorem dX0_fitsMarks_23 : decode cX0_fitsMarks 23 = .ok (.aload_n 0, 1) := by decide +kernel
theorem dX0_fitsMarks_24 : decode cX0_fitsMarks 24 = .ok (.getfield 76, 3) := by decide +kernel
theorem dX0_fitsMarks_27 : decode cX0_fitsMarks 27 = .ok (.iload_n 3, 1) := by decide +kernel
theorem dX0_fitsMarks_28 : decode cX0_fitsMarks 28 = .ok (.iconst 2, 1) := by decide +kernel
theorem dX0_fitsMarks_29 : decode cX0_fitsMarks 29 = .ok (.invokevirtual 31, 3) := by decide +kernel
theorem dX0_fitsMarks_32 : decode cX0_fitsMarks 32 = .ok (.invokestatic 79, 3) := by decide +kernel
theorem dX0_fitsMarks_35 : decode cX0_fitsMarks 35 = .ok (.istore 4, 2) := by decide +kernel
theorem dX0_fitsMarks_37 : decode cX0_fitsMarks 37 = .ok (.aload_n 0, 1) := by decide +kernel
theorem dX0_fitsMarks_38 : decode cX0_fitsMarks 38 = .ok (.getfield 76, 3) := by decide +kernel
theorem dX0_fitsMarks_41 : decode cX0_fitsMarks 41 = .ok (.iload_n 3, 1) := by decide +kernel
theorem dX0_fitsMarks_42 : decode cX0_fitsMarks 42 = .ok (.iconst 3, 1) := by decide +kernel
theorem dX0_fitsMarks_43 : decode cX0_fitsMarks 43 = .ok (.invokevirtual 31, 3) := by decide +kernel
theorem dX0_fitsMarks_46 : decode cX0_fitsMarks 46 = .ok (.iconst 1, 1) := by decide +kernel
theorem dX0_fitsMarks_47 : decode cX0_fitsMarks 47 = .ok (.if_icmp .ne 7, 3) := by decide +kernel
theorem dX0_fitsMarks_50 : decode cX0_fitsMarks 50 = .ok (.iconst 1, 1) := by decide +kernel
theorem dX0_fitsMarks_51 : decode cX0_fitsMarks 51 = .ok (.goto 4, 3) := by decide +kernel
theorem dX0_fitsMarks_54 : decode cX0_fitsMarks 54 = .ok (.iconst 0, 1) := by decide +kernel
theorem dX0_fitsMarks_55 : decode cX0_fitsMarks 55 = .ok (.istore 5, 2) := by decide +kernel
theorem dX0_fitsMarks_57 : decode cX0_fitsMarks 57 = .ok (.aload_n 0, 1) := by decide +kernel
theorem dX0_fitsMarks_58 : decode cX0_fitsMarks 58 = .ok (.getfield 76, 3) := by decide +kernel
theorem dX0_fitsMarks_61 : decode cX0_fitsMarks 61 = .ok (.iload_n 3, 1) := by decide +kernel
theorem dX0_fitsMarks_62 : decode cX0_fitsMarks 62 = .ok (.iconst 0, 1) := by decide +kernel
theorem dX0_fitsMarks_63 : decode cX0_fitsMarks 63 = .ok (.invokevirtual 31, 3) := by decide +kernel
theorem dX0_fitsMarks_66 : decode cX0_fitsMarks 66 = .ok (.iload_n 1, 1) := by decide +kernel
theorem dX0_fitsMarks_67 : decode cX0_fitsMarks 67 = .ok (.if_icmp .ne 12, 3) := by decide +kernel
theorem dX0_fitsMarks_70 : decode cX0_fitsMarks 70 = .ok (.iload 4, 2) := by decide +kernel
theorem dX0_fitsMarks_72 : decode cX0_fitsMarks 72 = .ok (.iload 5, 2) := by decide +kernel
theorem dX0_fitsMarks_74 : decode cX0_fitsMarks 74 = .ok (.if_icmp .eq 5, 3) := by decide +kernel
theorem dX0_fitsMarks_77 : decode cX0_fitsMarks 77 = .ok (.iconst 0, 1) := by decide +kernel
theorem dX0_fitsMarks_78 : decode cX0_fitsMarks 78 = .ok (.ireturn, 1) := by decide +kernel
theorem dX0_fitsMarks_79 : decode cX0_fitsMarks 79 = .ok (.iinc 3 1, 3) := by decide +kernel
theorem dX0_fitsMarks_82 : decode cX0_fitsMarks 82 = .ok (.goto (-80), 3) := by decide +kernel
theorem dX0_fitsMarks_85 : decode cX0_fitsMarks 85 = .ok (.iconst 1, 1) := by decide +kernel
theorem dX0_fitsMarks_86 : decode cX0_fitsMarks 86 = .ok (.ireturn, 1) := by decide +kernel
theorem dX0_nextQuestion_0 : decode cX0_nextQuestion 0 = .ok (.aload_n 0, 1) := by decide +kernel
theorem dX0_nextQuestion_1 : decode cX0_nextQuestion 1 = .ok (.iload_n 1, 1) := by decide +kernel
theorem dX0_nextQuestion_2 : decode cX0_nextQuestion 2 = .ok (.invokestatic 83, 3) := by decide +kernel
theorem dX0_nextQuestion_5 : decode cX0_nextQuestion 5 = .ok (.istore_n 2, 1) := by decide +kernel
theorem dX0_nextQuestion_6 : decode cX0_nextQuestion 6 = .ok (.iload_n 2, 1) := by decide +kernel
theorem dX0_nextQuestion_7 : decode cX0_nextQuestion 7 = .ok (.ifCond .ne 5, 3) := by decide +kernel
theorem dX0_nextQuestion_10 : decode cX0_nextQuestion 10 = .ok (.iconst (-1), 1) := by decide +kernel
theorem dX0_nextQuestion_11 : decode cX0_nextQuestion 11 = .ok (.ireturn, 1) := by decide +kernel
theorem dX0_nextQuestion_12 : decode cX0_nextQuestion 12 = .ok (.bipush 7, 2) := by decide +kernel
theorem dX0_nextQuestion_14 : decode cX0_nextQuestion 14 = .ok (.istore_n 3, 1) := by decide +kernel
theorem dX0_nextQuestion_15 : decode cX0_nextQuestion 15 = .ok (.iconst (-1), 1) := by decide +kernel
theorem dX0_nextQuestion_16 : decode cX0_nextQuestion 16 = .ok (.istore 4, 2) := by decide +kernel
theorem dX0_nextQuestion_18 : decode cX0_nextQuestion 18 = .ok (.iconst 0, 1) := by decide +kernel
theorem dX0_nextQuestion_19 : decode cX0_nextQuestion 19 = .ok (.istore 5, 2) := by decide +kernel
theorem dX0_nextQuestion_21 : decode cX0_nextQuestion 21 = .ok (.iload 5, 2) := by decide +kernel
theorem dX0_nextQuestion_23 : decode cX0_nextQuestion 23 = .ok (.bipush 9, 2) := by decide +kernel
theorem dX0_nextQuestion_25 : decode cX0_nextQuestion 25 = .ok (.if_icmp .gt 54, 3) := by decide +kernel
theorem dX0_nextQuestion_28 : decode cX0_nextQuestion 28 = .ok (.iconst 0, 1) := by decide +kernel
theorem dX0_nextQuestion_29 : decode cX0_nextQuestion 29 = .ok (.istore 6, 2) := by decide +kernel
theorem dX0_nextQuestion_31 : decode cX0_nextQuestion 31 = .ok (.iload 6, 2) := by decide +kernel
theorem dX0_nextQuestion_33 : decode cX0_nextQuestion 33 = .ok (.bipush 60, 2) := by decide +kernel
theorem dX0_nextQuestion_35 : decode cX0_nextQuestion 35 = .ok (.if_icmp .gt 38, 3) := by decide +kernel
theorem dX0_nextQuestion_38 : decode cX0_nextQuestion 38 = .ok (.iload_n 2, 1) := by decide +kernel
theorem dX0_nextQuestion_39 : decode cX0_nextQuestion 39 = .ok (.iload 5, 2) := by decide +kernel
theorem dX0_nextQuestion_41 : decode cX0_nextQuestion 41 = .ok (.iload 6, 2) := by decide +kernel
theorem dX0_nextQuestion_43 : decode cX0_nextQuestion 43 = .ok (.invokestatic 86, 3) := by decide +kernel
theorem dX0_nextQuestion_46 : decode cX0_nextQuestion 46 = .ok (.istore 7, 2) := by decide +kernel
theorem dX0_nextQuestion_48 : decode cX0_nextQuestion 48 = .ok (.iload 7, 2) := by decide +kernel
theorem dX0_nextQuestion_50 : decode cX0_nextQuestion 50 = .ok (.iload_n 3, 1) := by decide +kernel
theorem dX0_nextQuestion_51 : decode cX0_nextQuestion 51 = .ok (.if_icmp .ge 16, 3) := by decide +kernel
theorem dX0_nextQuestion_54 : decode cX0_nextQuestion 54 = .ok (.iload 7, 2) := by decide +kernel
theorem dX0_nextQuestion_56 : decode cX0_nextQuestion 56 = .ok (.istore_n 3, 1) := by decide +kernel
theorem dX0_nextQuestion_57 : decode cX0_nextQuestion 57 = .ok (.bipush 100, 2) := by decide +kernel
theorem dX0_nextQuestion_59 : decode cX0_nextQuestion 59 = .ok (.iload 5, 2) := by decide +kernel
theorem dX0_nextQuestion_61 : decode cX0_nextQuestion 61 = .ok (.imul, 1) := by decide +kernel
theorem dX0_nextQuestion_62 : decode cX0_nextQuestion 62 = .ok (.iload 6, 2) := by decide +kernel
theorem dX0_nextQuestion_64 : decode cX0_nextQuestion 64 = .ok (.iadd, 1) := by decide +kernel
theorem dX0_nextQuestion_65 : decode cX0_nextQuestion 65 = .ok (.istore 4, 2) := by decide +kernel
theorem dX0_nextQuestion_67 : decode cX0_nextQuestion 67 = .ok (.iinc 6 1, 3) := by decide +kernel
theorem dX0_nextQuestion_70 : decode cX0_nextQuestion 70 = .ok (.goto (-39), 3) := by decide +kernel
theorem dX0_nextQuestion_73 : decode cX0_nextQuestion 73 = .ok (.iinc 5 1, 3) := by decide +kernel
theorem dX0_nextQuestion_76 : decode cX0_nextQuestion 76 = .ok (.goto (-55), 3) := by decide +kernel
theorem dX0_nextQuestion_79 : decode cX0_nextQuestion 79 = .ok (.iload 4, 2) := by decide +kernel
theorem dX0_nextQuestion_81 : decode cX0_nextQuestion 81 = .ok (.ireturn, 1) := by decide +kernel
theorem dX0_greaterPart_0 : decode cX0_greaterPart 0 = .ok (.iconst 0, 1) := by decide +kernel
theorem dX0_greaterPart_1 : decode cX0_greaterPart 1 = .ok (.istore_n 3, 1) := by decide +kernel
theorem dX0_greaterPart_2 : decode cX0_greaterPart 2 = .ok (.iconst 0, 1) := by decide +kernel
theorem dX0_greaterPart_3 : decode cX0_greaterPart 3 = .ok (.istore 4, 2) := by decide +kernel
theorem dX0_greaterPart_5 : decode cX0_greaterPart 5 = .ok (.iload 4, 2) := by decide +kernel
theorem dX0_greaterPart_7 : decode cX0_greaterPart 7 = .ok (.bipush 6, 2) := by decide +kernel
theorem dX0_greaterPart_9 : decode cX0_greaterPart 9 = .ok (.if_icmp .ge 31, 3) := by decide +kernel
theorem dX0_greaterPart_12 : decode cX0_greaterPart 12 = .ok (.iload_n 0, 1) := by decide +kernel
theorem dX0_greaterPart_13 : decode cX0_greaterPart 13 = .ok (.iload 4, 2) := by decide +kernel
theorem dX0_greaterPart_15 : decode cX0_greaterPart 15 = .ok (.invokestatic 60, 3) := by decide +kernel
theorem dX0_greaterPart_18 : decode cX0_greaterPart 18 = .ok (.ifCond .eq 16, 3) := by decide +kernel
theorem dX0_greaterPart_21 : decode cX0_greaterPart 21 = .ok (.iload 4, 2) := by decide +kernel
theorem dX0_greaterPart_23 : decode cX0_greaterPart 23 = .ok (.iload_n 1, 1) := by decide +kernel
theorem dX0_greaterPart_24 : decode cX0_greaterPart 24 = .ok (.iload_n 2, 1) := by decide +kernel
theorem dX0_greaterPart_25 : decode cX0_greaterPart 25 = .ok (.invokestatic 79, 3) := by decide +kernel
theorem dX0_greaterPart_28 : decode cX0_greaterPart 28 = .ok (.ifCond .eq 6, 3) := by decide +kernel
theorem dX0_greaterPart_31 : decode cX0_greaterPart 31 = .ok (.iinc 3 1, 3) := by decide +kernel
theorem dX0_greaterPart_34 : decode cX0_greaterPart 34 = .ok (.iinc 4 1, 3) := by decide +kernel
theorem dX0_greaterPart_37 : decode cX0_greaterPart 37 = .ok (.goto (-32), 3) := by decide +kernel
theorem dX0_greaterPart_40 : decode cX0_greaterPart 40 = .ok (.iload_n 3, 1) := by decide +kernel
theorem dX0_greaterPart_41 : decode cX0_greaterPart 41 = .ok (.iload_n 0, 1) := by decide +kernel
theorem dX0_greaterPart_42 : decode cX0_greaterPart 42 = .ok (.invokestatic 89, 3) := by decide +kernel
theorem dX0_greaterPart_45 : decode cX0_greaterPart 45 = .ok (.iload_n 3, 1) := by decide +kernel
theorem dX0_greaterPart_46 : decode cX0_greaterPart 46 = .ok (.isub, 1) := by decide +kernel
theorem dX0_greaterPart_47 : decode cX0_greaterPart 47 = .ok (.invokestatic 68, 3) := by decide +kernel
theorem dX0_greaterPart_50 : decode cX0_greaterPart 50 = .ok (.ireturn, 1) := by decide +kernel
theorem dX1_init_0 : decode cX1_init 0 = .ok (.aload_n 0, 1) := by decide +kernel
theorem dX1_init_1 : decode cX1_init 1 = .ok (.invokespecial 3, 3) := by decide +kernel
theorem dX1_init_4 : decode cX1_init 4 = .ok (.aload_n 0, 1) := by decide +kernel
theorem dX1_init_5 : decode cX1_init 5 = .ok (.lconst 0, 1) := by decide +kernel
theorem dX1_init_6 : decode cX1_init 6 = .ok (.putfield 9, 3) := by decide +kernel
theorem dX1_init_9 : decode cX1_init 9 = .ok (.aload_n 0, 1) := by decide +kernel
theorem dX1_init_10 : decode cX1_init 10 = .ok (.lconst 1, 1) := by decide +kernel
theorem dX1_init_11 : decode cX1_init 11 = .ok (.putfield 15, 3) := by decide +kernel
theorem dX1_init_14 : decode cX1_init 14 = .ok (.return_, 1) := by decide +kernel
theorem dX1_becomeChance_0 : decode cX1_becomeChance 0 = .ok (.aload_n 1, 1) := by decide +kernel
theorem dX1_becomeChance_1 : decode cX1_becomeChance 1 = .ok (.getfield 18, 3) := by decide +kernel
theorem dX1_becomeChance_4 : decode cX1_becomeChance 4 = .ok (.iload_n 2, 1) := by decide +kernel
theorem dX1_becomeChance_5 : decode cX1_becomeChance 5 = .ok (.iconst 1, 1) := by decide +kernel
theorem dX1_becomeChance_6 : decode cX1_becomeChance 6 = .ok (.invokevirtual 24, 3) := by decide +kernel
theorem dX1_becomeChance_9 : decode cX1_becomeChance 9 = .ok (.istore 5, 2) := by decide +kernel
theorem dX1_becomeChance_11 : decode cX1_becomeChance 11 = .ok (.aload_n 1, 1) := by decide +kernel
theorem dX1_becomeChance_12 : decode cX1_becomeChance 12 = .ok (.iload 5, 2) := by decide +kernel
theorem dX1_becomeChance_14 : decode cX1_becomeChance 14 = .ok (.iconst 0, 1) := by decide +kernel
theorem dX1_becomeChance_15 : decode cX1_becomeChance 15 = .ok (.invokevirtual 30, 3) := by decide +kernel
theorem dX1_becomeChance_18 : decode cX1_becomeChance 18 = .ok (.istore 6, 2) := by decide +kernel
theorem dX1_becomeChance_20 : decode cX1_becomeChance 20 = .ok (.iload 6, 2) := by decide +kernel
theorem dX1_becomeChance_22 : decode cX1_becomeChance 22 = .ok (.iconst (-1), 1) := by decide +kernel
theorem dX1_becomeChance_23 : decode cX1_becomeChance 23 = .ok (.if_icmp .eq 17, 3) := by decide +kernel
theorem dX1_becomeChance_26 : decode cX1_becomeChance 26 = .ok (.aload_n 1, 1) := by decide +kernel
theorem dX1_becomeChance_27 : decode cX1_becomeChance 27 = .ok (.getfield 33, 3) := by decide +kernel
theorem dX1_becomeChance_30 : decode cX1_becomeChance 30 = .ok (.iload_n 3, 1) := by decide +kernel
theorem dX1_becomeChance_31 : decode cX1_becomeChance 31 = .ok (.iconst 1, 1) := by decide +kernel
theorem dX1_becomeChance_32 : decode cX1_becomeChance 32 = .ok (.invokevirtual 24, 3) := by decide +kernel
theorem dX1_becomeChance_35 : decode cX1_becomeChance 35 = .ok (.iload 5, 2) := by decide +kernel
theorem dX1_becomeChance_37 : decode cX1_becomeChance 37 = .ok (.if_icmp .eq 10, 3) := by decide +kernel
theorem dX1_becomeChance_40 : decode cX1_becomeChance 40 = .ok (.aload_n 0, 1) := by decide +kernel
theorem dX1_becomeChance_41 : decode cX1_becomeChance 41 = .ok (.lconst 0, 1) := by decide +kernel
theorem dX1_becomeChance_42 : decode cX1_becomeChance 42 = .ok (.lconst 1, 1) := by decide +kernel
theorem dX1_becomeChance_43 : decode cX1_becomeChance 43 = .ok (.invokevirtual 36, 3) := by decide +kernel
theorem dX1_becomeChance_46 : decode cX1_becomeChance 46 = .ok (.return_, 1) := by decide +kernel
theorem dX1_becomeChance_47 : decode cX1_becomeChance 47 = .ok (.aload_n 1, 1) := by decide +kernel
theorem dX1_becomeChance_48 : decode cX1_becomeChance 48 = .ok (.iload 5, 2) := by decide +kernel
theorem dX1_becomeChance_50 : decode cX1_becomeChance 50 = .ok (.invokevirtual 40, 3) := by decide +kernel
theorem dX1_becomeChance_53 : decode cX1_becomeChance 53 = .ok (.istore 7, 2) := by decide +kernel
theorem dX1_becomeChance_55 : decode cX1_becomeChance 55 = .ok (.iload 7, 2) := by decide +kernel
theorem dX1_becomeChance_57 : decode cX1_becomeChance 57 = .ok (.invokestatic 44, 3) := by decide +kernel
theorem dX1_becomeChance_60 : decode cX1_becomeChance 60 = .ok (.istore 8, 2) := by decide +kernel
theorem dX1_becomeChance_62 : decode cX1_becomeChance 62 = .ok (.aload_n 1, 1) := by decide +kernel
theorem dX1_becomeChance_63 : decode cX1_becomeChance 63 = .ok (.getfield 18, 3) := by decide +kernel
theorem dX1_becomeChance_66 : decode cX1_becomeChance 66 = .ok (.iload_n 2, 1) := by decide +kernel
theorem dX1_becomeChance_67 : decode cX1_becomeChance 67 = .ok (.iconst 0, 1) := by decide +kernel
theorem dX1_becomeChance_68 : decode cX1_becomeChance 68 = .ok (.invokevirtual 24, 3) := by decide +kernel
theorem dX1_becomeChance_71 : decode cX1_becomeChance 71 = .ok (.istore 9, 2) := by decide +kernel
theorem dX1_becomeChance_73 : decode cX1_becomeChance 73 = .ok (.aload_n 1, 1) := by decide +kernel
theorem dX1_becomeChance_74 : decode cX1_becomeChance 74 = .ok (.iload_n 3, 1) := by decide +kernel
theorem dX1_becomeChance_75 : decode cX1_becomeChance 75 = .ok (.iload 6, 2) := by decide +kernel
theorem dX1_becomeChance_77 : decode cX1_becomeChance 77 = .ok (.invokevirtual 49, 3) := by decide +kernel
theorem dX1_becomeChance_80 : decode cX1_becomeChance 80 = .ok (.istore 10, 2) := by decide +kernel
theorem dX1_becomeChance_82 : decode cX1_becomeChance 82 = .ok (.lconst 0, 1) := by decide +kernel
theorem dX1_becomeChance_83 : decode cX1_becomeChance 83 = .ok (.lstore 11, 2) := by decide +kernel
theorem dX1_becomeChance_85 : decode cX1_becomeChance 85 = .ok (.iconst 0, 1) := by decide +kernel
theorem dX1_becomeChance_86 : decode cX1_becomeChance 86 = .ok (.istore 13, 2) := by decide +kernel
theorem dX1_becomeChance_88 : decode cX1_becomeChance 88 = .ok (.iload 13, 2) := by decide +kernel
theorem dX1_becomeChance_90 : decode cX1_becomeChance 90 = .ok (.sipush 256, 3) := by decide +kernel
theorem dX1_becomeChance_93 : decode cX1_becomeChance 93 = .ok (.if_icmp .ge 94, 3) := by decide +kernel
theorem dX1_becomeChance_96 : decode cX1_becomeChance 96 = .ok (.iload 13, 2) := by decide +kernel
theorem dX1_becomeChance_98 : decode cX1_becomeChance 98 = .ok (.iload 7, 2) := by decide +kernel
theorem dX1_becomeChance_100 : decode cX1_becomeChance 100 = .ok (.iand, 1) := by decide +kernel
theorem dX1_becomeChance_101 : decode cX1_becomeChance 101 = .ok (.iload 13, 2) := by decide +kernel
theorem dX1_becomeChance_103 : decode cX1_becomeChance 103 = .ok (.if_icmp .ne 16, 3) := by decide +kernel
theorem dX1_becomeChance_106 : decode cX1_becomeChance 106 = .ok (.iload 13, 2) := by decide +kernel
theorem dX1_becomeChance_108 : decode cX1_becomeChance 108 = .ok (.iload_n 3, 1) := by decide +kernel
theorem dX1_becomeChance_109 : decode cX1_becomeChance 109 = .ok (.invokestatic 52, 3) := by decide +kernel
theorem dX1_becomeChance_112 : decode cX1_becomeChance 112 = .ok (.ifCond .eq 7, 3) := by decide +kernel
theorem dX1_becomeChance_115 : decode cX1_becomeChance 115 = .ok (.iconst 1, 1) := by decide +kernel
theorem dX1_becomeChance_116 : decode cX1_becomeChance 116 = .ok (.goto 4, 3) := by decide +kernel
theorem dX1_becomeChance_119 : decode cX1_becomeChance 119 = .ok (.iconst 0, 1) := by decide +kernel
theorem dX1_becomeChance_120 : decode cX1_becomeChance 120 = .ok (.istore 14, 2) := by decide +kernel
theorem dX1_becomeChance_122 : decode cX1_becomeChance 122 = .ok (.iload 14, 2) := by decide +kernel
theorem dX1_becomeChance_124 : decode cX1_becomeChance 124 = .ok (.ifCond .eq 57, 3) := by decide +kernel
theorem dX1_becomeChance_127 : decode cX1_becomeChance 127 = .ok (.iload 9, 2) := by decide +kernel
theorem dX1_becomeChance_129 : decode cX1_becomeChance 129 = .ok (.iload 10, 2) := by decide +kernel
theorem dX1_becomeChance_131 : decode cX1_becomeChance 131 = .ok (.aload_n 1, 1) := by decide +kernel
theorem dX1_becomeChance_132 : decode cX1_becomeChance 132 = .ok (.iload 13, 2) := by decide +kernel
theorem dX1_becomeChance_134 : decode cX1_becomeChance 134 = .ok (.iload 6, 2) := by decide +kernel
theorem dX1_becomeChance_136 : decode cX1_becomeChance 136 = .ok (.invokevirtual 56, 3) := by decide +kernel
theorem dX1_becomeChance_139 : decode cX1_becomeChance 139 = .ok (.iload 10, 2) := by decide +kernel
theorem dX1_becomeChance_141 : decode cX1_becomeChance 141 = .ok (.isub, 1) := by decide +kernel
theorem dX1_becomeChance_142 : decode cX1_becomeChance 142 = .ok (.invokestatic 59, 3) := by decide +kernel
theorem dX1_becomeChance_145 : decode cX1_becomeChance 145 = .ok (.ifCond .eq 36, 3) := by decide +kernel
theorem dX1_becomeChance_148 : decode cX1_becomeChance 148 = .ok (.iload 13, 2) := by decide +kernel
theorem dX1_becomeChance_150 : decode cX1_becomeChance 150 = .ok (.invokestatic 44, 3) := by decide +kernel
theorem dX1_becomeChance_153 : decode cX1_becomeChance 153 = .ok (.istore 15, 2) := by decide +kernel
theorem dX1_becomeChance_155 : decode cX1_becomeChance 155 = .ok (.lload 11, 2) := by decide +kernel
theorem dX1_becomeChance_157 : decode cX1_becomeChance 157 = .ok (.iload 4, 2) := by decide +kernel
theorem dX1_becomeChance_159 : decode cX1_becomeChance 159 = .ok (.iload 8, 2) := by decide +kernel
theorem dX1_becomeChance_161 : decode cX1_becomeChance 161 = .ok (.iload 15, 2) := by decide +kernel
theorem dX1_becomeChance_163 : decode cX1_becomeChance 163 = .ok (.isub, 1) := by decide +kernel
theorem dX1_becomeChance_164 : decode cX1_becomeChance 164 = .ok (.invokestatic 65, 3) := by decide +kernel
theorem dX1_becomeChance_167 : decode cX1_becomeChance 167 = .ok (.bipush 10, 2) := by decide +kernel
theorem dX1_becomeChance_169 : decode cX1_becomeChance 169 = .ok (.iload 4, 2) := by decide +kernel
theorem dX1_becomeChance_171 : decode cX1_becomeChance 171 = .ok (.isub, 1) := by decide +kernel
theorem dX1_becomeChance_172 : decode cX1_becomeChance 172 = .ok (.iload 15, 2) := by decide +kernel
theorem dX1_becomeChance_174 : decode cX1_becomeChance 174 = .ok (.invokestatic 65, 3) := by decide +kernel
theorem dX1_becomeChance_177 : decode cX1_becomeChance 177 = .ok (.lmul, 1) := by decide +kernel
theorem dX1_becomeChance_178 : decode cX1_becomeChance 178 = .ok (.ladd, 1) := by decide +kernel
theorem dX1_becomeChance_179 : decode cX1_becomeChance 179 = .ok (.lstore 11, 2) := by decide +kernel
theorem dX1_becomeChance_181 : decode cX1_becomeChance 181 = .ok (.iinc 13 1, 3) := by decide +kernel
theorem dX1_becomeChance_184 : decode cX1_becomeChance 184 = .ok (.goto (-96), 3) := by decide +kernel
theorem dX1_becomeChance_187 : decode cX1_becomeChance 187 = .ok (.aload_n 0, 1) := by decide +kernel
theorem dX1_becomeChance_188 : decode cX1_becomeChance 188 = .ok (.lload 11, 2) := by decide +kernel
theorem dX1_becomeChance_190 : decode cX1_becomeChance 190 = .ok (.bipush 10, 2) := by decide +kernel
theorem dX1_becomeChance_192 : decode cX1_becomeChance 192 = .ok (.iload 8, 2) := by decide +kernel
theorem dX1_becomeChance_194 : decode cX1_becomeChance 194 = .ok (.invokestatic 65, 3) := by decide +kernel
theorem dX1_becomeChance_197 : decode cX1_becomeChance 197 = .ok (.invokevirtual 36, 3) := by decide +kernel
theorem dX1_becomeChance_200 : decode cX1_becomeChance 200 = .ok (.return_, 1) := by decide +kernel
theorem dX1_become_0 : decode cX1_become 0 = .ok (.lload_n 1, 1) := by decide +kernel
theorem dX1_become_1 : decode cX1_become 1 = .ok (.lload_n 3, 1) := by decide +kernel
theorem dX1_become_2 : decode cX1_become 2 = .ok (.invokestatic 69, 3) := by decide +kernel
theorem dX1_become_5 : decode cX1_become 5 = .ok (.lstore 5, 2) := by decide +kernel
theorem dX1_become_7 : decode cX1_become 7 = .ok (.lload 5, 2) := by decide +kernel
theorem dX1_become_9 : decode cX1_become 9 = .ok (.lconst 0, 1) := by decide +kernel
theorem dX1_become_10 : decode cX1_become 10 = .ok (.lcmp, 1) := by decide +kernel
theorem dX1_become_11 : decode cX1_become 11 = .ok (.ifCond .le 19, 3) := by decide +kernel
theorem dX1_become_14 : decode cX1_become 14 = .ok (.aload_n 0, 1) := by decide +kernel
theorem dX1_become_15 : decode cX1_become 15 = .ok (.lload_n 1, 1) := by decide +kernel
theorem dX1_become_16 : decode cX1_become 16 = .ok (.lload 5, 2) := by decide +kernel
theorem dX1_become_18 : decode cX1_become 18 = .ok (.ldiv, 1) := by decide +kernel
theorem dX1_become_19 : decode cX1_become 19 = .ok (.putfield 9, 3) := by decide +kernel
theorem dX1_become_22 : decode cX1_become 22 = .ok (.aload_n 0, 1) := by decide +kernel
theorem dX1_become_23 : decode cX1_become 23 = .ok (.lload_n 3, 1) := by decide +kernel
theorem dX1_become_24 : decode cX1_become 24 = .ok (.lload 5, 2) := by decide +kernel
theorem dX1_become_26 : decode cX1_become 26 = .ok (.ldiv, 1) := by decide +kernel
theorem dX1_become_27 : decode cX1_become 27 = .ok (.putfield 15, 3) := by decide +kernel
theorem dX1_become_30 : decode cX1_become 30 = .ok (.return_, 1) := by decide +kernel
theorem dX1_commonDivisor_0 : decode cX1_commonDivisor 0 = .ok (.lload_n 0, 1) := by decide +kernel
theorem dX1_commonDivisor_1 : decode cX1_commonDivisor 1 = .ok (.lstore 4, 2) := by decide +kernel
theorem dX1_commonDivisor_3 : decode cX1_commonDivisor 3 = .ok (.lload_n 2, 1) := by decide +kernel
theorem dX1_commonDivisor_4 : decode cX1_commonDivisor 4 = .ok (.lstore 6, 2) := by decide +kernel
theorem dX1_commonDivisor_6 : decode cX1_commonDivisor 6 = .ok (.iconst 0, 1) := by decide +kernel
theorem dX1_commonDivisor_7 : decode cX1_commonDivisor 7 = .ok (.istore 8, 2) := by decide +kernel
theorem dX1_commonDivisor_9 : decode cX1_commonDivisor 9 = .ok (.iload 8, 2) := by decide +kernel
theorem dX1_commonDivisor_11 : decode cX1_commonDivisor 11 = .ok (.sipush 200, 3) := by decide +kernel
theorem dX1_commonDivisor_14 : decode cX1_commonDivisor 14 = .ok (.if_icmp .ge 31, 3) := by decide +kernel
theorem dX1_commonDivisor_17 : decode cX1_commonDivisor 17 = .ok (.lload 6, 2) := by decide +kernel
theorem dX1_commonDivisor_19 : decode cX1_commonDivisor 19 = .ok (.lconst 0, 1) := by decide +kernel
theorem dX1_commonDivisor_20 : decode cX1_commonDivisor 20 = .ok (.lcmp, 1) := by decide +kernel
theorem dX1_commonDivisor_21 : decode cX1_commonDivisor 21 = .ok (.ifCond .eq 24, 3) := by decide +kernel
theorem dX1_commonDivisor_24 : decode cX1_commonDivisor 24 = .ok (.lload 4, 2) := by decide +kernel
theorem dX1_commonDivisor_26 : decode cX1_commonDivisor 26 = .ok (.lload 6, 2) := by decide +kernel
theorem dX1_commonDivisor_28 : decode cX1_commonDivisor 28 = .ok (.lrem, 1) := by decide +kernel
theorem dX1_commonDivisor_29 : decode cX1_commonDivisor 29 = .ok (.lstore 9, 2) := by decide +kernel
theorem dX1_commonDivisor_31 : decode cX1_commonDivisor 31 = .ok (.lload 6, 2) := by decide +kernel
theorem dX1_commonDivisor_33 : decode cX1_commonDivisor 33 = .ok (.lstore 4, 2) := by decide +kernel
theorem dX1_commonDivisor_35 : decode cX1_commonDivisor 35 = .ok (.lload 9, 2) := by decide +kernel
theorem dX1_commonDivisor_37 : decode cX1_commonDivisor 37 = .ok (.lstore 6, 2) := by decide +kernel
theorem dX1_commonDivisor_39 : decode cX1_commonDivisor 39 = .ok (.iinc 8 1, 3) := by decide +kernel
theorem dX1_commonDivisor_42 : decode cX1_commonDivisor 42 = .ok (.goto (-33), 3) := by decide +kernel
theorem dX1_commonDivisor_45 : decode cX1_commonDivisor 45 = .ok (.lload 4, 2) := by decide +kernel
theorem dX1_commonDivisor_47 : decode cX1_commonDivisor 47 = .ok (.lreturn, 1) := by decide +kernel
theorem dX1_power_0 : decode cX1_power 0 = .ok (.lconst 1, 1) := by decide +kernel
theorem dX1_power_1 : decode cX1_power 1 = .ok (.lstore_n 2, 1) := by decide +kernel
theorem dX1_power_2 : decode cX1_power 2 = .ok (.iconst 0, 1) := by decide +kernel
theorem dX1_power_3 : decode cX1_power 3 = .ok (.istore 4, 2) := by decide +kernel
theorem dX1_power_5 : decode cX1_power 5 = .ok (.iload 4, 2) := by decide +kernel
theorem dX1_power_7 : decode cX1_power 7 = .ok (.iload_n 1, 1) := by decide +kernel
theorem dX1_power_8 : decode cX1_power 8 = .ok (.if_icmp .ge 14, 3) := by decide +kernel
theorem dX1_power_11 : decode cX1_power 11 = .ok (.lload_n 2, 1) := by decide +kernel
theorem dX1_power_12 : decode cX1_power 12 = .ok (.iload_n 0, 1) := by decide +kernel
theorem dX1_power_13 : decode cX1_power 13 = .ok (.i2l, 1) := by decide +kernel
theorem dX1_power_14 : decode cX1_power 14 = .ok (.lmul, 1) := by decide +kernel
theorem dX1_power_15 : decode cX1_power 15 = .ok (.lstore_n 2, 1) := by decide +kernel
theorem dX1_power_16 : decode cX1_power 16 = .ok (.iinc 4 1, 3) := by decide +kernel
theorem dX1_power_19 : decode cX1_power 19 = .ok (.goto (-14), 3) := by decide +kernel
theorem dX1_power_22 : decode cX1_power 22 = .ok (.lload_n 2, 1) := by decide +kernel
theorem dX1_power_23 : decode cX1_power 23 = .ok (.lreturn, 1) := by decide +kernel
theorem dX2_init_0 : decode cX2_init 0 = .ok (.aload_n 0, 1) := by decide +kernel
theorem dX2_init_1 : decode cX2_init 1 = .ok (.invokespecial 5, 3) := by decide +kernel
theorem dX2_init_4 : decode cX2_init 4 = .ok (.aload_n 0, 1) := by decide +kernel
theorem dX2_init_5 : decode cX2_init 5 = .ok (.new 11, 3) := by decide +kernel
theorem dX2_init_8 : decode cX2_init 8 = .ok (.dup, 1) := by decide +kernel
theorem dX2_init_9 : decode cX2_init 9 = .ok (.bipush 8, 2) := by decide +kernel
theorem dX2_init_11 : decode cX2_init 11 = .ok (.iconst 3, 1) := by decide +kernel
theorem dX2_init_12 : decode cX2_init 12 = .ok (.invokespecial 13, 3) := by decide +kernel
theorem dX2_init_15 : decode cX2_init 15 = .ok (.putfield 16, 3) := by decide +kernel
theorem dX2_init_18 : decode cX2_init 18 = .ok (.aload_n 0, 1) := by decide +kernel
theorem dX2_init_19 : decode cX2_init 19 = .ok (.new 11, 3) := by decide +kernel
theorem dX2_init_22 : decode cX2_init 22 = .ok (.dup, 1) := by decide +kernel
theorem dX2_init_23 : decode cX2_init 23 = .ok (.iconst 3, 1) := by decide +kernel
theorem dX2_init_24 : decode cX2_init 24 = .ok (.iconst 3, 1) := by decide +kernel
theorem dX2_init_25 : decode cX2_init 25 = .ok (.invokespecial 13, 3) := by decide +kernel
theorem dX2_init_28 : decode cX2_init 28 = .ok (.putfield 20, 3) := by decide +kernel
theorem dX2_init_31 : decode cX2_init 31 = .ok (.aload_n 0, 1) := by decide +kernel
theorem dX2_init_32 : decode cX2_init 32 = .ok (.new 11, 3) := by decide +kernel
theorem dX2_init_35 : decode cX2_init 35 = .ok (.dup, 1) := by decide +kernel
theorem dX2_init_36 : decode cX2_init 36 = .ok (.iconst 4, 1) := by decide +kernel
theorem dX2_init_37 : decode cX2_init 37 = .ok (.iconst 1, 1) := by decide +kernel
theorem dX2_init_38 : decode cX2_init 38 = .ok (.invokespecial 13, 3) := by decide +kernel
theorem dX2_init_41 : decode cX2_init 41 = .ok (.putfield 23, 3) := by decide +kernel
theorem dX2_init_44 : decode cX2_init 44 = .ok (.aload_n 0, 1) := by decide +kernel
theorem dX2_init_45 : decode cX2_init 45 = .ok (.new 11, 3) := by decide +kernel
theorem dX2_init_48 : decode cX2_init 48 = .ok (.dup, 1) := by decide +kernel
theorem dX2_init_49 : decode cX2_init 49 = .ok (.iconst 5, 1) := by decide +kernel
theorem dX2_init_50 : decode cX2_init 50 = .ok (.iconst 3, 1) := by decide +kernel
theorem dX2_init_51 : decode cX2_init 51 = .ok (.invokespecial 13, 3) := by decide +kernel
theorem dX2_init_54 : decode cX2_init 54 = .ok (.putfield 26, 3) := by decide +kernel
theorem dX2_init_57 : decode cX2_init 57 = .ok (.aload_n 0, 1) := by decide +kernel
theorem dX2_init_58 : decode cX2_init 58 = .ok (.new 11, 3) := by decide +kernel
theorem dX2_init_61 : decode cX2_init 61 = .ok (.dup, 1) := by decide +kernel
theorem dX2_init_62 : decode cX2_init 62 = .ok (.bipush 6, 2) := by decide +kernel
theorem dX2_init_64 : decode cX2_init 64 = .ok (.iconst 4, 1) := by decide +kernel
theorem dX2_init_65 : decode cX2_init 65 = .ok (.invokespecial 13, 3) := by decide +kernel
theorem dX2_init_68 : decode cX2_init 68 = .ok (.putfield 29, 3) := by decide +kernel
theorem dX2_init_71 : decode cX2_init 71 = .ok (.aload_n 0, 1) := by decide +kernel
theorem dX2_init_72 : decode cX2_init 72 = .ok (.new 11, 3) := by decide +kernel
theorem dX2_init_75 : decode cX2_init 75 = .ok (.dup, 1) := by decide +kernel
theorem dX2_init_76 : decode cX2_init 76 = .ok (.bipush 6, 2) := by decide +kernel
theorem dX2_init_78 : decode cX2_init 78 = .ok (.iconst 4, 1) := by decide +kernel
theorem dX2_init_79 : decode cX2_init 79 = .ok (.invokespecial 13, 3) := by decide +kernel
theorem dX2_init_82 : decode cX2_init 82 = .ok (.putfield 32, 3) := by decide +kernel
theorem dX2_init_85 : decode cX2_init 85 = .ok (.aload_n 0, 1) := by decide +kernel
theorem dX2_init_86 : decode cX2_init 86 = .ok (.new 11, 3) := by decide +kernel
theorem dX2_init_89 : decode cX2_init 89 = .ok (.dup, 1) := by decide +kernel
theorem dX2_init_90 : decode cX2_init 90 = .ok (.bipush 8, 2) := by decide +kernel
theorem dX2_init_92 : decode cX2_init 92 = .ok (.bipush 11, 2) := by decide +kernel
theorem dX2_init_94 : decode cX2_init 94 = .ok (.invokespecial 13, 3) := by decide +kernel
theorem dX2_init_97 : decode cX2_init 97 = .ok (.putfield 35, 3) := by decide +kernel
theorem dX2_init_100 : decode cX2_init 100 = .ok (.return_, 1) := by decide +kernel
theorem dX2_reset_0 : decode cX2_reset 0 = .ok (.aload_n 0, 1) := by decide +kernel
theorem dX2_reset_1 : decode cX2_reset 1 = .ok (.iconst 0, 1) := by decide +kernel
theorem dX2_reset_2 : decode cX2_reset 2 = .ok (.putfield 38, 3) := by decide +kernel
theorem dX2_reset_5 : decode cX2_reset 5 = .ok (.aload_n 0, 1) := by decide +kernel
theorem dX2_reset_6 : decode cX2_reset 6 = .ok (.getfield 16, 3) := by decide +kernel
theorem dX2_reset_9 : decode cX2_reset 9 = .ok (.invokevirtual 42, 3) := by decide +kernel
theorem dX2_reset_12 : decode cX2_reset 12 = .ok (.pop, 1) := by decide +kernel
theorem dX2_reset_13 : decode cX2_reset 13 = .ok (.aload_n 0, 1) := by decide +kernel
theorem dX2_reset_14 : decode cX2_reset 14 = .ok (.getfield 20, 3) := by decide +kernel
theorem dX2_reset_17 : decode cX2_reset 17 = .ok (.invokevirtual 42, 3) := by decide +kernel
theorem dX2_reset_20 : decode cX2_reset 20 = .ok (.pop, 1) := by decide +kernel
theorem dX2_reset_21 : decode cX2_reset 21 = .ok (.iconst 0, 1) := by decide +kernel
theorem dX2_reset_22 : decode cX2_reset 22 = .ok (.istore_n 1, 1) := by decide +kernel
theorem dX2_reset_23 : decode cX2_reset 23 = .ok (.iload_n 1, 1) := by decide +kernel
theorem dX2_reset_24 : decode cX2_reset 24 = .ok (.iconst 4, 1) := by decide +kernel
theorem dX2_reset_25 : decode cX2_reset 25 = .ok (.if_icmp .ge 14, 3) := by decide +kernel
theorem dX2_reset_28 : decode cX2_reset 28 = .ok (.aload_n 0, 1) := by decide +kernel
theorem dX2_reset_29 : decode cX2_reset 29 = .ok (.iload_n 1, 1) := by decide +kernel
theorem dX2_reset_30 : decode cX2_reset 30 = .ok (.invokevirtual 46, 3) := by decide +kernel
theorem dX2_reset_33 : decode cX2_reset 33 = .ok (.iinc 1 1, 3) := by decide +kernel
theorem dX2_reset_36 : decode cX2_reset 36 = .ok (.goto (-13), 3) := by decide +kernel
theorem dX2_reset_39 : decode cX2_reset 39 = .ok (.aload_n 0, 1) := by decide +kernel
theorem dX2_reset_40 : decode cX2_reset 40 = .ok (.getfield 26, 3) := by decide +kernel
theorem dX2_reset_43 : decode cX2_reset 43 = .ok (.invokevirtual 42, 3) := by decide +kernel
theorem dX2_reset_46 : decode cX2_reset 46 = .ok (.pop, 1) := by decide +kernel
theorem dX2_reset_47 : decode cX2_reset 47 = .ok (.aload_n 0, 1) := by decide +kernel
theorem dX2_reset_48 : decode cX2_reset 48 = .ok (.getfield 29, 3) := by decide +kernel
theorem dX2_reset_51 : decode cX2_reset 51 = .ok (.invokevirtual 42, 3) := by decide +kernel
theorem dX2_reset_54 : decode cX2_reset 54 = .ok (.pop, 1) := by decide +kernel
theorem dX2_reset_55 : decode cX2_reset 55 = .ok (.aload_n 0, 1) := by decide +kernel
theorem dX2_reset_56 : decode cX2_reset 56 = .ok (.getfield 32, 3) := by decide +kernel
theorem dX2_reset_59 : decode cX2_reset 59 = .ok (.invokevirtual 42, 3) := by decide +kernel
theorem dX2_reset_62 : decode cX2_reset 62 = .ok (.pop, 1) := by decide +kernel
theorem dX2_reset_63 : decode cX2_reset 63 = .ok (.aload_n 0, 1) := by decide +kernel
theorem dX2_reset_64 : decode cX2_reset 64 = .ok (.getfield 35, 3) := by decide +kernel
theorem dX2_reset_67 : decode cX2_reset 67 = .ok (.invokevirtual 42, 3) := by decide +kernel
theorem dX2_reset_70 : decode cX2_reset 70 = .ok (.pop, 1) := by decide +kernel
theorem dX2_reset_71 : decode cX2_reset 71 = .ok (.return_, 1) := by decide +kernel
theorem dX2_copy_0 : decode cX2_copy 0 = .ok (.aload_n 1, 1) := by decide +kernel
theorem dX2_copy_1 : decode cX2_copy 1 = .ok (.ifnonnull 4, 3) := by decide +kernel
theorem dX2_copy_4 : decode cX2_copy 4 = .ok (.return_, 1) := by decide +kernel
theorem dX2_copy_5 : decode cX2_copy 5 = .ok (.aload_n 0, 1) := by decide +kernel
theorem dX2_copy_6 : decode cX2_copy 6 = .ok (.aload_n 1, 1) := by decide +kernel
theorem dX2_copy_7 : decode cX2_copy 7 = .ok (.getfield 38, 3) := by decide +kernel
theorem dX2_copy_10 : decode cX2_copy 10 = .ok (.putfield 38, 3) := by decide +kernel
theorem dX2_copy_13 : decode cX2_copy 13 = .ok (.aload_n 0, 1) := by decide +kernel
theorem dX2_copy_14 : decode cX2_copy 14 = .ok (.getfield 16, 3) := by decide +kernel
theorem dX2_copy_17 : decode cX2_copy 17 = .ok (.aload_n 1, 1) := by decide +kernel
theorem dX2_copy_18 : decode cX2_copy 18 = .ok (.getfield 16, 3) := by decide +kernel
theorem dX2_copy_21 : decode cX2_copy 21 = .ok (.invokevirtual 50, 3) := by decide +kernel
theorem dX2_copy_24 : decode cX2_copy 24 = .ok (.aload_n 0, 1) := by decide +kernel
theorem dX2_copy_25 : decode cX2_copy 25 = .ok (.getfield 20, 3) := by decide +kernel
theorem dX2_copy_28 : decode cX2_copy 28 = .ok (.aload_n 1, 1) := by decide +kernel
theorem dX2_copy_29 : decode cX2_copy 29 = .ok (.getfield 20, 3) := by decide +kernel
theorem dX2_copy_32 : decode cX2_copy 32 = .ok (.invokevirtual 50, 3) := by decide +kernel
theorem dX2_copy_35 : decode cX2_copy 35 = .ok (.aload_n 0, 1) := by decide +kernel
theorem dX2_copy_36 : decode cX2_copy 36 = .ok (.getfield 23, 3) := by decide +kernel
theorem dX2_copy_39 : decode cX2_copy 39 = .ok (.aload_n 1, 1) := by decide +kernel
theorem dX2_copy_40 : decode cX2_copy 40 = .ok (.getfield 23, 3) := by decide +kernel
theorem dX2_copy_43 : decode cX2_copy 43 = .ok (.invokevirtual 50, 3) := by decide +kernel
theorem dX2_copy_46 : decode cX2_copy 46 = .ok (.aload_n 0, 1) := by decide +kernel
theorem dX2_copy_47 : decode cX2_copy 47 = .ok (.getfield 26, 3) := by decide +kernel
theorem dX2_copy_50 : decode cX2_copy 50 = .ok (.aload_n 1, 1) := by decide +kernel
theorem dX2_copy_51 : decode cX2_copy 51 = .ok (.getfield 26, 3) := by decide +kernel
theorem dX2_copy_54 : decode cX2_copy 54 = .ok (.invokevirtual 50, 3) := by decide +kernel
theorem dX2_copy_57 : decode cX2_copy 57 = .ok (.aload_n 0, 1) := by decide +kernel
theorem dX2_copy_58 : decode cX2_copy 58 = .ok (.getfield 29, 3) := by decide +kernel
theorem dX2_copy_61 : decode cX2_copy 61 = .ok (.aload_n 1, 1) := by decide +kernel
theorem dX2_copy_62 : decode cX2_copy 62 = .ok (.getfield 29, 3) := by decide +kernel
theorem dX2_copy_65 : decode cX2_copy 65 = .ok (.invokevirtual 50, 3) := by decide +kernel
theorem dX2_copy_68 : decode cX2_copy 68 = .ok (.aload_n 0, 1) := by decide +kernel
theorem dX2_copy_69 : decode cX2_copy 69 = .ok (.getfield 32, 3) := by decide +kernel
theorem dX2_copy_72 : decode cX2_copy 72 = .ok (.aload_n 1, 1) := by decide +kernel
theorem dX2_copy_73 : decode cX2_copy 73 = .ok (.getfield 32, 3) := by decide +kernel
theorem dX2_copy_76 : decode cX2_copy 76 = .ok (.invokevirtual 50, 3) := by decide +kernel
theorem dX2_copy_79 : decode cX2_copy 79 = .ok (.aload_n 0, 1) := by decide +kernel
theorem dX2_copy_80 : decode cX2_copy 80 = .ok (.getfield 35, 3) := by decide +kernel
theorem dX2_copy_83 : decode cX2_copy 83 = .ok (.aload_n 1, 1) := by decide +kernel
theorem dX2_copy_84 : decode cX2_copy 84 = .ok (.getfield 35, 3) := by decide +kernel
theorem dX2_copy_87 : decode cX2_copy 87 = .ok (.invokevirtual 50, 3) := by decide +kernel
theorem dX2_copy_90 : decode cX2_copy 90 = .ok (.return_, 1) := by decide +kernel
theorem dX2_addSaying_0 : decode cX2_addSaying 0 = .ok (.aload_n 0, 1) := by decide +kernel
theorem dX2_addSaying_1 : decode cX2_addSaying 1 = .ok (.getfield 35, 3) := by decide +kernel
theorem dX2_addSaying_4 : decode cX2_addSaying 4 = .ok (.invokevirtual 42, 3) := by decide +kernel
theorem dX2_addSaying_7 : decode cX2_addSaying 7 = .ok (.pop, 1) := by decide +kernel
theorem dX2_addSaying_8 : decode cX2_addSaying 8 = .ok (.aload_n 0, 1) := by decide +kernel
theorem dX2_addSaying_9 : decode cX2_addSaying 9 = .ok (.getfield 16, 3) := by decide +kernel
theorem dX2_addSaying_12 : decode cX2_addSaying 12 = .ok (.iload_n 1, 1) := by decide +kernel
theorem dX2_addSaying_13 : decode cX2_addSaying 13 = .ok (.iload_n 2, 1) := by decide +kernel
theorem dX2_addSaying_14 : decode cX2_addSaying 14 = .ok (.iload_n 3, 1) := by decide +kernel
theorem dX2_addSaying_15 : decode cX2_addSaying 15 = .ok (.iconst 0, 1) := by decide +kernel
theorem dX2_addSaying_16 : decode cX2_addSaying 16 = .ok (.invokevirtual 54, 3) := by decide +kernel
theorem dX2_addSaying_19 : decode cX2_addSaying 19 = .ok (.ireturn, 1) := by decide +kernel
theorem dX2_addListener_0 : decode cX2_addListener 0 = .ok (.aload_n 0, 1) := by decide +kernel
theorem dX2_addListener_1 : decode cX2_addListener 1 = .ok (.getfield 35, 3) := by decide +kernel
theorem dX2_addListener_4 : decode cX2_addListener 4 = .ok (.invokevirtual 42, 3) := by decide +kernel
theorem dX2_addListener_7 : decode cX2_addListener 7 = .ok (.pop, 1) := by decide +kernel
theorem dX2_addListener_8 : decode cX2_addListener 8 = .ok (.aload_n 0, 1) := by decide +kernel
theorem dX2_addListener_9 : decode cX2_addListener 9 = .ok (.getfield 20, 3) := by decide +kernel
theorem dX2_addListener_12 : decode cX2_addListener 12 = .ok (.iload_n 1, 1) := by decide +kernel
theorem dX2_addListener_13 : decode cX2_addListener 13 = .ok (.iload_n 2, 1) := by decide +kernel
theorem dX2_addListener_14 : decode cX2_addListener 14 = .ok (.iconst 0, 1) := by decide +kernel
theorem dX2_addListener_15 : decode cX2_addListener 15 = .ok (.iconst 0, 1) := by decide +kernel
theorem dX2_addListener_16 : decode cX2_addListener 16 = .ok (.invokevirtual 54, 3) := by decide +kernel
theorem dX2_addListener_19 : decode cX2_addListener 19 = .ok (.ireturn, 1) := by decide +kernel
theorem dX2_strip_0 : decode cX2_strip 0 = .ok (.aload_n 0, 1) := by decide +kernel
theorem dX2_strip_1 : decode cX2_strip 1 = .ok (.getfield 23, 3) := by decide +kernel
theorem dX2_strip_4 : decode cX2_strip 4 = .ok (.iload_n 1, 1) := by decide +kernel
theorem dX2_strip_5 : decode cX2_strip 5 = .ok (.iconst 0, 1) := by decide +kernel
theorem dX2_strip_6 : decode cX2_strip 6 = .ok (.aload_n 0, 1) := by decide +kernel
theorem dX2_strip_7 : decode cX2_strip 7 = .ok (.getfield 38, 3) := by decide +kernel
theorem dX2_strip_10 : decode cX2_strip 10 = .ok (.iconst 1, 1) := by decide +kernel
theorem dX2_strip_11 : decode cX2_strip 11 = .ok (.iadd, 1) := by decide +kernel
theorem dX2_strip_12 : decode cX2_strip 12 = .ok (.invokevirtual 58, 3) := by decide +kernel
theorem dX2_strip_15 : decode cX2_strip 15 = .ok (.return_, 1) := by decide +kernel
theorem dX2_paper_0 : decode cX2_paper 0 = .ok (.aload_n 0, 1) := by decide +kernel
theorem dX2_paper_1 : decode cX2_paper 1 = .ok (.getfield 23, 3) := by decide +kernel
theorem dX2_paper_4 : decode cX2_paper 4 = .ok (.iload_n 1, 1) := by decide +kernel
theorem dX2_paper_5 : decode cX2_paper 5 = .ok (.iconst 0, 1) := by decide +kernel
theorem dX2_paper_6 : decode cX2_paper 6 = .ok (.iconst 0, 1) := by decide +kernel
theorem dX2_paper_7 : decode cX2_paper 7 = .ok (.invokevirtual 58, 3) := by decide +kernel
theorem dX2_paper_10 : decode cX2_paper 10 = .ok (.return_, 1) := by decide +kernel
theorem dX2_isStripped_0 : decode cX2_isStripped 0 = .ok (.aload_n 0, 1) := by decide +kernel
theorem dX2_isStripped_1 : decode cX2_isStripped 1 = .ok (.getfield 23, 3) := by decide +kernel
theorem dX2_isStripped_4 : decode cX2_isStripped 4 = .ok (.iload_n 1, 1) := by decide +kernel
theorem dX2_isStripped_5 : decode cX2_isStripped 5 = .ok (.iconst 0, 1) := by decide +kernel
theorem dX2_isStripped_6 : decode cX2_isStripped 6 = .ok (.invokevirtual 62, 3) := by decide +kernel
theorem dX2_isStripped_9 : decode cX2_isStripped 9 = .ok (.ifCond .le 7, 3) := by decide +kernel
theorem dX2_isStripped_12 : decode cX2_isStripped 12 = .ok (.iconst 1, 1) := by decide +kernel
theorem dX2_isStripped_13 : decode cX2_isStripped 13 = .ok (.goto 4, 3) := by decide +kernel
theorem dX2_isStripped_16 : decode cX2_isStripped 16 = .ok (.iconst 0, 1) := by decide +kernel
theorem dX2_isStripped_17 : decode cX2_isStripped 17 = .ok (.ireturn, 1) := by decide +kernel
theorem dX2_strippedRooms_0 : decode cX2_strippedRooms 0 = .ok (.iconst 0, 1) := by decide +kernel
theorem dX2_strippedRooms_1 : decode cX2_strippedRooms 1 = .ok (.istore_n 1, 1) := by decide +kernel
theorem dX2_strippedRooms_2 : decode cX2_strippedRooms 2 = .ok (.iconst 0, 1) := by decide +kernel
theorem dX2_strippedRooms_3 : decode cX2_strippedRooms 3 = .ok (.istore_n 2, 1) := by decide +kernel
theorem dX2_strippedRooms_4 : decode cX2_strippedRooms 4 = .ok (.iload_n 2, 1) := by decide +kernel
theorem dX2_strippedRooms_5 : decode cX2_strippedRooms 5 = .ok (.iconst 4, 1) := by decide +kernel
theorem dX2_strippedRooms_6 : decode cX2_strippedRooms 6 = .ok (.if_icmp .ge 20, 3) := by decide +kernel
theorem dX2_strippedRooms_9 : decode cX2_strippedRooms 9 = .ok (.aload_n 0, 1) := by decide +kernel
theorem dX2_strippedRooms_10 : decode cX2_strippedRooms 10 = .ok (.iload_n 2, 1) := by decide +kernel
theorem dX2_strippedRooms_11 : decode cX2_strippedRooms 11 = .ok (.invokevirtual 66, 3) := by decide +kernel
theorem dX2_strippedRooms_14 : decode cX2_strippedRooms 14 = .ok (.ifCond .eq 6, 3) := by decide +kernel
theorem dX2_strippedRooms_17 : decode cX2_strippedRooms 17 = .ok (.iinc 1 1, 3) := by decide +kernel
theorem dX2_strippedRooms_20 : decode cX2_strippedRooms 20 = .ok (.iinc 2 1, 3) := by decide +kernel
theorem dX2_strippedRooms_23 : decode cX2_strippedRooms 23 = .ok (.goto (-19), 3) := by decide +kernel
theorem dX2_strippedRooms_26 : decode cX2_strippedRooms 26 = .ok (.iload_n 1, 1) := by decide +kernel
theorem dX2_strippedRooms_27 : decode cX2_strippedRooms 27 = .ok (.ireturn, 1) := by decide +kernel
theorem dX2_roomMinute_0 : decode cX2_roomMinute 0 = .ok (.aload_n 0, 1) := by decide +kernel
theorem dX2_roomMinute_1 : decode cX2_roomMinute 1 = .ok (.getfield 38, 3) := by decide +kernel
theorem dX2_roomMinute_4 : decode cX2_roomMinute 4 = .ok (.iload_n 2, 1) := by decide +kernel
theorem dX2_roomMinute_5 : decode cX2_roomMinute 5 = .ok (.iadd, 1) := by decide +kernel
theorem dX2_roomMinute_6 : decode cX2_roomMinute 6 = .ok (.iconst 1, 1) := by decide +kernel
theorem dX2_roomMinute_7 : decode cX2_roomMinute 7 = .ok (.iadd, 1) := by decide +kernel
theorem dX2_roomMinute_8 : decode cX2_roomMinute 8 = .ok (.aload_n 0, 1) := by decide +kernel
theorem dX2_roomMinute_9 : decode cX2_roomMinute 9 = .ok (.getfield 23, 3) := by decide +kernel
theorem dX2_roomMinute_12 : decode cX2_roomMinute 12 = .ok (.iload_n 1, 1) := by decide +kernel
theorem dX2_roomMinute_13 : decode cX2_roomMinute 13 = .ok (.iconst 0, 1) := by decide +kernel
theorem dX2_roomMinute_14 : decode cX2_roomMinute 14 = .ok (.invokevirtual 62, 3) := by decide +kernel
theorem dX2_roomMinute_17 : decode cX2_roomMinute 17 = .ok (.isub, 1) := by decide +kernel
theorem dX2_roomMinute_18 : decode cX2_roomMinute 18 = .ok (.istore_n 3, 1) := by decide +kernel
theorem dX2_roomMinute_19 : decode cX2_roomMinute 19 = .ok (.aload_n 0, 1) := by decide +kernel
theorem dX2_roomMinute_20 : decode cX2_roomMinute 20 = .ok (.iload_n 1, 1) := by decide +kernel
theorem dX2_roomMinute_21 : decode cX2_roomMinute 21 = .ok (.invokevirtual 66, 3) := by decide +kernel
theorem dX2_roomMinute_24 : decode cX2_roomMinute 24 = .ok (.ifCond .eq 14, 3) := by decide +kernel
theorem dX2_roomMinute_27 : decode cX2_roomMinute 27 = .ok (.iload_n 3, 1) := by decide +kernel
theorem dX2_roomMinute_28 : decode cX2_roomMinute 28 = .ok (.invokestatic 70, 3) := by decide +kernel
theorem dX2_roomMinute_31 : decode cX2_roomMinute 31 = .ok (.ifCond .eq 7, 3) := by decide +kernel
theorem dX2_roomMinute_34 : decode cX2_roomMinute 34 = .ok (.iload_n 3, 1) := by decide +kernel
theorem dX2_roomMinute_35 : decode cX2_roomMinute 35 = .ok (.goto 4, 3) := by decide +kernel
theorem dX2_roomMinute_38 : decode cX2_roomMinute 38 = .ok (.iconst (-1), 1) := by decide +kernel
theorem dX2_roomMinute_39 : decode cX2_roomMinute 39 = .ok (.ireturn, 1) := by decide +kernel
theorem dX2_loudness_0 : decode cX2_loudness 0 = .ok (.aload_n 0, 1) := by decide +kernel
theorem dX2_loudness_1 : decode cX2_loudness 1 = .ok (.getfield 16, 3) := by decide +kernel
theorem dX2_loudness_4 : decode cX2_loudness 4 = .ok (.iload_n 1, 1) := by decide +kernel
theorem dX2_loudness_5 : decode cX2_loudness 5 = .ok (.iconst 0, 1) := by decide +kernel
theorem dX2_loudness_6 : decode cX2_loudness 6 = .ok (.invokevirtual 62, 3) := by decide +kernel
theorem dX2_loudness_9 : decode cX2_loudness 9 = .ok (.aload_n 0, 1) := by decide +kernel
theorem dX2_loudness_10 : decode cX2_loudness 10 = .ok (.getfield 16, 3) := by decide +kernel
theorem dX2_loudness_13 : decode cX2_loudness 13 = .ok (.iload_n 1, 1) := by decide +kernel
theorem dX2_loudness_14 : decode cX2_loudness 14 = .ok (.iconst 2, 1) := by decide +kernel
theorem dX2_loudness_15 : decode cX2_loudness 15 = .ok (.invokevirtual 62, 3) := by decide +kernel
theorem dX2_loudness_18 : decode cX2_loudness 18 = .ok (.iload_n 2, 1) := by decide +kernel
theorem dX2_loudness_19 : decode cX2_loudness 19 = .ok (.invokestatic 73, 3) := by decide +kernel
theorem dX2_loudness_22 : decode cX2_loudness 22 = .ok (.ireturn, 1) := by decide +kernel
theorem dX2_loudnessOfSet_0 : decode cX2_loudnessOfSet 0 = .ok (.iconst 0, 1) := by decide +kernel
theorem dX2_loudnessOfSet_1 : decode cX2_loudnessOfSet 1 = .ok (.istore_n 3, 1) := by decide +kernel
theorem dX2_loudnessOfSet_2 : decode cX2_loudnessOfSet 2 = .ok (.iconst 0, 1) := by decide +kernel
theorem dX2_loudnessOfSet_3 : decode cX2_loudnessOfSet 3 = .ok (.istore 4, 2) := by decide +kernel
theorem dX2_loudnessOfSet_5 : decode cX2_loudnessOfSet 5 = .ok (.iload 4, 2) := by decide +kernel
theorem dX2_loudnessOfSet_7 : decode cX2_loudnessOfSet 7 = .ok (.aload_n 0, 1) := by decide +kernel
theorem dX2_loudnessOfSet_8 : decode cX2_loudnessOfSet 8 = .ok (.getfield 16, 3) := by decide +kernel
theorem dX2_loudnessOfSet_11 : decode cX2_loudnessOfSet 11 = .ok (.getfield 79, 3) := by decide +kernel
theorem dX2_loudnessOfSet_14 : decode cX2_loudnessOfSet 14 = .ok (.if_icmp .ge 45, 3) := by decide +kernel
theorem dX2_loudnessOfSet_17 : decode cX2_loudnessOfSet 17 = .ok (.iload_n 1, 1) := by decide +kernel
theorem dX2_loudnessOfSet_18 : decode cX2_loudnessOfSet 18 = .ok (.iload 4, 2) := by decide +kernel
theorem dX2_loudnessOfSet_20 : decode cX2_loudnessOfSet 20 = .ok (.invokestatic 82, 3) := by decide +kernel
theorem dX2_loudnessOfSet_23 : decode cX2_loudnessOfSet 23 = .ok (.ifCond .eq 30, 3) := by decide +kernel
theorem dX2_loudnessOfSet_26 : decode cX2_loudnessOfSet 26 = .ok (.iload_n 3, 1) := by decide +kernel
theorem dX2_loudnessOfSet_27 : decode cX2_loudnessOfSet 27 = .ok (.aload_n 0, 1) := by decide +kernel
theorem dX2_loudnessOfSet_28 : decode cX2_loudnessOfSet 28 = .ok (.getfield 16, 3) := by decide +kernel
theorem dX2_loudnessOfSet_31 : decode cX2_loudnessOfSet 31 = .ok (.iload 4, 2) := by decide +kernel
theorem dX2_loudnessOfSet_33 : decode cX2_loudnessOfSet 33 = .ok (.iconst 0, 1) := by decide +kernel
theorem dX2_loudnessOfSet_34 : decode cX2_loudnessOfSet 34 = .ok (.invokevirtual 62, 3) := by decide +kernel
theorem dX2_loudnessOfSet_37 : decode cX2_loudnessOfSet 37 = .ok (.aload_n 0, 1) := by decide +kernel
theorem dX2_loudnessOfSet_38 : decode cX2_loudnessOfSet 38 = .ok (.getfield 16, 3) := by decide +kernel
theorem dX2_loudnessOfSet_41 : decode cX2_loudnessOfSet 41 = .ok (.iload 4, 2) := by decide +kernel
theorem dX2_loudnessOfSet_43 : decode cX2_loudnessOfSet 43 = .ok (.iconst 2, 1) := by decide +kernel
theorem dX2_loudnessOfSet_44 : decode cX2_loudnessOfSet 44 = .ok (.invokevirtual 62, 3) := by decide +kernel
theorem dX2_loudnessOfSet_47 : decode cX2_loudnessOfSet 47 = .ok (.iload_n 2, 1) := by decide +kernel
theorem dX2_loudnessOfSet_48 : decode cX2_loudnessOfSet 48 = .ok (.invokestatic 73, 3) := by decide +kernel
theorem dX2_loudnessOfSet_51 : decode cX2_loudnessOfSet 51 = .ok (.iadd, 1) := by decide +kernel
theorem dX2_loudnessOfSet_52 : decode cX2_loudnessOfSet 52 = .ok (.istore_n 3, 1) := by decide +kernel
theorem dX2_loudnessOfSet_53 : decode cX2_loudnessOfSet 53 = .ok (.iinc 4 1, 3) := by decide +kernel
theorem dX2_loudnessOfSet_56 : decode cX2_loudnessOfSet 56 = .ok (.goto (-51), 3) := by decide +kernel
theorem dX2_loudnessOfSet_59 : decode cX2_loudnessOfSet 59 = .ok (.iload_n 3, 1) := by decide +kernel
theorem dX2_loudnessOfSet_60 : decode cX2_loudnessOfSet 60 = .ok (.ireturn, 1) := by decide +kernel
theorem dX2_roomLoudness_0 : decode cX2_roomLoudness 0 = .ok (.aload_n 0, 1) := by decide +kernel
theorem dX2_roomLoudness_1 : decode cX2_roomLoudness 1 = .ok (.iload_n 1, 1) := by decide +kernel
theorem dX2_roomLoudness_2 : decode cX2_roomLoudness 2 = .ok (.iconst 0, 1) := by decide +kernel
theorem dX2_roomLoudness_3 : decode cX2_roomLoudness 3 = .ok (.invokevirtual 86, 3) := by decide +kernel
theorem dX2_roomLoudness_6 : decode cX2_roomLoudness 6 = .ok (.istore_n 2, 1) := by decide +kernel
theorem dX2_roomLoudness_7 : decode cX2_roomLoudness 7 = .ok (.iload_n 2, 1) := by decide +kernel
theorem dX2_roomLoudness_8 : decode cX2_roomLoudness 8 = .ok (.iconst (-1), 1) := by decide +kernel
theorem dX2_roomLoudness_9 : decode cX2_roomLoudness 9 = .ok (.if_icmp .ne 7, 3) := by decide +kernel
theorem dX2_roomLoudness_12 : decode cX2_roomLoudness 12 = .ok (.iconst 0, 1) := by decide +kernel
theorem dX2_roomLoudness_13 : decode cX2_roomLoudness 13 = .ok (.goto 13, 3) := by decide +kernel
theorem dX2_roomLoudness_16 : decode cX2_roomLoudness 16 = .ok (.aload_n 0, 1) := by decide +kernel
theorem dX2_roomLoudness_17 : decode cX2_roomLoudness 17 = .ok (.aload_n 0, 1) := by decide +kernel
theorem dX2_roomLoudness_18 : decode cX2_roomLoudness 18 = .ok (.iload_n 1, 1) := by decide +kernel
theorem dX2_roomLoudness_19 : decode cX2_roomLoudness 19 = .ok (.invokevirtual 89, 3) := by decide +kernel
theorem dX2_roomLoudness_22 : decode cX2_roomLoudness 22 = .ok (.iload_n 2, 1) := by decide +kernel
theorem dX2_roomLoudness_23 : decode cX2_roomLoudness 23 = .ok (.invokevirtual 93, 3) := by decide +kernel
theorem dX2_roomLoudness_26 : decode cX2_roomLoudness 26 = .ok (.ireturn, 1) := by decide +kernel
theorem dX2_sayingsOfRoom_0 : decode cX2_sayingsOfRoom 0 = .ok (.iconst 0, 1) := by decide +kernel
theorem dX2_sayingsOfRoom_1 : decode cX2_sayingsOfRoom 1 = .ok (.istore_n 2, 1) := by decide +kernel
theorem dX2_sayingsOfRoom_2 : decode cX2_sayingsOfRoom 2 = .ok (.iconst 0, 1) := by decide +kernel
theorem dX2_sayingsOfRoom_3 : decode cX2_sayingsOfRoom 3 = .ok (.istore_n 3, 1) := by decide +kernel
theorem dX2_sayingsOfRoom_4 : decode cX2_sayingsOfRoom 4 = .ok (.iload_n 3, 1) := by decide +kernel
theorem dX2_sayingsOfRoom_5 : decode cX2_sayingsOfRoom 5 = .ok (.aload_n 0, 1) := by decide +kernel
theorem dX2_sayingsOfRoom_6 : decode cX2_sayingsOfRoom 6 = .ok (.getfield 16, 3) := by decide +kernel
theorem dX2_sayingsOfRoom_9 : decode cX2_sayingsOfRoom 9 = .ok (.getfield 79, 3) := by decide +kernel
theorem dX2_sayingsOfRoom_12 : decode cX2_sayingsOfRoom 12 = .ok (.if_icmp .ge 28, 3) := by decide +kernel
theorem dX2_sayingsOfRoom_15 : decode cX2_sayingsOfRoom 15 = .ok (.aload_n 0, 1) := by decide +kernel
theorem dX2_sayingsOfRoom_16 : decode cX2_sayingsOfRoom 16 = .ok (.getfield 16, 3) := by decide +kernel
theorem dX2_sayingsOfRoom_19 : decode cX2_sayingsOfRoom 19 = .ok (.iload_n 3, 1) := by decide +kernel
theorem dX2_sayingsOfRoom_20 : decode cX2_sayingsOfRoom 20 = .ok (.iconst 1, 1) := by decide +kernel
theorem dX2_sayingsOfRoom_21 : decode cX2_sayingsOfRoom 21 = .ok (.invokevirtual 62, 3) := by decide +kernel
theorem dX2_sayingsOfRoom_24 : decode cX2_sayingsOfRoom 24 = .ok (.iload_n 1, 1) := by decide +kernel
theorem dX2_sayingsOfRoom_25 : decode cX2_sayingsOfRoom 25 = .ok (.if_icmp .ne 9, 3) := by decide +kernel
theorem dX2_sayingsOfRoom_28 : decode cX2_sayingsOfRoom 28 = .ok (.iload_n 2, 1) := by decide +kernel
theorem dX2_sayingsOfRoom_29 : decode cX2_sayingsOfRoom 29 = .ok (.iconst 1, 1) := by decide +kernel
theorem dX2_sayingsOfRoom_30 : decode cX2_sayingsOfRoom 30 = .ok (.iload_n 3, 1) := by decide +kernel
theorem dX2_sayingsOfRoom_31 : decode cX2_sayingsOfRoom 31 = .ok (.ishl, 1) := by decide +kernel
theorem dX2_sayingsOfRoom_32 : decode cX2_sayingsOfRoom 32 = .ok (.ior, 1) := by decide +kernel
theorem dX2_sayingsOfRoom_33 : decode cX2_sayingsOfRoom 33 = .ok (.istore_n 2, 1) := by decide +kernel
theorem dX2_sayingsOfRoom_34 : decode cX2_sayingsOfRoom 34 = .ok (.iinc 3 1, 3) := by decide +kernel
theorem dX2_sayingsOfRoom_37 : decode cX2_sayingsOfRoom 37 = .ok (.goto (-33), 3) := by decide +kernel
theorem dX2_sayingsOfRoom_40 : decode cX2_sayingsOfRoom 40 = .ok (.iload_n 2, 1) := by decide +kernel
theorem dX2_sayingsOfRoom_41 : decode cX2_sayingsOfRoom 41 = .ok (.ireturn, 1) := by decide +kernel
theorem dX2_heardIn_0 : decode cX2_heardIn 0 = .ok (.iload_n 3, 1) := by decide +kernel
theorem dX2_heardIn_1 : decode cX2_heardIn 1 = .ok (.iconst (-1), 1) := by decide +kernel
theorem dX2_heardIn_2 : decode cX2_heardIn 2 = .ok (.if_icmp .ne 5, 3) := by decide +kernel
theorem dX2_heardIn_5 : decode cX2_heardIn 5 = .ok (.iconst 0, 1) := by decide +kernel
theorem dX2_heardIn_6 : decode cX2_heardIn 6 = .ok (.ireturn, 1) := by decide +kernel
theorem dX2_heardIn_7 : decode cX2_heardIn 7 = .ok (.aload_n 0, 1) := by decide +kernel
theorem dX2_heardIn_8 : decode cX2_heardIn 8 = .ok (.iload_n 2, 1) := by decide +kernel
theorem dX2_heardIn_9 : decode cX2_heardIn 9 = .ok (.invokevirtual 89, 3) := by decide +kernel
theorem dX2_heardIn_12 : decode cX2_heardIn 12 = .ok (.istore 4, 2) := by decide +kernel
theorem dX2_heardIn_14 : decode cX2_heardIn 14 = .ok (.aload_n 0, 1) := by decide +kernel
theorem dX2_heardIn_15 : decode cX2_heardIn 15 = .ok (.iload 4, 2) := by decide +kernel
theorem dX2_heardIn_17 : decode cX2_heardIn 17 = .ok (.iload_n 3, 1) := by decide +kernel
theorem dX2_heardIn_18 : decode cX2_heardIn 18 = .ok (.invokevirtual 93, 3) := by decide +kernel
theorem dX2_heardIn_21 : decode cX2_heardIn 21 = .ok (.istore 5, 2) := by decide +kernel
theorem dX2_heardIn_23 : decode cX2_heardIn 23 = .ok (.aload_n 0, 1) := by decide +kernel
theorem dX2_heardIn_24 : decode cX2_heardIn 24 = .ok (.getfield 20, 3) := by decide +kernel
theorem dX2_heardIn_27 : decode cX2_heardIn 27 = .ok (.iload_n 1, 1) := by decide +kernel
theorem dX2_heardIn_28 : decode cX2_heardIn 28 = .ok (.iconst 0, 1) := by decide +kernel
theorem dX2_heardIn_29 : decode cX2_heardIn 29 = .ok (.invokevirtual 62, 3) := by decide +kernel
theorem dX2_heardIn_32 : decode cX2_heardIn 32 = .ok (.istore 6, 2) := by decide +kernel
theorem dX2_heardIn_34 : decode cX2_heardIn 34 = .ok (.iconst 0, 1) := by decide +kernel
theorem dX2_heardIn_35 : decode cX2_heardIn 35 = .ok (.istore 7, 2) := by decide +kernel
theorem dX2_heardIn_37 : decode cX2_heardIn 37 = .ok (.iconst 0, 1) := by decide +kernel
theorem dX2_heardIn_38 : decode cX2_heardIn 38 = .ok (.istore 8, 2) := by decide +kernel
theorem dX2_heardIn_40 : decode cX2_heardIn 40 = .ok (.iload 8, 2) := by decide +kernel
theorem dX2_heardIn_42 : decode cX2_heardIn 42 = .ok (.aload_n 0, 1) := by decide +kernel
theorem dX2_heardIn_43 : decode cX2_heardIn 43 = .ok (.getfield 16, 3) := by decide +kernel
theorem dX2_heardIn_46 : decode cX2_heardIn 46 = .ok (.getfield 79, 3) := by decide +kernel
theorem dX2_heardIn_49 : decode cX2_heardIn 49 = .ok (.if_icmp .ge 52, 3) := by decide +kernel
theorem dX2_heardIn_52 : decode cX2_heardIn 52 = .ok (.aload_n 0, 1) := by decide +kernel
theorem dX2_heardIn_53 : decode cX2_heardIn 53 = .ok (.iload 8, 2) := by decide +kernel
theorem dX2_heardIn_55 : decode cX2_heardIn 55 = .ok (.iload_n 3, 1) := by decide +kernel
theorem dX2_heardIn_56 : decode cX2_heardIn 56 = .ok (.invokevirtual 96, 3) := by decide +kernel
theorem dX2_heardIn_59 : decode cX2_heardIn 59 = .ok (.istore 9, 2) := by decide +kernel
theorem dX2_heardIn_61 : decode cX2_heardIn 61 = .ok (.iload 4, 2) := by decide +kernel
theorem dX2_heardIn_63 : decode cX2_heardIn 63 = .ok (.iload 8, 2) := by decide +kernel
theorem dX2_heardIn_65 : decode cX2_heardIn 65 = .ok (.invokestatic 82, 3) := by decide +kernel
theorem dX2_heardIn_68 : decode cX2_heardIn 68 = .ok (.ifCond .eq 27, 3) := by decide +kernel
theorem dX2_heardIn_71 : decode cX2_heardIn 71 = .ok (.iload 6, 2) := by decide +kernel
theorem dX2_heardIn_73 : decode cX2_heardIn 73 = .ok (.iload 9, 2) := by decide +kernel
theorem dX2_heardIn_75 : decode cX2_heardIn 75 = .ok (.iload 5, 2) := by decide +kernel
theorem dX2_heardIn_77 : decode cX2_heardIn 77 = .ok (.iload 9, 2) := by decide +kernel
theorem dX2_heardIn_79 : decode cX2_heardIn 79 = .ok (.isub, 1) := by decide +kernel
theorem dX2_heardIn_80 : decode cX2_heardIn 80 = .ok (.invokestatic 98, 3) := by decide +kernel
theorem dX2_heardIn_83 : decode cX2_heardIn 83 = .ok (.ifCond .eq 12, 3) := by decide +kernel
theorem dX2_heardIn_86 : decode cX2_heardIn 86 = .ok (.iload 7, 2) := by decide +kernel
theorem dX2_heardIn_88 : decode cX2_heardIn 88 = .ok (.iconst 1, 1) := by decide +kernel
theorem dX2_heardIn_89 : decode cX2_heardIn 89 = .ok (.iload 8, 2) := by decide +kernel
theorem dX2_heardIn_91 : decode cX2_heardIn 91 = .ok (.ishl, 1) := by decide +kernel
theorem dX2_heardIn_92 : decode cX2_heardIn 92 = .ok (.ior, 1) := by decide +kernel
theorem dX2_heardIn_93 : decode cX2_heardIn 93 = .ok (.istore 7, 2) := by decide +kernel
theorem dX2_heardIn_95 : decode cX2_heardIn 95 = .ok (.iinc 8 1, 3) := by decide +kernel
theorem dX2_heardIn_98 : decode cX2_heardIn 98 = .ok (.goto (-58), 3) := by decide +kernel
theorem dX2_heardIn_101 : decode cX2_heardIn 101 = .ok (.iload 7, 2) := by decide +kernel
theorem dX2_heardIn_103 : decode cX2_heardIn 103 = .ok (.ireturn, 1) := by decide +kernel
theorem dX2_heardNow_0 : decode cX2_heardNow 0 = .ok (.aload_n 0, 1) := by decide +kernel
theorem dX2_heardNow_1 : decode cX2_heardNow 1 = .ok (.getfield 20, 3) := by decide +kernel
theorem dX2_heardNow_4 : decode cX2_heardNow 4 = .ok (.iload_n 1, 1) := by decide +kernel
theorem dX2_heardNow_5 : decode cX2_heardNow 5 = .ok (.iconst 1, 1) := by decide +kernel
theorem dX2_heardNow_6 : decode cX2_heardNow 6 = .ok (.invokevirtual 62, 3) := by decide +kernel
theorem dX2_heardNow_9 : decode cX2_heardNow 9 = .ok (.istore_n 2, 1) := by decide +kernel
theorem dX2_heardNow_10 : decode cX2_heardNow 10 = .ok (.aload_n 0, 1) := by decide +kernel
theorem dX2_heardNow_11 : decode cX2_heardNow 11 = .ok (.iload_n 1, 1) := by decide +kernel
theorem dX2_heardNow_12 : decode cX2_heardNow 12 = .ok (.iload_n 2, 1) := by decide +kernel
theorem dX2_heardNow_13 : decode cX2_heardNow 13 = .ok (.aload_n 0, 1) := by decide +kernel
theorem dX2_heardNow_14 : decode cX2_heardNow 14 = .ok (.iload_n 2, 1) := by decide +kernel
theorem dX2_heardNow_15 : decode cX2_heardNow 15 = .ok (.iconst 0, 1) := by decide +kernel
theorem dX2_heardNow_16 : decode cX2_heardNow 16 = .ok (.invokevirtual 86, 3) := by decide +kernel
theorem dX2_heardNow_19 : decode cX2_heardNow 19 = .ok (.invokevirtual 102, 3) := by decide +kernel
theorem dX2_heardNow_22 : decode cX2_heardNow 22 = .ok (.ireturn, 1) := by decide +kernel
theorem dX2_passMinutes_0 : decode cX2_passMinutes 0 = .ok (.iconst 0, 1) := by decide +kernel
theorem dX2_passMinutes_1 : decode cX2_passMinutes 1 = .ok (.istore_n 3, 1) := by decide +kernel
theorem dX2_passMinutes_2 : decode cX2_passMinutes 2 = .ok (.iload_n 3, 1) := by decide +kernel
theorem dX2_passMinutes_3 : decode cX2_passMinutes 3 = .ok (.iload_n 1, 1) := by decide +kernel
theorem dX2_passMinutes_4 : decode cX2_passMinutes 4 = .ok (.if_icmp .ge 100, 3) := by decide +kernel
theorem dX2_passMinutes_7 : decode cX2_passMinutes 7 = .ok (.aload_n 0, 1) := by decide +kernel
theorem dX2_passMinutes_8 : decode cX2_passMinutes 8 = .ok (.getfield 38, 3) := by decide +kernel
theorem dX2_passMinutes_11 : decode cX2_passMinutes 11 = .ok (.iload_n 2, 1) := by decide +kernel
theorem dX2_passMinutes_12 : decode cX2_passMinutes 12 = .ok (.if_icmp .ge 92, 3) := by decide +kernel
theorem dX2_passMinutes_15 : decode cX2_passMinutes 15 = .ok (.iconst 0, 1) := by decide +kernel
theorem dX2_passMinutes_16 : decode cX2_passMinutes 16 = .ok (.istore 4, 2) := by decide +kernel
theorem dX2_passMinutes_18 : decode cX2_passMinutes 18 = .ok (.iload 4, 2) := by decide +kernel
theorem dX2_passMinutes_20 : decode cX2_passMinutes 20 = .ok (.aload_n 0, 1) := by decide +kernel
theorem dX2_passMinutes_21 : decode cX2_passMinutes 21 = .ok (.getfield 20, 3) := by decide +kernel
theorem dX2_passMinutes_24 : decode cX2_passMinutes 24 = .ok (.getfield 79, 3) := by decide +kernel
theorem dX2_passMinutes_27 : decode cX2_passMinutes 27 = .ok (.if_icmp .ge 61, 3) := by decide +kernel
theorem dX2_passMinutes_30 : decode cX2_passMinutes 30 = .ok (.aload_n 0, 1) := by decide +kernel
theorem dX2_passMinutes_31 : decode cX2_passMinutes 31 = .ok (.getfield 20, 3) := by decide +kernel
theorem dX2_passMinutes_34 : decode cX2_passMinutes 34 = .ok (.iload 4, 2) := by decide +kernel
theorem dX2_passMinutes_36 : decode cX2_passMinutes 36 = .ok (.iconst 1, 1) := by decide +kernel
theorem dX2_passMinutes_37 : decode cX2_passMinutes 37 = .ok (.invokevirtual 62, 3) := by decide +kernel
theorem dX2_passMinutes_40 : decode cX2_passMinutes 40 = .ok (.istore 5, 2) := by decide +kernel
theorem dX2_passMinutes_42 : decode cX2_passMinutes 42 = .ok (.aload_n 0, 1) := by decide +kernel
theorem dX2_passMinutes_43 : decode cX2_passMinutes 43 = .ok (.iload 4, 2) := by decide +kernel
theorem dX2_passMinutes_45 : decode cX2_passMinutes 45 = .ok (.iload 5, 2) := by decide +kernel
theorem dX2_passMinutes_47 : decode cX2_passMinutes 47 = .ok (.aload_n 0, 1) := by decide +kernel
theorem dX2_passMinutes_48 : decode cX2_passMinutes 48 = .ok (.iload 5, 2) := by decide +kernel
theorem dX2_passMinutes_50 : decode cX2_passMinutes 50 = .ok (.iconst 0, 1) := by decide +kernel
theorem dX2_passMinutes_51 : decode cX2_passMinutes 51 = .ok (.invokevirtual 86, 3) := by decide +kernel
theorem dX2_passMinutes_54 : decode cX2_passMinutes 54 = .ok (.invokevirtual 102, 3) := by decide +kernel
theorem dX2_passMinutes_57 : decode cX2_passMinutes 57 = .ok (.istore 6, 2) := by decide +kernel
theorem dX2_passMinutes_59 : decode cX2_passMinutes 59 = .ok (.aload_n 0, 1) := by decide +kernel
theorem dX2_passMinutes_60 : decode cX2_passMinutes 60 = .ok (.getfield 20, 3) := by decide +kernel
theorem dX2_passMinutes_63 : decode cX2_passMinutes 63 = .ok (.iload 4, 2) := by decide +kernel
theorem dX2_passMinutes_65 : decode cX2_passMinutes 65 = .ok (.iconst 2, 1) := by decide +kernel
theorem dX2_passMinutes_66 : decode cX2_passMinutes 66 = .ok (.aload_n 0, 1) := by decide +kernel
theorem dX2_passMinutes_67 : decode cX2_passMinutes 67 = .ok (.getfield 20, 3) := by decide +kernel
theorem dX2_passMinutes_70 : decode cX2_passMinutes 70 = .ok (.iload 4, 2) := by decide +kernel
theorem dX2_passMinutes_72 : decode cX2_passMinutes 72 = .ok (.iconst 2, 1) := by decide +kernel
theorem dX2_passMinutes_73 : decode cX2_passMinutes 73 = .ok (.invokevirtual 62, 3) := by decide +kernel
theorem dX2_passMinutes_76 : decode cX2_passMinutes 76 = .ok (.iload 6, 2) := by decide +kernel
theorem dX2_passMinutes_78 : decode cX2_passMinutes 78 = .ok (.ior, 1) := by decide +kernel
theorem dX2_passMinutes_79 : decode cX2_passMinutes 79 = .ok (.invokevirtual 58, 3) := by decide +kernel
theorem dX2_passMinutes_82 : decode cX2_passMinutes 82 = .ok (.iinc 4 1, 3) := by decide +kernel
theorem dX2_passMinutes_85 : decode cX2_passMinutes 85 = .ok (.goto (-67), 3) := by decide +kernel
theorem dX2_passMinutes_88 : decode cX2_passMinutes 88 = .ok (.aload_n 0, 1) := by decide +kernel
theorem dX2_passMinutes_89 : decode cX2_passMinutes 89 = .ok (.dup, 1) := by decide +kernel
theorem dX2_passMinutes_90 : decode cX2_passMinutes 90 = .ok (.getfield 38, 3) := by decide +kernel
theorem dX2_passMinutes_93 : decode cX2_passMinutes 93 = .ok (.iconst 1, 1) := by decide +kernel
theorem dX2_passMinutes_94 : decode cX2_passMinutes 94 = .ok (.iadd, 1) := by decide +kernel
theorem dX2_passMinutes_95 : decode cX2_passMinutes 95 = .ok (.putfield 38, 3) := by decide +kernel
theorem dX2_passMinutes_98 : decode cX2_passMinutes 98 = .ok (.iinc 3 1, 3) := by decide +kernel
theorem dX2_passMinutes_101 : decode cX2_passMinutes 101 = .ok (.goto (-99), 3) := by decide +kernel
theorem dX2_passMinutes_104 : decode cX2_passMinutes 104 = .ok (.return_, 1) := by decide +kernel
theorem dX2_knownByAny_0 : decode cX2_knownByAny 0 = .ok (.iconst 0, 1) := by decide +kernel
theorem dX2_knownByAny_1 : decode cX2_knownByAny 1 = .ok (.istore_n 1, 1) := by decide +kernel
theorem dX2_knownByAny_2 : decode cX2_knownByAny 2 = .ok (.iconst 0, 1) := by decide +kernel
theorem dX2_knownByAny_3 : decode cX2_knownByAny 3 = .ok (.istore_n 2, 1) := by decide +kernel
theorem dX2_knownByAny_4 : decode cX2_knownByAny 4 = .ok (.iload_n 2, 1) := by decide +kernel
theorem dX2_knownByAny_5 : decode cX2_knownByAny 5 = .ok (.aload_n 0, 1) := by decide +kernel
theorem dX2_knownByAny_6 : decode cX2_knownByAny 6 = .ok (.getfield 20, 3) := by decide +kernel
theorem dX2_knownByAny_9 : decode cX2_knownByAny 9 = .ok (.getfield 79, 3) := by decide +kernel
theorem dX2_knownByAny_12 : decode cX2_knownByAny 12 = .ok (.if_icmp .ge 21, 3) := by decide +kernel
theorem dX2_knownByAny_15 : decode cX2_knownByAny 15 = .ok (.iload_n 1, 1) := by decide +kernel
theorem dX2_knownByAny_16 : decode cX2_knownByAny 16 = .ok (.aload_n 0, 1) := by decide +kernel
theorem dX2_knownByAny_17 : decode cX2_knownByAny 17 = .ok (.getfield 20, 3) := by decide +kernel
theorem dX2_knownByAny_20 : decode cX2_knownByAny 20 = .ok (.iload_n 2, 1) := by decide +kernel
theorem dX2_knownByAny_21 : decode cX2_knownByAny 21 = .ok (.iconst 2, 1) := by decide +kernel
theorem dX2_knownByAny_22 : decode cX2_knownByAny 22 = .ok (.invokevirtual 62, 3) := by decide +kernel
theorem dX2_knownByAny_25 : decode cX2_knownByAny 25 = .ok (.ior, 1) := by decide +kernel
theorem dX2_knownByAny_26 : decode cX2_knownByAny 26 = .ok (.istore_n 1, 1) := by decide +kernel
theorem dX2_knownByAny_27 : decode cX2_knownByAny 27 = .ok (.iinc 2 1, 3) := by decide +kernel
theorem dX2_knownByAny_30 : decode cX2_knownByAny 30 = .ok (.goto (-26), 3) := by decide +kernel
theorem dX2_knownByAny_33 : decode cX2_knownByAny 33 = .ok (.iload_n 1, 1) := by decide +kernel
theorem dX2_knownByAny_34 : decode cX2_knownByAny 34 = .ok (.invokestatic 105, 3) := by decide +kernel
theorem dX2_knownByAny_37 : decode cX2_knownByAny 37 = .ok (.ireturn, 1) := by decide +kernel
theorem dX2_remember_0 : decode cX2_remember 0 = .ok (.aload_n 0, 1) := by decide +kernel
theorem dX2_remember_1 : decode cX2_remember 1 = .ok (.getfield 35, 3) := by decide +kernel
theorem dX2_remember_4 : decode cX2_remember 4 = .ok (.invokevirtual 110, 3) := by decide +kernel
theorem dX2_remember_7 : decode cX2_remember 7 = .ok (.ifCond .eq 10, 3) := by decide +kernel
theorem dX2_remember_10 : decode cX2_remember 10 = .ok (.aload_n 0, 1) := by decide +kernel
theorem dX2_remember_11 : decode cX2_remember 11 = .ok (.getfield 35, 3) := by decide +kernel
theorem dX2_remember_14 : decode cX2_remember 14 = .ok (.invokevirtual 114, 3) := by decide +kernel
theorem dX2_remember_17 : decode cX2_remember 17 = .ok (.aload_n 0, 1) := by decide +kernel
theorem dX2_remember_18 : decode cX2_remember 18 = .ok (.getfield 35, 3) := by decide +kernel
theorem dX2_remember_21 : decode cX2_remember 21 = .ok (.aload_n 0, 1) := by decide +kernel
theorem dX2_remember_22 : decode cX2_remember 22 = .ok (.getfield 38, 3) := by decide +kernel
theorem dX2_remember_25 : decode cX2_remember 25 = .ok (.iconst 0, 1) := by decide +kernel
theorem dX2_remember_26 : decode cX2_remember 26 = .ok (.iconst 0, 1) := by decide +kernel
theorem dX2_remember_27 : decode cX2_remember 27 = .ok (.iconst 0, 1) := by decide +kernel
theorem dX2_remember_28 : decode cX2_remember 28 = .ok (.invokevirtual 54, 3) := by decide +kernel
theorem dX2_remember_31 : decode cX2_remember 31 = .ok (.istore_n 1, 1) := by decide +kernel
theorem dX2_remember_32 : decode cX2_remember 32 = .ok (.iconst 0, 1) := by decide +kernel
theorem dX2_remember_33 : decode cX2_remember 33 = .ok (.istore_n 2, 1) := by decide +kernel
theorem dX2_remember_34 : decode cX2_remember 34 = .ok (.iload_n 2, 1) := by decide +kernel
theorem dX2_remember_35 : decode cX2_remember 35 = .ok (.iconst 4, 1) := by decide +kernel
theorem dX2_remember_36 : decode cX2_remember 36 = .ok (.if_icmp .ge 29, 3) := by decide +kernel
theorem dX2_remember_39 : decode cX2_remember 39 = .ok (.aload_n 0, 1) := by decide +kernel
theorem dX2_remember_40 : decode cX2_remember 40 = .ok (.getfield 35, 3) := by decide +kernel
theorem dX2_remember_43 : decode cX2_remember 43 = .ok (.iload_n 1, 1) := by decide +kernel
theorem dX2_remember_44 : decode cX2_remember 44 = .ok (.iconst 1, 1) := by decide +kernel
theorem dX2_remember_45 : decode cX2_remember 45 = .ok (.iload_n 2, 1) := by decide +kernel
theorem dX2_remember_46 : decode cX2_remember 46 = .ok (.iadd, 1) := by decide +kernel
theorem dX2_remember_47 : decode cX2_remember 47 = .ok (.aload_n 0, 1) := by decide +kernel
theorem dX2_remember_48 : decode cX2_remember 48 = .ok (.getfield 23, 3) := by decide +kernel
theorem dX2_remember_51 : decode cX2_remember 51 = .ok (.iload_n 2, 1) := by decide +kernel
theorem dX2_remember_52 : decode cX2_remember 52 = .ok (.iconst 0, 1) := by decide +kernel
theorem dX2_remember_53 : decode cX2_remember 53 = .ok (.invokevirtual 62, 3) := by decide +kernel
theorem dX2_remember_56 : decode cX2_remember 56 = .ok (.invokevirtual 58, 3) := by decide +kernel
theorem dX2_remember_59 : decode cX2_remember 59 = .ok (.iinc 2 1, 3) := by decide +kernel
theorem dX2_remember_62 : decode cX2_remember 62 = .ok (.goto (-28), 3) := by decide +kernel
theorem dX2_remember_65 : decode cX2_remember 65 = .ok (.iconst 0, 1) := by decide +kernel
theorem dX2_remember_66 : decode cX2_remember 66 = .ok (.istore_n 2, 1) := by decide +kernel
theorem dX2_remember_67 : decode cX2_remember 67 = .ok (.iload_n 2, 1) := by decide +kernel
theorem dX2_remember_68 : decode cX2_remember 68 = .ok (.iconst 3, 1) := by decide +kernel
theorem dX2_remember_69 : decode cX2_remember 69 = .ok (.if_icmp .ge 50, 3) := by decide +kernel
theorem dX2_remember_72 : decode cX2_remember 72 = .ok (.aload_n 0, 1) := by decide +kernel
theorem dX2_remember_73 : decode cX2_remember 73 = .ok (.getfield 35, 3) := by decide +kernel
theorem dX2_remember_76 : decode cX2_remember 76 = .ok (.iload_n 1, 1) := by decide +kernel
theorem dX2_remember_77 : decode cX2_remember 77 = .ok (.iconst 5, 1) := by decide +kernel
theorem dX2_remember_78 : decode cX2_remember 78 = .ok (.iload_n 2, 1) := by decide +kernel
theorem dX2_remember_79 : decode cX2_remember 79 = .ok (.iadd, 1) := by decide +kernel
theorem dX2_remember_80 : decode cX2_remember 80 = .ok (.aload_n 0, 1) := by decide +kernel
theorem dX2_remember_81 : decode cX2_remember 81 = .ok (.getfield 20, 3) := by decide +kernel
theorem dX2_remember_84 : decode cX2_remember 84 = .ok (.iload_n 2, 1) := by decide +kernel
theorem dX2_remember_85 : decode cX2_remember 85 = .ok (.iconst 1, 1) := by decide +kernel
theorem dX2_remember_86 : decode cX2_remember 86 = .ok (.invokevirtual 62, 3) := by decide +kernel
theorem dX2_remember_89 : decode cX2_remember 89 = .ok (.invokevirtual 58, 3) := by decide +kernel
theorem dX2_remember_92 : decode cX2_remember 92 = .ok (.aload_n 0, 1) := by decide +kernel
theorem dX2_remember_93 : decode cX2_remember 93 = .ok (.getfield 35, 3) := by decide +kernel
theorem dX2_remember_96 : decode cX2_remember 96 = .ok (.iload_n 1, 1) := by decide +kernel
theorem dX2_remember_97 : decode cX2_remember 97 = .ok (.bipush 8, 2) := by decide +kernel
theorem dX2_remember_99 : decode cX2_remember 99 = .ok (.iload_n 2, 1) := by decide +kernel
theorem dX2_remember_100 : decode cX2_remember 100 = .ok (.iadd, 1) := by decide +kernel
theorem dX2_remember_101 : decode cX2_remember 101 = .ok (.aload_n 0, 1) := by decide +kernel
theorem dX2_remember_102 : decode cX2_remember 102 = .ok (.getfield 20, 3) := by decide +kernel
theorem dX2_remember_105 : decode cX2_remember 105 = .ok (.iload_n 2, 1) := by decide +kernel
theorem dX2_remember_106 : decode cX2_remember 106 = .ok (.iconst 2, 1) := by decide +kernel
theorem dX2_remember_107 : decode cX2_remember 107 = .ok (.invokevirtual 62, 3) := by decide +kernel
theorem dX2_remember_110 : decode cX2_remember 110 = .ok (.invokevirtual 58, 3) := by decide +kernel
theorem dX2_remember_113 : decode cX2_remember 113 = .ok (.iinc 2 1, 3) := by decide +kernel
theorem dX2_remember_116 : decode cX2_remember 116 = .ok (.goto (-49), 3) := by decide +kernel
theorem dX2_remember_119 : decode cX2_remember 119 = .ok (.return_, 1) := by decide +kernel
theorem dX2_recall_0 : decode cX2_recall 0 = .ok (.aload_n 0, 1) := by decide +kernel
theorem dX2_recall_1 : decode cX2_recall 1 = .ok (.getfield 35, 3) := by decide +kernel
theorem dX2_recall_4 : decode cX2_recall 4 = .ok (.getfield 79, 3) := by decide +kernel
theorem dX2_recall_7 : decode cX2_recall 7 = .ok (.iconst 1, 1) := by decide +kernel
theorem dX2_recall_8 : decode cX2_recall 8 = .ok (.if_icmp .ge 4, 3) := by decide +kernel
theorem dX2_recall_11 : decode cX2_recall 11 = .ok (.return_, 1) := by decide +kernel
theorem dX2_recall_12 : decode cX2_recall 12 = .ok (.aload_n 0, 1) := by decide +kernel
theorem dX2_recall_13 : decode cX2_recall 13 = .ok (.getfield 35, 3) := by decide +kernel
theorem dX2_recall_16 : decode cX2_recall 16 = .ok (.dup, 1) := by decide +kernel
theorem dX2_recall_17 : decode cX2_recall 17 = .ok (.getfield 79, 3) := by decide +kernel
theorem dX2_recall_20 : decode cX2_recall 20 = .ok (.iconst 1, 1) := by decide +kernel
theorem dX2_recall_21 : decode cX2_recall 21 = .ok (.isub, 1) := by decide +kernel
theorem dX2_recall_22 : decode cX2_recall 22 = .ok (.putfield 79, 3) := by decide +kernel
theorem dX2_recall_25 : decode cX2_recall 25 = .ok (.aload_n 0, 1) := by decide +kernel
theorem dX2_recall_26 : decode cX2_recall 26 = .ok (.getfield 35, 3) := by decide +kernel
theorem dX2_recall_29 : decode cX2_recall 29 = .ok (.getfield 79, 3) := by decide +kernel
theorem dX2_recall_32 : decode cX2_recall 32 = .ok (.istore_n 1, 1) := by decide +kernel
theorem dX2_recall_33 : decode cX2_recall 33 = .ok (.aload_n 0, 1) := by decide +kernel
theorem dX2_recall_34 : decode cX2_recall 34 = .ok (.aload_n 0, 1) := by decide +kernel
theorem dX2_recall_35 : decode cX2_recall 35 = .ok (.getfield 35, 3) := by decide +kernel
theorem dX2_recall_38 : decode cX2_recall 38 = .ok (.iload_n 1, 1) := by decide +kernel
theorem dX2_recall_39 : decode cX2_recall 39 = .ok (.iconst 0, 1) := by decide +kernel
theorem dX2_recall_40 : decode cX2_recall 40 = .ok (.invokevirtual 62, 3) := by decide +kernel
theorem dX2_recall_43 : decode cX2_recall 43 = .ok (.putfield 38, 3) := by decide +kernel
theorem dX2_recall_46 : decode cX2_recall 46 = .ok (.iconst 0, 1) := by decide +kernel
theorem dX2_recall_47 : decode cX2_recall 47 = .ok (.istore_n 2, 1) := by decide +kernel
theorem dX2_recall_48 : decode cX2_recall 48 = .ok (.iload_n 2, 1) := by decide +kernel
theorem dX2_recall_49 : decode cX2_recall 49 = .ok (.iconst 4, 1) := by decide +kernel
theorem dX2_recall_50 : decode cX2_recall 50 = .ok (.if_icmp .ge 29, 3) := by decide +kernel
theorem dX2_recall_53 : decode cX2_recall 53 = .ok (.aload_n 0, 1) := by decide +kernel
theorem dX2_recall_54 : decode cX2_recall 54 = .ok (.getfield 23, 3) := by decide +kernel
theorem dX2_recall_57 : decode cX2_recall 57 = .ok (.iload_n 2, 1) := by decide +kernel
theorem dX2_recall_58 : decode cX2_recall 58 = .ok (.iconst 0, 1) := by decide +kernel
theorem dX2_recall_59 : decode cX2_recall 59 = .ok (.aload_n 0, 1) := by decide +kernel
theorem dX2_recall_60 : decode cX2_recall 60 = .ok (.getfield 35, 3) := by decide +kernel
theorem dX2_recall_63 : decode cX2_recall 63 = .ok (.iload_n 1, 1) := by decide +kernel
theorem dX2_recall_64 : decode cX2_recall 64 = .ok (.iconst 1, 1) := by decide +kernel
theorem dX2_recall_65 : decode cX2_recall 65 = .ok (.iload_n 2, 1) := by decide +kernel
theorem dX2_recall_66 : decode cX2_recall 66 = .ok (.iadd, 1) := by decide +kernel
theorem dX2_recall_67 : decode cX2_recall 67 = .ok (.invokevirtual 62, 3) := by decide +kernel
theorem dX2_recall_70 : decode cX2_recall 70 = .ok (.invokevirtual 58, 3) := by decide +kernel
theorem dX2_recall_73 : decode cX2_recall 73 = .ok (.iinc 2 1, 3) := by decide +kernel
theorem dX2_recall_76 : decode cX2_recall 76 = .ok (.goto (-28), 3) := by decide +kernel
theorem dX2_recall_79 : decode cX2_recall 79 = .ok (.iconst 0, 1) := by decide +kernel
theorem dX2_recall_80 : decode cX2_recall 80 = .ok (.istore_n 2, 1) := by decide +kernel
theorem dX2_recall_81 : decode cX2_recall 81 = .ok (.iload_n 2, 1) := by decide +kernel
theorem dX2_recall_82 : decode cX2_recall 82 = .ok (.iconst 3, 1) := by decide +kernel
theorem dX2_recall_83 : decode cX2_recall 83 = .ok (.if_icmp .ge 50, 3) := by decide +kernel
theorem dX2_recall_86 : decode cX2_recall 86 = .ok (.aload_n 0, 1) := by decide +kernel
theorem dX2_recall_87 : decode cX2_recall 87 = .ok (.getfield 20, 3) := by decide +kernel
theorem dX2_recall_90 : decode cX2_recall 90 = .ok (.iload_n 2, 1) := by decide +kernel
theorem dX2_recall_91 : decode cX2_recall 91 = .ok (.iconst 1, 1) := by decide +kernel
theorem dX2_recall_92 : decode cX2_recall 92 = .ok (.aload_n 0, 1) := by decide +kernel
theorem dX2_recall_93 : decode cX2_recall 93 = .ok (.getfield 35, 3) := by decide +kernel
theorem dX2_recall_96 : decode cX2_recall 96 = .ok (.iload_n 1, 1) := by decide +kernel
theorem dX2_recall_97 : decode cX2_recall 97 = .ok (.iconst 5, 1) := by decide +kernel
theorem dX2_recall_98 : decode cX2_recall 98 = .ok (.iload_n 2, 1) := by decide +kernel
theorem dX2_recall_99 : decode cX2_recall 99 = .ok (.iadd, 1) := by decide +kernel
theorem dX2_recall_100 : decode cX2_recall 100 = .ok (.invokevirtual 62, 3) := by decide +kernel
theorem dX2_recall_103 : decode cX2_recall 103 = .ok (.invokevirtual 58, 3) := by decide +kernel
theorem dX2_recall_106 : decode cX2_recall 106 = .ok (.aload_n 0, 1) := by decide +kernel
theorem dX2_recall_107 : decode cX2_recall 107 = .ok (.getfield 20, 3) := by decide +kernel
theorem dX2_recall_110 : decode cX2_recall 110 = .ok (.iload_n 2, 1) := by decide +kernel
theorem dX2_recall_111 : decode cX2_recall 111 = .ok (.iconst 2, 1) := by decide +kernel
theorem dX2_recall_112 : decode cX2_recall 112 = .ok (.aload_n 0, 1) := by decide +kernel
theorem dX2_recall_113 : decode cX2_recall 113 = .ok (.getfield 35, 3) := by decide +kernel
theorem dX2_recall_116 : decode cX2_recall 116 = .ok (.iload_n 1, 1) := by decide +kernel
theorem dX2_recall_117 : decode cX2_recall 117 = .ok (.bipush 8, 2) := by decide +kernel
theorem dX2_recall_119 : decode cX2_recall 119 = .ok (.iload_n 2, 1) := by decide +kernel
theorem dX2_recall_120 : decode cX2_recall 120 = .ok (.iadd, 1) := by decide +kernel
theorem dX2_recall_121 : decode cX2_recall 121 = .ok (.invokevirtual 62, 3) := by decide +kernel
theorem dX2_recall_124 : decode cX2_recall 124 = .ok (.invokevirtual 58, 3) := by decide +kernel
theorem dX2_recall_127 : decode cX2_recall 127 = .ok (.iinc 2 1, 3) := by decide +kernel
theorem dX2_recall_130 : decode cX2_recall 130 = .ok (.goto (-49), 3) := by decide +kernel
theorem dX2_recall_133 : decode cX2_recall 133 = .ok (.return_, 1) := by decide +kernel
theorem dX3_loudness_0 : decode cX3_loudness 0 = .ok (.iload_n 1, 1) := by decide +kernel
theorem dX3_loudness_1 : decode cX3_loudness 1 = .ok (.iload_n 2, 1) := by decide +kernel
theorem dX3_loudness_2 : decode cX3_loudness 2 = .ok (.iconst 4, 1) := by decide +kernel
theorem dX3_loudness_3 : decode cX3_loudness 3 = .ok (.idiv, 1) := by decide +kernel
theorem dX3_loudness_4 : decode cX3_loudness 4 = .ok (.isub, 1) := by decide +kernel
theorem dX3_loudness_5 : decode cX3_loudness 5 = .ok (.istore_n 3, 1) := by decide +kernel
theorem dX3_loudness_6 : decode cX3_loudness 6 = .ok (.iload_n 3, 1) := by decide +kernel
theorem dX3_loudness_7 : decode cX3_loudness 7 = .ok (.ifCond .le 7, 3) := by decide +kernel
theorem dX3_loudness_10 : decode cX3_loudness 10 = .ok (.iload_n 3, 1) := by decide +kernel
theorem dX3_loudness_11 : decode cX3_loudness 11 = .ok (.goto 4, 3) := by decide +kernel
theorem dX3_loudness_14 : decode cX3_loudness 14 = .ok (.iconst 0, 1) := by decide +kernel
theorem dX3_loudness_15 : decode cX3_loudness 15 = .ok (.istore 4, 2) := by decide +kernel
theorem dX3_loudness_17 : decode cX3_loudness 17 = .ok (.iload 4, 2) := by decide +kernel
theorem dX3_loudness_19 : decode cX3_loudness 19 = .ok (.iconst 1, 1) := by decide +kernel
theorem dX3_loudness_20 : decode cX3_loudness 20 = .ok (.iadd, 1) := by decide +kernel
theorem dX3_loudness_21 : decode cX3_loudness 21 = .ok (.iconst 2, 1) := by decide +kernel
theorem dX3_loudness_22 : decode cX3_loudness 22 = .ok (.idiv, 1) := by decide +kernel
theorem dX3_loudness_23 : decode cX3_loudness 23 = .ok (.istore 5, 2) := by decide +kernel
theorem dX3_loudness_25 : decode cX3_loudness 25 = .ok (.iload_n 2, 1) := by decide +kernel
theorem dX3_loudness_26 : decode cX3_loudness 26 = .ok (.iconst 2, 1) := by decide +kernel
theorem dX3_loudness_27 : decode cX3_loudness 27 = .ok (.if_icmp .gt 10, 3) := by decide +kernel
theorem dX3_loudness_30 : decode cX3_loudness 30 = .ok (.iload 4, 2) := by decide +kernel
theorem dX3_loudness_32 : decode cX3_loudness 32 = .ok (.iconst 4, 1) := by decide +kernel
theorem dX3_loudness_33 : decode cX3_loudness 33 = .ok (.iadd, 1) := by decide +kernel
theorem dX3_loudness_34 : decode cX3_loudness 34 = .ok (.goto 5, 3) := by decide +kernel
theorem dX3_loudness_37 : decode cX3_loudness 37 = .ok (.iload 4, 2) := by decide +kernel
theorem dX3_loudness_39 : decode cX3_loudness 39 = .ok (.istore 6, 2) := by decide +kernel
theorem dX3_loudness_41 : decode cX3_loudness 41 = .ok (.iload_n 0, 1) := by decide +kernel
theorem dX3_loudness_42 : decode cX3_loudness 42 = .ok (.tableswitch 82 1 5 #[34, 37, 40, 56, 69], 34) := by decide +kernel
theorem dX3_loudness_76 : decode cX3_loudness 76 = .ok (.iload 5, 2) := by decide +kernel
theorem dX3_loudness_78 : decode cX3_loudness 78 = .ok (.ireturn, 1) := by decide +kernel
theorem dX3_loudness_79 : decode cX3_loudness 79 = .ok (.iload 6, 2) := by decide +kernel
theorem dX3_loudness_81 : decode cX3_loudness 81 = .ok (.ireturn, 1) := by decide +kernel
theorem dX3_loudness_82 : decode cX3_loudness 82 = .ok (.iload_n 2, 1) := by decide +kernel
theorem dX3_loudness_83 : decode cX3_loudness 83 = .ok (.bipush 20, 2) := by decide +kernel
theorem dX3_loudness_85 : decode cX3_loudness 85 = .ok (.if_icmp .lt 10, 3) := by decide +kernel
theorem dX3_loudness_88 : decode cX3_loudness 88 = .ok (.iload 5, 2) := by decide +kernel
theorem dX3_loudness_90 : decode cX3_loudness 90 = .ok (.iconst 3, 1) := by decide +kernel
theorem dX3_loudness_91 : decode cX3_loudness 91 = .ok (.iadd, 1) := by decide +kernel
theorem dX3_loudness_92 : decode cX3_loudness 92 = .ok (.goto 5, 3) := by decide +kernel
theorem dX3_loudness_95 : decode cX3_loudness 95 = .ok (.iload 5, 2) := by decide +kernel
theorem dX3_loudness_97 : decode cX3_loudness 97 = .ok (.ireturn, 1) := by decide +kernel
theorem dX3_loudness_98 : decode cX3_loudness 98 = .ok (.iload_n 2, 1) := by decide +kernel
theorem dX3_loudness_99 : decode cX3_loudness 99 = .ok (.iconst 5, 1) := by decide +kernel
theorem dX3_loudness_100 : decode cX3_loudness 100 = .ok (.irem, 1) := by decide +kernel
theorem dX3_loudness_101 : decode cX3_loudness 101 = .ok (.ifCond .ne 8, 3) := by decide +kernel
theorem dX3_loudness_104 : decode cX3_loudness 104 = .ok (.iload 4, 2) := by decide +kernel
theorem dX3_loudness_106 : decode cX3_loudness 106 = .ok (.goto 4, 3) := by decide +kernel
theorem dX3_loudness_109 : decode cX3_loudness 109 = .ok (.iconst 0, 1) := by decide +kernel
theorem dX3_loudness_110 : decode cX3_loudness 110 = .ok (.ireturn, 1) := by decide +kernel
theorem dX3_loudness_111 : decode cX3_loudness 111 = .ok (.iload_n 2, 1) := by decide +kernel
theorem dX3_loudness_112 : decode cX3_loudness 112 = .ok (.iconst 2, 1) := by decide +kernel
theorem dX3_loudness_113 : decode cX3_loudness 113 = .ok (.irem, 1) := by decide +kernel
theorem dX3_loudness_114 : decode cX3_loudness 114 = .ok (.ifCond .ne 8, 3) := by decide +kernel
theorem dX3_loudness_117 : decode cX3_loudness 117 = .ok (.iload 6, 2) := by decide +kernel
theorem dX3_loudness_119 : decode cX3_loudness 119 = .ok (.goto 4, 3) := by decide +kernel
theorem dX3_loudness_122 : decode cX3_loudness 122 = .ok (.iconst 0, 1) := by decide +kernel
theorem dX3_loudness_123 : decode cX3_loudness 123 = .ok (.ireturn, 1) := by decide +kernel
theorem dX3_loudness_124 : decode cX3_loudness 124 = .ok (.iload 4, 2) := by decide +kernel
theorem dX3_loudness_126 : decode cX3_loudness 126 = .ok (.ireturn, 1) := by decide +kernel
theorem dX3_hears_0 : decode cX3_hears 0 = .ok (.iload_n 0, 1) := by decide +kernel
theorem dX3_hears_1 : decode cX3_hears 1 = .ok (.iload_n 1, 1) := by decide +kernel
theorem dX3_hears_2 : decode cX3_hears 2 = .ok (.iload_n 2, 1) := by decide +kernel
theorem dX3_hears_3 : decode cX3_hears 3 = .ok (.invokestatic 7, 3) := by decide +kernel
theorem dX3_hears_6 : decode cX3_hears 6 = .ok (.iconst 1, 1) := by decide +kernel
theorem dX3_hears_7 : decode cX3_hears 7 = .ok (.if_icmp .lt 7, 3) := by decide +kernel
theorem dX3_hears_10 : decode cX3_hears 10 = .ok (.iconst 1, 1) := by decide +kernel
theorem dX3_hears_11 : decode cX3_hears 11 = .ok (.goto 4, 3) := by decide +kernel
theorem dX3_hears_14 : decode cX3_hears 14 = .ok (.iconst 0, 1) := by decide +kernel
theorem dX3_hears_15 : decode cX3_hears 15 = .ok (.ireturn, 1) := by decide +kernel
theorem dX3_heard_0 : decode cX3_heard 0 = .ok (.iload_n 1, 1) := by decide +kernel
theorem dX3_heard_1 : decode cX3_heard 1 = .ok (.iload_n 2, 1) := by decide +kernel
theorem dX3_heard_2 : decode cX3_heard 2 = .ok (.iconst 4, 1) := by decide +kernel
theorem dX3_heard_3 : decode cX3_heard 3 = .ok (.idiv, 1) := by decide +kernel
theorem dX3_heard_4 : decode cX3_heard 4 = .ok (.isub, 1) := by decide +kernel
theorem dX3_heard_5 : decode cX3_heard 5 = .ok (.istore_n 3, 1) := by decide +kernel
theorem dX3_heard_6 : decode cX3_heard 6 = .ok (.iload_n 3, 1) := by decide +kernel
theorem dX3_heard_7 : decode cX3_heard 7 = .ok (.iconst 3, 1) := by decide +kernel
theorem dX3_heard_8 : decode cX3_heard 8 = .ok (.isub, 1) := by decide +kernel
theorem dX3_heard_9 : decode cX3_heard 9 = .ok (.istore 4, 2) := by decide +kernel
theorem dX3_heard_11 : decode cX3_heard 11 = .ok (.iload_n 1, 1) := by decide +kernel
theorem dX3_heard_12 : decode cX3_heard 12 = .ok (.iconst 1, 1) := by decide +kernel
theorem dX3_heard_13 : decode cX3_heard 13 = .ok (.if_icmp .lt 7, 3) := by decide +kernel
theorem dX3_heard_16 : decode cX3_heard 16 = .ok (.iconst 2, 1) := by decide +kernel
theorem dX3_heard_17 : decode cX3_heard 17 = .ok (.goto 4, 3) := by decide +kernel
theorem dX3_heard_20 : decode cX3_heard 20 = .ok (.iconst 0, 1) := by decide +kernel
theorem dX3_heard_21 : decode cX3_heard 21 = .ok (.istore 5, 2) := by decide +kernel
theorem dX3_heard_23 : decode cX3_heard 23 = .ok (.iload_n 3, 1) := by decide +kernel
theorem dX3_heard_24 : decode cX3_heard 24 = .ok (.iload 5, 2) := by decide +kernel
theorem dX3_heard_26 : decode cX3_heard 26 = .ok (.iadd, 1) := by decide +kernel
theorem dX3_heard_27 : decode cX3_heard 27 = .ok (.istore 6, 2) := by decide +kernel
theorem dX3_heard_29 : decode cX3_heard 29 = .ok (.iload_n 0, 1) := by decide +kernel
theorem dX3_heard_30 : decode cX3_heard 30 = .ok (.tableswitch 80 1 5 #[34, 37, 40, 56, 69], 34) := by decide +kernel
theorem dX3_heard_64 : decode cX3_heard 64 = .ok (.iload 4, 2) := by decide +kernel
theorem dX3_heard_66 : decode cX3_heard 66 = .ok (.ireturn, 1) := by decide +kernel
theorem dX3_heard_67 : decode cX3_heard 67 = .ok (.iload 6, 2) := by decide +kernel
theorem dX3_heard_69 : decode cX3_heard 69 = .ok (.ireturn, 1) := by decide +kernel
theorem dX3_heard_70 : decode cX3_heard 70 = .ok (.iload_n 2, 1) := by decide +kernel
theorem dX3_heard_71 : decode cX3_heard 71 = .ok (.bipush 12, 2) := by decide +kernel
theorem dX3_heard_73 : decode cX3_heard 73 = .ok (.if_icmp .le 10, 3) := by decide +kernel
theorem dX3_heard_76 : decode cX3_heard 76 = .ok (.iload 4, 2) := by decide +kernel
theorem dX3_heard_78 : decode cX3_heard 78 = .ok (.iconst 2, 1) := by decide +kernel
theorem dX3_heard_79 : decode cX3_heard 79 = .ok (.iadd, 1) := by decide +kernel
theorem dX3_heard_80 : decode cX3_heard 80 = .ok (.goto 5, 3) := by decide +kernel
theorem dX3_heard_83 : decode cX3_heard 83 = .ok (.iload 4, 2) := by decide +kernel
theorem dX3_heard_85 : decode cX3_heard 85 = .ok (.ireturn, 1) := by decide +kernel
theorem dX3_heard_86 : decode cX3_heard 86 = .ok (.iload 6, 2) := by decide +kernel
theorem dX3_heard_88 : decode cX3_heard 88 = .ok (.iconst 4, 1) := by decide +kernel
theorem dX3_heard_89 : decode cX3_heard 89 = .ok (.if_icmp .le 7, 3) := by decide +kernel
theorem dX3_heard_92 : decode cX3_heard 92 = .ok (.iconst 4, 1) := by decide +kernel
theorem dX3_heard_93 : decode cX3_heard 93 = .ok (.goto 5, 3) := by decide +kernel
theorem dX3_heard_96 : decode cX3_heard 96 = .ok (.iload 6, 2) := by decide +kernel
theorem dX3_heard_98 : decode cX3_heard 98 = .ok (.ireturn, 1) := by decide +kernel
theorem dX3_heard_99 : decode cX3_heard 99 = .ok (.iload_n 1, 1) := by decide +kernel
theorem dX3_heard_100 : decode cX3_heard 100 = .ok (.iload_n 2, 1) := by decide +kernel
theorem dX3_heard_101 : decode cX3_heard 101 = .ok (.iconst 2, 1) := by decide +kernel
theorem dX3_heard_102 : decode cX3_heard 102 = .ok (.idiv, 1) := by decide +kernel
theorem dX3_heard_103 : decode cX3_heard 103 = .ok (.iconst 4, 1) := by decide +kernel
theorem dX3_heard_104 : decode cX3_heard 104 = .ok (.idiv, 1) := by decide +kernel
theorem dX3_heard_105 : decode cX3_heard 105 = .ok (.isub, 1) := by decide +kernel
theorem dX3_heard_106 : decode cX3_heard 106 = .ok (.iload 5, 2) := by decide +kernel
theorem dX3_heard_108 : decode cX3_heard 108 = .ok (.iadd, 1) := by decide +kernel
theorem dX3_heard_109 : decode cX3_heard 109 = .ok (.ireturn, 1) := by decide +kernel
theorem dX3_heard_110 : decode cX3_heard 110 = .ok (.iload_n 3, 1) := by decide +kernel
theorem dX3_heard_111 : decode cX3_heard 111 = .ok (.ireturn, 1) := by decide +kernel
theorem dX4_init_0 : decode cX4_init 0 = .ok (.aload_n 0, 1) := by decide +kernel
theorem dX4_init_1 : decode cX4_init 1 = .ok (.invokespecial 3, 3) := by decide +kernel
theorem dX4_init_4 : decode cX4_init 4 = .ok (.aload_n 0, 1) := by decide +kernel
theorem dX4_init_5 : decode cX4_init 5 = .ok (.new 9, 3) := by decide +kernel
theorem dX4_init_8 : decode cX4_init 8 = .ok (.dup, 1) := by decide +kernel
theorem dX4_init_9 : decode cX4_init 9 = .ok (.iconst 2, 1) := by decide +kernel
theorem dX4_init_10 : decode cX4_init 10 = .ok (.iconst 4, 1) := by decide +kernel
theorem dX4_init_11 : decode cX4_init 11 = .ok (.invokespecial 11, 3) := by decide +kernel
theorem dX4_init_14 : decode cX4_init 14 = .ok (.putfield 14, 3) := by decide +kernel
theorem dX4_init_17 : decode cX4_init 17 = .ok (.return_, 1) := by decide +kernel
theorem dX4_firstHearing_0 : decode cX4_firstHearing 0 = .ok (.aload_n 0, 1) := by decide +kernel
theorem dX4_firstHearing_1 : decode cX4_firstHearing 1 = .ok (.getfield 20, 3) := by decide +kernel
theorem dX4_firstHearing_4 : decode cX4_firstHearing 4 = .ok (.iload_n 1, 1) := by decide +kernel
theorem dX4_firstHearing_5 : decode cX4_firstHearing 5 = .ok (.iconst 1, 1) := by decide +kernel
theorem dX4_firstHearing_6 : decode cX4_firstHearing 6 = .ok (.invokevirtual 25, 3) := by decide +kernel
theorem dX4_firstHearing_9 : decode cX4_firstHearing 9 = .ok (.istore_n 3, 1) := by decide +kernel
theorem dX4_firstHearing_10 : decode cX4_firstHearing 10 = .ok (.iconst 0, 1) := by decide +kernel
theorem dX4_firstHearing_11 : decode cX4_firstHearing 11 = .ok (.istore 4, 2) := by decide +kernel
theorem dX4_firstHearing_13 : decode cX4_firstHearing 13 = .ok (.iload 4, 2) := by decide +kernel
theorem dX4_firstHearing_15 : decode cX4_firstHearing 15 = .ok (.bipush 40, 2) := by decide +kernel
theorem dX4_firstHearing_17 : decode cX4_firstHearing 17 = .ok (.if_icmp .gt 32, 3) := by decide +kernel
theorem dX4_firstHearing_20 : decode cX4_firstHearing 20 = .ok (.aload_n 0, 1) := by decide +kernel
theorem dX4_firstHearing_21 : decode cX4_firstHearing 21 = .ok (.iload_n 1, 1) := by decide +kernel
theorem dX4_firstHearing_22 : decode cX4_firstHearing 22 = .ok (.iload_n 3, 1) := by decide +kernel
theorem dX4_firstHearing_23 : decode cX4_firstHearing 23 = .ok (.aload_n 0, 1) := by decide +kernel
theorem dX4_firstHearing_24 : decode cX4_firstHearing 24 = .ok (.iload_n 3, 1) := by decide +kernel
theorem dX4_firstHearing_25 : decode cX4_firstHearing 25 = .ok (.iload 4, 2) := by decide +kernel
theorem dX4_firstHearing_27 : decode cX4_firstHearing 27 = .ok (.invokevirtual 29, 3) := by decide +kernel
theorem dX4_firstHearing_30 : decode cX4_firstHearing 30 = .ok (.invokevirtual 32, 3) := by decide +kernel
theorem dX4_firstHearing_33 : decode cX4_firstHearing 33 = .ok (.iload_n 2, 1) := by decide +kernel
theorem dX4_firstHearing_34 : decode cX4_firstHearing 34 = .ok (.invokestatic 36, 3) := by decide +kernel
theorem dX4_firstHearing_37 : decode cX4_firstHearing 37 = .ok (.ifCond .eq 6, 3) := by decide +kernel
theorem dX4_firstHearing_40 : decode cX4_firstHearing 40 = .ok (.iload 4, 2) := by decide +kernel
theorem dX4_firstHearing_42 : decode cX4_firstHearing 42 = .ok (.ireturn, 1) := by decide +kernel
theorem dX4_firstHearing_43 : decode cX4_firstHearing 43 = .ok (.iinc 4 1, 3) := by decide +kernel
theorem dX4_firstHearing_46 : decode cX4_firstHearing 46 = .ok (.goto (-33), 3) := by decide +kernel
theorem dX4_firstHearing_49 : decode cX4_firstHearing 49 = .ok (.iconst (-1), 1) := by decide +kernel
theorem dX4_firstHearing_50 : decode cX4_firstHearing 50 = .ok (.ireturn, 1) := by decide +kernel
theorem dX4_stayIn_0 : decode cX4_stayIn 0 = .ok (.aload_n 0, 1) := by decide +kernel
theorem dX4_stayIn_1 : decode cX4_stayIn 1 = .ok (.getfield 20, 3) := by decide +kernel
theorem dX4_stayIn_4 : decode cX4_stayIn 4 = .ok (.iload_n 1, 1) := by decide +kernel
theorem dX4_stayIn_5 : decode cX4_stayIn 5 = .ok (.iconst 2, 1) := by decide +kernel
theorem dX4_stayIn_6 : decode cX4_stayIn 6 = .ok (.invokevirtual 25, 3) := by decide +kernel
theorem dX4_stayIn_9 : decode cX4_stayIn 9 = .ok (.istore 5, 2) := by decide +kernel
theorem dX4_stayIn_11 : decode cX4_stayIn 11 = .ok (.iconst 0, 1) := by decide +kernel
theorem dX4_stayIn_12 : decode cX4_stayIn 12 = .ok (.istore 6, 2) := by decide +kernel
theorem dX4_stayIn_14 : decode cX4_stayIn 14 = .ok (.iconst 0, 1) := by decide +kernel
theorem dX4_stayIn_15 : decode cX4_stayIn 15 = .ok (.istore 7, 2) := by decide +kernel
theorem dX4_stayIn_17 : decode cX4_stayIn 17 = .ok (.iload 7, 2) := by decide +kernel
theorem dX4_stayIn_19 : decode cX4_stayIn 19 = .ok (.bipush 30, 2) := by decide +kernel
theorem dX4_stayIn_21 : decode cX4_stayIn 21 = .ok (.if_icmp .gt 57, 3) := by decide +kernel
theorem dX4_stayIn_24 : decode cX4_stayIn 24 = .ok (.iload 6, 2) := by decide +kernel
theorem dX4_stayIn_26 : decode cX4_stayIn 26 = .ok (.iload_n 3, 1) := by decide +kernel
theorem dX4_stayIn_27 : decode cX4_stayIn 27 = .ok (.iand, 1) := by decide +kernel
theorem dX4_stayIn_28 : decode cX4_stayIn 28 = .ok (.ifCond .eq 5, 3) := by decide +kernel
theorem dX4_stayIn_31 : decode cX4_stayIn 31 = .ok (.iconst (-1), 1) := by decide +kernel
theorem dX4_stayIn_32 : decode cX4_stayIn 32 = .ok (.ireturn, 1) := by decide +kernel
theorem dX4_stayIn_33 : decode cX4_stayIn 33 = .ok (.iload 5, 2) := by decide +kernel
theorem dX4_stayIn_35 : decode cX4_stayIn 35 = .ok (.iload 6, 2) := by decide +kernel
theorem dX4_stayIn_37 : decode cX4_stayIn 37 = .ok (.ior, 1) := by decide +kernel
theorem dX4_stayIn_38 : decode cX4_stayIn 38 = .ok (.iload_n 2, 1) := by decide +kernel
theorem dX4_stayIn_39 : decode cX4_stayIn 39 = .ok (.iand, 1) := by decide +kernel
theorem dX4_stayIn_40 : decode cX4_stayIn 40 = .ok (.iload_n 2, 1) := by decide +kernel
theorem dX4_stayIn_41 : decode cX4_stayIn 41 = .ok (.if_icmp .ne 6, 3) := by decide +kernel
theorem dX4_stayIn_44 : decode cX4_stayIn 44 = .ok (.iload 7, 2) := by decide +kernel
theorem dX4_stayIn_46 : decode cX4_stayIn 46 = .ok (.ireturn, 1) := by decide +kernel
theorem dX4_stayIn_47 : decode cX4_stayIn 47 = .ok (.iload 6, 2) := by decide +kernel
theorem dX4_stayIn_49 : decode cX4_stayIn 49 = .ok (.aload_n 0, 1) := by decide +kernel
theorem dX4_stayIn_50 : decode cX4_stayIn 50 = .ok (.iload_n 1, 1) := by decide +kernel
theorem dX4_stayIn_51 : decode cX4_stayIn 51 = .ok (.iload 4, 2) := by decide +kernel
theorem dX4_stayIn_53 : decode cX4_stayIn 53 = .ok (.iload 7, 2) := by decide +kernel
theorem dX4_stayIn_55 : decode cX4_stayIn 55 = .ok (.bipush 30, 2) := by decide +kernel
theorem dX4_stayIn_57 : decode cX4_stayIn 57 = .ok (.if_icmp .ge 8, 3) := by decide +kernel
theorem dX4_stayIn_60 : decode cX4_stayIn 60 = .ok (.iload 7, 2) := by decide +kernel
theorem dX4_stayIn_62 : decode cX4_stayIn 62 = .ok (.goto 4, 3) := by decide +kernel
theorem dX4_stayIn_65 : decode cX4_stayIn 65 = .ok (.iconst (-1), 1) := by decide +kernel
theorem dX4_stayIn_66 : decode cX4_stayIn 66 = .ok (.invokevirtual 32, 3) := by decide +kernel
theorem dX4_stayIn_69 : decode cX4_stayIn 69 = .ok (.ior, 1) := by decide +kernel
theorem dX4_stayIn_70 : decode cX4_stayIn 70 = .ok (.istore 6, 2) := by decide +kernel
theorem dX4_stayIn_72 : decode cX4_stayIn 72 = .ok (.iinc 7 1, 3) := by decide +kernel
theorem dX4_stayIn_75 : decode cX4_stayIn 75 = .ok (.goto (-58), 3) := by decide +kernel
theorem dX4_stayIn_78 : decode cX4_stayIn 78 = .ok (.iconst (-1), 1) := by decide +kernel
theorem dX4_stayIn_79 : decode cX4_stayIn 79 = .ok (.ireturn, 1) := by decide +kernel
theorem dX4_bestStay_0 : decode cX4_bestStay 0 = .ok (.bipush 31, 2) := by decide +kernel
theorem dX4_bestStay_2 : decode cX4_bestStay 2 = .ok (.istore 4, 2) := by decide +kernel
theorem dX4_bestStay_4 : decode cX4_bestStay 4 = .ok (.iconst (-1), 1) := by decide +kernel
theorem dX4_bestStay_5 : decode cX4_bestStay 5 = .ok (.istore 5, 2) := by decide +kernel
theorem dX4_bestStay_7 : decode cX4_bestStay 7 = .ok (.iconst 0, 1) := by decide +kernel
theorem dX4_bestStay_8 : decode cX4_bestStay 8 = .ok (.istore 6, 2) := by decide +kernel
theorem dX4_bestStay_10 : decode cX4_bestStay 10 = .ok (.iload 6, 2) := by decide +kernel
theorem dX4_bestStay_12 : decode cX4_bestStay 12 = .ok (.iconst 4, 1) := by decide +kernel
theorem dX4_bestStay_13 : decode cX4_bestStay 13 = .ok (.if_icmp .ge 41, 3) := by decide +kernel
theorem dX4_bestStay_16 : decode cX4_bestStay 16 = .ok (.aload_n 0, 1) := by decide +kernel
theorem dX4_bestStay_17 : decode cX4_bestStay 17 = .ok (.iload_n 1, 1) := by decide +kernel
theorem dX4_bestStay_18 : decode cX4_bestStay 18 = .ok (.iload_n 2, 1) := by decide +kernel
theorem dX4_bestStay_19 : decode cX4_bestStay 19 = .ok (.iload_n 3, 1) := by decide +kernel
theorem dX4_bestStay_20 : decode cX4_bestStay 20 = .ok (.iload 6, 2) := by decide +kernel
theorem dX4_bestStay_22 : decode cX4_bestStay 22 = .ok (.invokestatic 40, 3) := by decide +kernel
theorem dX4_bestStay_25 : decode cX4_bestStay 25 = .ok (.istore 7, 2) := by decide +kernel
theorem dX4_bestStay_27 : decode cX4_bestStay 27 = .ok (.iload 7, 2) := by decide +kernel
theorem dX4_bestStay_29 : decode cX4_bestStay 29 = .ok (.iconst (-1), 1) := by decide +kernel
theorem dX4_bestStay_30 : decode cX4_bestStay 30 = .ok (.if_icmp .eq 18, 3) := by decide +kernel
theorem dX4_bestStay_33 : decode cX4_bestStay 33 = .ok (.iload 7, 2) := by decide +kernel
theorem dX4_bestStay_35 : decode cX4_bestStay 35 = .ok (.iload 4, 2) := by decide +kernel
theorem dX4_bestStay_37 : decode cX4_bestStay 37 = .ok (.if_icmp .ge 11, 3) := by decide +kernel
theorem dX4_bestStay_40 : decode cX4_bestStay 40 = .ok (.iload 7, 2) := by decide +kernel
theorem dX4_bestStay_42 : decode cX4_bestStay 42 = .ok (.istore 4, 2) := by decide +kernel
theorem dX4_bestStay_44 : decode cX4_bestStay 44 = .ok (.iload 6, 2) := by decide +kernel
theorem dX4_bestStay_46 : decode cX4_bestStay 46 = .ok (.istore 5, 2) := by decide +kernel
theorem dX4_bestStay_48 : decode cX4_bestStay 48 = .ok (.iinc 6 1, 3) := by decide +kernel
theorem dX4_bestStay_51 : decode cX4_bestStay 51 = .ok (.goto (-41), 3) := by decide +kernel
theorem dX4_bestStay_54 : decode cX4_bestStay 54 = .ok (.iload 5, 2) := by decide +kernel
theorem dX4_bestStay_56 : decode cX4_bestStay 56 = .ok (.iconst (-1), 1) := by decide +kernel
theorem dX4_bestStay_57 : decode cX4_bestStay 57 = .ok (.if_icmp .ne 7, 3) := by decide +kernel
theorem dX4_bestStay_60 : decode cX4_bestStay 60 = .ok (.iconst (-1), 1) := by decide +kernel
theorem dX4_bestStay_61 : decode cX4_bestStay 61 = .ok (.goto 11, 3) := by decide +kernel
theorem dX4_bestStay_64 : decode cX4_bestStay 64 = .ok (.bipush 100, 2) := by decide +kernel
theorem dX4_bestStay_66 : decode cX4_bestStay 66 = .ok (.iload 4, 2) := by decide +kernel
theorem dX4_bestStay_68 : decode cX4_bestStay 68 = .ok (.imul, 1) := by decide +kernel
theorem dX4_bestStay_69 : decode cX4_bestStay 69 = .ok (.iload 5, 2) := by decide +kernel
theorem dX4_bestStay_71 : decode cX4_bestStay 71 = .ok (.iadd, 1) := by decide +kernel
theorem dX4_bestStay_72 : decode cX4_bestStay 72 = .ok (.ireturn, 1) := by decide +kernel
theorem dX4_bestStand_0 : decode cX4_bestStand 0 = .ok (.iconst 0, 1) := by decide +kernel
theorem dX4_bestStand_1 : decode cX4_bestStand 1 = .ok (.istore 4, 2) := by decide +kernel
theorem dX4_bestStand_3 : decode cX4_bestStand 3 = .ok (.iload 4, 2) := by decide +kernel
theorem dX4_bestStand_5 : decode cX4_bestStand 5 = .ok (.iconst 4, 1) := by decide +kernel
theorem dX4_bestStand_6 : decode cX4_bestStand 6 = .ok (.if_icmp .ge 45, 3) := by decide +kernel
theorem dX4_bestStand_9 : decode cX4_bestStand 9 = .ok (.aload_n 0, 1) := by decide +kernel
theorem dX4_bestStand_10 : decode cX4_bestStand 10 = .ok (.getfield 14, 3) := by decide +kernel
theorem dX4_bestStand_13 : decode cX4_bestStand 13 = .ok (.iconst 0, 1) := by decide +kernel
theorem dX4_bestStand_14 : decode cX4_bestStand 14 = .ok (.iload 4, 2) := by decide +kernel
theorem dX4_bestStand_16 : decode cX4_bestStand 16 = .ok (.aload_n 1, 1) := by decide +kernel
theorem dX4_bestStand_17 : decode cX4_bestStand 17 = .ok (.iconst 0, 1) := by decide +kernel
theorem dX4_bestStand_18 : decode cX4_bestStand 18 = .ok (.iload 4, 2) := by decide +kernel
theorem dX4_bestStand_20 : decode cX4_bestStand 20 = .ok (.iload_n 2, 1) := by decide +kernel
theorem dX4_bestStand_21 : decode cX4_bestStand 21 = .ok (.invokestatic 44, 3) := by decide +kernel
theorem dX4_bestStand_24 : decode cX4_bestStand 24 = .ok (.invokevirtual 48, 3) := by decide +kernel
theorem dX4_bestStand_27 : decode cX4_bestStand 27 = .ok (.aload_n 0, 1) := by decide +kernel
theorem dX4_bestStand_28 : decode cX4_bestStand 28 = .ok (.getfield 14, 3) := by decide +kernel
theorem dX4_bestStand_31 : decode cX4_bestStand 31 = .ok (.iconst 1, 1) := by decide +kernel
theorem dX4_bestStand_32 : decode cX4_bestStand 32 = .ok (.iload 4, 2) := by decide +kernel
theorem dX4_bestStand_34 : decode cX4_bestStand 34 = .ok (.aload_n 1, 1) := by decide +kernel
theorem dX4_bestStand_35 : decode cX4_bestStand 35 = .ok (.iconst 1, 1) := by decide +kernel
theorem dX4_bestStand_36 : decode cX4_bestStand 36 = .ok (.iload 4, 2) := by decide +kernel
theorem dX4_bestStand_38 : decode cX4_bestStand 38 = .ok (.iload_n 2, 1) := by decide +kernel
theorem dX4_bestStand_39 : decode cX4_bestStand 39 = .ok (.invokestatic 44, 3) := by decide +kernel
theorem dX4_bestStand_42 : decode cX4_bestStand 42 = .ok (.invokevirtual 48, 3) := by decide +kernel
theorem dX4_bestStand_45 : decode cX4_bestStand 45 = .ok (.iinc 4 1, 3) := by decide +kernel
theorem dX4_bestStand_48 : decode cX4_bestStand 48 = .ok (.goto (-45), 3) := by decide +kernel
theorem dX4_bestStand_51 : decode cX4_bestStand 51 = .ok (.iconst (-1), 1) := by decide +kernel
theorem dX4_bestStand_52 : decode cX4_bestStand 52 = .ok (.istore 4, 2) := by decide +kernel
theorem dX4_bestStand_54 : decode cX4_bestStand 54 = .ok (.iconst (-1), 1) := by decide +kernel
theorem dX4_bestStand_55 : decode cX4_bestStand 55 = .ok (.istore 5, 2) := by decide +kernel
theorem dX4_bestStand_57 : decode cX4_bestStand 57 = .ok (.iconst 0, 1) := by decide +kernel
theorem dX4_bestStand_58 : decode cX4_bestStand 58 = .ok (.istore 6, 2) := by decide +kernel
theorem dX4_bestStand_60 : decode cX4_bestStand 60 = .ok (.iload 6, 2) := by decide +kernel
theorem dX4_bestStand_62 : decode cX4_bestStand 62 = .ok (.iconst 4, 1) := by decide +kernel
theorem dX4_bestStand_63 : decode cX4_bestStand 63 = .ok (.if_icmp .ge 71, 3) := by decide +kernel
theorem dX4_bestStand_66 : decode cX4_bestStand 66 = .ok (.iconst 0, 1) := by decide +kernel
theorem dX4_bestStand_67 : decode cX4_bestStand 67 = .ok (.istore 7, 2) := by decide +kernel
theorem dX4_bestStand_69 : decode cX4_bestStand 69 = .ok (.iload 7, 2) := by decide +kernel
theorem dX4_bestStand_71 : decode cX4_bestStand 71 = .ok (.iconst 4, 1) := by decide +kernel
theorem dX4_bestStand_72 : decode cX4_bestStand 72 = .ok (.if_icmp .ge 56, 3) := by decide +kernel
theorem dX4_bestStand_75 : decode cX4_bestStand 75 = .ok (.aload_n 0, 1) := by decide +kernel
theorem dX4_bestStand_76 : decode cX4_bestStand 76 = .ok (.getfield 14, 3) := by decide +kernel
theorem dX4_bestStand_79 : decode cX4_bestStand 79 = .ok (.iconst 0, 1) := by decide +kernel
theorem dX4_bestStand_80 : decode cX4_bestStand 80 = .ok (.iload 6, 2) := by decide +kernel
theorem dX4_bestStand_82 : decode cX4_bestStand 82 = .ok (.invokevirtual 25, 3) := by decide +kernel
theorem dX4_bestStand_85 : decode cX4_bestStand 85 = .ok (.aload_n 0, 1) := by decide +kernel
theorem dX4_bestStand_86 : decode cX4_bestStand 86 = .ok (.getfield 14, 3) := by decide +kernel
theorem dX4_bestStand_89 : decode cX4_bestStand 89 = .ok (.iconst 1, 1) := by decide +kernel
theorem dX4_bestStand_90 : decode cX4_bestStand 90 = .ok (.iload 7, 2) := by decide +kernel
theorem dX4_bestStand_92 : decode cX4_bestStand 92 = .ok (.invokevirtual 25, 3) := by decide +kernel
theorem dX4_bestStand_95 : decode cX4_bestStand 95 = .ok (.ior, 1) := by decide +kernel
theorem dX4_bestStand_96 : decode cX4_bestStand 96 = .ok (.invokestatic 52, 3) := by decide +kernel
theorem dX4_bestStand_99 : decode cX4_bestStand 99 = .ok (.istore 8, 2) := by decide +kernel
theorem dX4_bestStand_101 : decode cX4_bestStand 101 = .ok (.iload 8, 2) := by decide +kernel
theorem dX4_bestStand_103 : decode cX4_bestStand 103 = .ok (.iload 4, 2) := by decide +kernel
theorem dX4_bestStand_105 : decode cX4_bestStand 105 = .ok (.if_icmp .le 17, 3) := by decide +kernel
theorem dX4_bestStand_108 : decode cX4_bestStand 108 = .ok (.iload 8, 2) := by decide +kernel
theorem dX4_bestStand_110 : decode cX4_bestStand 110 = .ok (.istore 4, 2) := by decide +kernel
theorem dX4_bestStand_112 : decode cX4_bestStand 112 = .ok (.bipush 10, 2) := by decide +kernel
theorem dX4_bestStand_114 : decode cX4_bestStand 114 = .ok (.iload 6, 2) := by decide +kernel
theorem dX4_bestStand_116 : decode cX4_bestStand 116 = .ok (.imul, 1) := by decide +kernel
theorem dX4_bestStand_117 : decode cX4_bestStand 117 = .ok (.iload 7, 2) := by decide +kernel
theorem dX4_bestStand_119 : decode cX4_bestStand 119 = .ok (.iadd, 1) := by decide +kernel
theorem dX4_bestStand_120 : decode cX4_bestStand 120 = .ok (.istore 5, 2) := by decide +kernel
theorem dX4_bestStand_122 : decode cX4_bestStand 122 = .ok (.iinc 7 1, 3) := by decide +kernel
theorem dX4_bestStand_125 : decode cX4_bestStand 125 = .ok (.goto (-56), 3) := by decide +kernel
theorem dX4_bestStand_128 : decode cX4_bestStand 128 = .ok (.iinc 6 1, 3) := by decide +kernel
theorem dX4_bestStand_131 : decode cX4_bestStand 131 = .ok (.goto (-71), 3) := by decide +kernel
theorem dX4_bestStand_134 : decode cX4_bestStand 134 = .ok (.iload_n 3, 1) := by decide +kernel
theorem dX4_bestStand_135 : decode cX4_bestStand 135 = .ok (.ifCond .ne 8, 3) := by decide +kernel
theorem dX4_bestStand_138 : decode cX4_bestStand 138 = .ok (.iload 4, 2) := by decide +kernel
theorem dX4_bestStand_140 : decode cX4_bestStand 140 = .ok (.goto 5, 3) := by decide +kernel
theorem dX4_bestStand_143 : decode cX4_bestStand 143 = .ok (.iload 5, 2) := by decide +kernel
theorem dX4_bestStand_145 : decode cX4_bestStand 145 = .ok (.ireturn, 1) := by decide +kernel
theorem dX4_knownBehind_0 : decode cX4_knownBehind 0 = .ok (.aload_n 0, 1) := by decide +kernel
theorem dX4_knownBehind_1 : decode cX4_knownBehind 1 = .ok (.getfield 20, 3) := by decide +kernel
theorem dX4_knownBehind_4 : decode cX4_knownBehind 4 = .ok (.iload_n 1, 1) := by decide +kernel
theorem dX4_knownBehind_5 : decode cX4_knownBehind 5 = .ok (.iconst 2, 1) := by decide +kernel
theorem dX4_knownBehind_6 : decode cX4_knownBehind 6 = .ok (.invokevirtual 25, 3) := by decide +kernel
theorem dX4_knownBehind_9 : decode cX4_knownBehind 9 = .ok (.istore 4, 2) := by decide +kernel
theorem dX4_knownBehind_11 : decode cX4_knownBehind 11 = .ok (.iconst 0, 1) := by decide +kernel
theorem dX4_knownBehind_12 : decode cX4_knownBehind 12 = .ok (.istore 5, 2) := by decide +kernel
theorem dX4_knownBehind_14 : decode cX4_knownBehind 14 = .ok (.iload 5, 2) := by decide +kernel
theorem dX4_knownBehind_16 : decode cX4_knownBehind 16 = .ok (.iload_n 3, 1) := by decide +kernel
theorem dX4_knownBehind_17 : decode cX4_knownBehind 17 = .ok (.if_icmp .ge 22, 3) := by decide +kernel
theorem dX4_knownBehind_20 : decode cX4_knownBehind 20 = .ok (.iload 4, 2) := by decide +kernel
theorem dX4_knownBehind_22 : decode cX4_knownBehind 22 = .ok (.aload_n 0, 1) := by decide +kernel
theorem dX4_knownBehind_23 : decode cX4_knownBehind 23 = .ok (.iload_n 1, 1) := by decide +kernel
theorem dX4_knownBehind_24 : decode cX4_knownBehind 24 = .ok (.iload_n 2, 1) := by decide +kernel
theorem dX4_knownBehind_25 : decode cX4_knownBehind 25 = .ok (.iload 5, 2) := by decide +kernel
theorem dX4_knownBehind_27 : decode cX4_knownBehind 27 = .ok (.invokevirtual 32, 3) := by decide +kernel
theorem dX4_knownBehind_30 : decode cX4_knownBehind 30 = .ok (.ior, 1) := by decide +kernel
theorem dX4_knownBehind_31 : decode cX4_knownBehind 31 = .ok (.istore 4, 2) := by decide +kernel
theorem dX4_knownBehind_33 : decode cX4_knownBehind 33 = .ok (.iinc 5 1, 3) := by decide +kernel
theorem dX4_knownBehind_36 : decode cX4_knownBehind 36 = .ok (.goto (-22), 3) := by decide +kernel
theorem dX4_knownBehind_39 : decode cX4_knownBehind 39 = .ok (.iload 4, 2) := by decide +kernel
theorem dX4_knownBehind_41 : decode cX4_knownBehind 41 = .ok (.ireturn, 1) := by decide +kernel
theorem dX4_restingPair_0 : decode cX4_restingPair 0 = .ok (.iconst 0, 1) := by decide +kernel
theorem dX4_restingPair_1 : decode cX4_restingPair 1 = .ok (.istore_n 3, 1) := by decide +kernel
theorem dX4_restingPair_2 : decode cX4_restingPair 2 = .ok (.iload_n 3, 1) := by decide +kernel
theorem dX4_restingPair_3 : decode cX4_restingPair 3 = .ok (.iconst 4, 1) := by decide +kernel
theorem dX4_restingPair_4 : decode cX4_restingPair 4 = .ok (.if_icmp .ge 57, 3) := by decide +kernel
theorem dX4_restingPair_7 : decode cX4_restingPair 7 = .ok (.aload_n 1, 1) := by decide +kernel
theorem dX4_restingPair_8 : decode cX4_restingPair 8 = .ok (.iload_n 3, 1) := by decide +kernel
theorem dX4_restingPair_9 : decode cX4_restingPair 9 = .ok (.iconst 0, 1) := by decide +kernel
theorem dX4_restingPair_10 : decode cX4_restingPair 10 = .ok (.invokevirtual 29, 3) := by decide +kernel
theorem dX4_restingPair_13 : decode cX4_restingPair 13 = .ok (.istore 4, 2) := by decide +kernel
theorem dX4_restingPair_15 : decode cX4_restingPair 15 = .ok (.aload_n 0, 1) := by decide +kernel
theorem dX4_restingPair_16 : decode cX4_restingPair 16 = .ok (.getfield 14, 3) := by decide +kernel
theorem dX4_restingPair_19 : decode cX4_restingPair 19 = .ok (.iconst 0, 1) := by decide +kernel
theorem dX4_restingPair_20 : decode cX4_restingPair 20 = .ok (.iload_n 3, 1) := by decide +kernel
theorem dX4_restingPair_21 : decode cX4_restingPair 21 = .ok (.aload_n 1, 1) := by decide +kernel
theorem dX4_restingPair_22 : decode cX4_restingPair 22 = .ok (.iconst 0, 1) := by decide +kernel
theorem dX4_restingPair_23 : decode cX4_restingPair 23 = .ok (.iload_n 3, 1) := by decide +kernel
theorem dX4_restingPair_24 : decode cX4_restingPair 24 = .ok (.iload 4, 2) := by decide +kernel
theorem dX4_restingPair_26 : decode cX4_restingPair 26 = .ok (.invokevirtual 32, 3) := by decide +kernel
theorem dX4_restingPair_29 : decode cX4_restingPair 29 = .ok (.invokestatic 52, 3) := by decide +kernel
theorem dX4_restingPair_32 : decode cX4_restingPair 32 = .ok (.invokevirtual 48, 3) := by decide +kernel
theorem dX4_restingPair_35 : decode cX4_restingPair 35 = .ok (.aload_n 0, 1) := by decide +kernel
theorem dX4_restingPair_36 : decode cX4_restingPair 36 = .ok (.getfield 14, 3) := by decide +kernel
theorem dX4_restingPair_39 : decode cX4_restingPair 39 = .ok (.iconst 1, 1) := by decide +kernel
theorem dX4_restingPair_40 : decode cX4_restingPair 40 = .ok (.iload_n 3, 1) := by decide +kernel
theorem dX4_restingPair_41 : decode cX4_restingPair 41 = .ok (.aload_n 1, 1) := by decide +kernel
theorem dX4_restingPair_42 : decode cX4_restingPair 42 = .ok (.iconst 1, 1) := by decide +kernel
theorem dX4_restingPair_43 : decode cX4_restingPair 43 = .ok (.iload_n 3, 1) := by decide +kernel
theorem dX4_restingPair_44 : decode cX4_restingPair 44 = .ok (.iload 4, 2) := by decide +kernel
theorem dX4_restingPair_46 : decode cX4_restingPair 46 = .ok (.invokevirtual 32, 3) := by decide +kernel
theorem dX4_restingPair_49 : decode cX4_restingPair 49 = .ok (.invokestatic 52, 3) := by decide +kernel
theorem dX4_restingPair_52 : decode cX4_restingPair 52 = .ok (.invokevirtual 48, 3) := by decide +kernel
theorem dX4_restingPair_55 : decode cX4_restingPair 55 = .ok (.iinc 3 1, 3) := by decide +kernel
theorem dX4_restingPair_58 : decode cX4_restingPair 58 = .ok (.goto (-56), 3) := by decide +kernel
theorem dX4_restingPair_61 : decode cX4_restingPair 61 = .ok (.iconst 0, 1) := by decide +kernel
theorem dX4_restingPair_62 : decode cX4_restingPair 62 = .ok (.istore_n 3, 1) := by decide +kernel
theorem dX4_restingPair_63 : decode cX4_restingPair 63 = .ok (.iconst 0, 1) := by decide +kernel
theorem dX4_restingPair_64 : decode cX4_restingPair 64 = .ok (.istore 4, 2) := by decide +kernel
theorem dX4_restingPair_66 : decode cX4_restingPair 66 = .ok (.iload 4, 2) := by decide +kernel
theorem dX4_restingPair_68 : decode cX4_restingPair 68 = .ok (.iconst 4, 1) := by decide +kernel
theorem dX4_restingPair_69 : decode cX4_restingPair 69 = .ok (.if_icmp .ge 65, 3) := by decide +kernel
theorem dX4_restingPair_72 : decode cX4_restingPair 72 = .ok (.iconst 0, 1) := by decide +kernel
theorem dX4_restingPair_73 : decode cX4_restingPair 73 = .ok (.istore 5, 2) := by decide +kernel
theorem dX4_restingPair_75 : decode cX4_restingPair 75 = .ok (.iload 5, 2) := by decide +kernel
theorem dX4_restingPair_77 : decode cX4_restingPair 77 = .ok (.iconst 4, 1) := by decide +kernel
theorem dX4_restingPair_78 : decode cX4_restingPair 78 = .ok (.if_icmp .ge 50, 3) := by decide +kernel
theorem dX4_restingPair_81 : decode cX4_restingPair 81 = .ok (.aload_n 0, 1) := by decide +kernel
theorem dX4_restingPair_82 : decode cX4_restingPair 82 = .ok (.iconst 0, 1) := by decide +kernel
theorem dX4_restingPair_83 : decode cX4_restingPair 83 = .ok (.iload 4, 2) := by decide +kernel
theorem dX4_restingPair_85 : decode cX4_restingPair 85 = .ok (.iload 5, 2) := by decide +kernel
theorem dX4_restingPair_87 : decode cX4_restingPair 87 = .ok (.invokevirtual 58, 3) := by decide +kernel
theorem dX4_restingPair_90 : decode cX4_restingPair 90 = .ok (.ifCond .eq 32, 3) := by decide +kernel
theorem dX4_restingPair_93 : decode cX4_restingPair 93 = .ok (.aload_n 0, 1) := by decide +kernel
theorem dX4_restingPair_94 : decode cX4_restingPair 94 = .ok (.iconst 1, 1) := by decide +kernel
theorem dX4_restingPair_95 : decode cX4_restingPair 95 = .ok (.iload 5, 2) := by decide +kernel
theorem dX4_restingPair_97 : decode cX4_restingPair 97 = .ok (.iload 4, 2) := by decide +kernel
theorem dX4_restingPair_99 : decode cX4_restingPair 99 = .ok (.invokevirtual 58, 3) := by decide +kernel
theorem dX4_restingPair_102 : decode cX4_restingPair 102 = .ok (.ifCond .eq 20, 3) := by decide +kernel
theorem dX4_restingPair_105 : decode cX4_restingPair 105 = .ok (.iload_n 3, 1) := by decide +kernel
theorem dX4_restingPair_106 : decode cX4_restingPair 106 = .ok (.iload_n 2, 1) := by decide +kernel
theorem dX4_restingPair_107 : decode cX4_restingPair 107 = .ok (.if_icmp .ne 12, 3) := by decide +kernel
theorem dX4_restingPair_110 : decode cX4_restingPair 110 = .ok (.bipush 10, 2) := by decide +kernel
theorem dX4_restingPair_112 : decode cX4_restingPair 112 = .ok (.iload 4, 2) := by decide +kernel
theorem dX4_restingPair_114 : decode cX4_restingPair 114 = .ok (.imul, 1) := by decide +kernel
theorem dX4_restingPair_115 : decode cX4_restingPair 115 = .ok (.iload 5, 2) := by decide +kernel
theorem dX4_restingPair_117 : decode cX4_restingPair 117 = .ok (.iadd, 1) := by decide +kernel
theorem dX4_restingPair_118 : decode cX4_restingPair 118 = .ok (.ireturn, 1) := by decide +kernel
theorem dX4_restingPair_119 : decode cX4_restingPair 119 = .ok (.iinc 3 1, 3) := by decide +kernel
theorem dX4_restingPair_122 : decode cX4_restingPair 122 = .ok (.iinc 5 1, 3) := by decide +kernel
theorem dX4_restingPair_125 : decode cX4_restingPair 125 = .ok (.goto (-50), 3) := by decide +kernel
theorem dX4_restingPair_128 : decode cX4_restingPair 128 = .ok (.iinc 4 1, 3) := by decide +kernel
theorem dX4_restingPair_131 : decode cX4_restingPair 131 = .ok (.goto (-65), 3) := by decide +kernel
theorem dX4_restingPair_134 : decode cX4_restingPair 134 = .ok (.iload_n 2, 1) := by decide +kernel
theorem dX4_restingPair_135 : decode cX4_restingPair 135 = .ok (.iconst (-1), 1) := by decide +kernel
theorem dX4_restingPair_136 : decode cX4_restingPair 136 = .ok (.if_icmp .ne 7, 3) := by decide +kernel
theorem dX4_restingPair_139 : decode cX4_restingPair 139 = .ok (.iload_n 3, 1) := by decide +kernel
theorem dX4_restingPair_140 : decode cX4_restingPair 140 = .ok (.goto 5, 3) := by decide +kernel
theorem dX4_restingPair_143 : decode cX4_restingPair 143 = .ok (.bipush (-5), 2) := by decide +kernel
theorem dX4_restingPair_145 : decode cX4_restingPair 145 = .ok (.ireturn, 1) := by decide +kernel
theorem dX4_wouldRest_0 : decode cX4_wouldRest 0 = .ok (.aload_n 0, 1) := by decide +kernel
theorem dX4_wouldRest_1 : decode cX4_wouldRest 1 = .ok (.iload_n 1, 1) := by decide +kernel
theorem dX4_wouldRest_2 : decode cX4_wouldRest 2 = .ok (.iload_n 2, 1) := by decide +kernel
theorem dX4_wouldRest_3 : decode cX4_wouldRest 3 = .ok (.iload_n 3, 1) := by decide +kernel
theorem dX4_wouldRest_4 : decode cX4_wouldRest 4 = .ok (.invokevirtual 62, 3) := by decide +kernel
theorem dX4_wouldRest_7 : decode cX4_wouldRest 7 = .ok (.istore 4, 2) := by decide +kernel
theorem dX4_wouldRest_9 : decode cX4_wouldRest 9 = .ok (.iconst 0, 1) := by decide +kernel
theorem dX4_wouldRest_10 : decode cX4_wouldRest 10 = .ok (.istore 5, 2) := by decide +kernel
theorem dX4_wouldRest_12 : decode cX4_wouldRest 12 = .ok (.iload 5, 2) := by decide +kernel
theorem dX4_wouldRest_14 : decode cX4_wouldRest 14 = .ok (.iconst 4, 1) := by decide +kernel
theorem dX4_wouldRest_15 : decode cX4_wouldRest 15 = .ok (.if_icmp .ge 24, 3) := by decide +kernel
theorem dX4_wouldRest_18 : decode cX4_wouldRest 18 = .ok (.aload_n 0, 1) := by decide +kernel
theorem dX4_wouldRest_19 : decode cX4_wouldRest 19 = .ok (.iload_n 1, 1) := by decide +kernel
theorem dX4_wouldRest_20 : decode cX4_wouldRest 20 = .ok (.iload 5, 2) := by decide +kernel
theorem dX4_wouldRest_22 : decode cX4_wouldRest 22 = .ok (.iload_n 3, 1) := by decide +kernel
theorem dX4_wouldRest_23 : decode cX4_wouldRest 23 = .ok (.invokevirtual 62, 3) := by decide +kernel
theorem dX4_wouldRest_26 : decode cX4_wouldRest 26 = .ok (.iload 4, 2) := by decide +kernel
theorem dX4_wouldRest_28 : decode cX4_wouldRest 28 = .ok (.if_icmp .le 5, 3) := by decide +kernel
theorem dX4_wouldRest_31 : decode cX4_wouldRest 31 = .ok (.iconst 0, 1) := by decide +kernel
theorem dX4_wouldRest_32 : decode cX4_wouldRest 32 = .ok (.ireturn, 1) := by decide +kernel
theorem dX4_wouldRest_33 : decode cX4_wouldRest 33 = .ok (.iinc 5 1, 3) := by decide +kernel
theorem dX4_wouldRest_36 : decode cX4_wouldRest 36 = .ok (.goto (-24), 3) := by decide +kernel
theorem dX4_wouldRest_39 : decode cX4_wouldRest 39 = .ok (.iconst 1, 1) := by decide +kernel
theorem dX4_wouldRest_40 : decode cX4_wouldRest 40 = .ok (.ireturn, 1) := by decide +kernel
theorem dX4_gain_0 : decode cX4_gain 0 = .ok (.aload_n 0, 1) := by decide +kernel
theorem dX4_gain_1 : decode cX4_gain 1 = .ok (.getfield 14, 3) := by decide +kernel
theorem dX4_gain_4 : decode cX4_gain 4 = .ok (.iload_n 1, 1) := by decide +kernel
theorem dX4_gain_5 : decode cX4_gain 5 = .ok (.iload_n 2, 1) := by decide +kernel
theorem dX4_gain_6 : decode cX4_gain 6 = .ok (.invokevirtual 25, 3) := by decide +kernel
theorem dX4_gain_9 : decode cX4_gain 9 = .ok (.istore 4, 2) := by decide +kernel
theorem dX4_gain_11 : decode cX4_gain 11 = .ok (.iload_n 2, 1) := by decide +kernel
theorem dX4_gain_12 : decode cX4_gain 12 = .ok (.iload_n 3, 1) := by decide +kernel
theorem dX4_gain_13 : decode cX4_gain 13 = .ok (.if_icmp .ne 10, 3) := by decide +kernel
theorem dX4_gain_16 : decode cX4_gain 16 = .ok (.iload 4, 2) := by decide +kernel
theorem dX4_gain_18 : decode cX4_gain 18 = .ok (.iconst 1, 1) := by decide +kernel
theorem dX4_gain_19 : decode cX4_gain 19 = .ok (.isub, 1) := by decide +kernel
theorem dX4_gain_20 : decode cX4_gain 20 = .ok (.goto 5, 3) := by decide +kernel
theorem dX4_gain_23 : decode cX4_gain 23 = .ok (.iload 4, 2) := by decide +kernel
theorem dX4_gain_25 : decode cX4_gain 25 = .ok (.ireturn, 1) := by decide +kernel
theorem dX4_workJobs_0 : decode cX4_workJobs 0 = .ok (.iload_n 1, 1) := by decide +kernel
theorem dX4_workJobs_1 : decode cX4_workJobs 1 = .ok (.i2l, 1) := by decide +kernel
theorem dX4_workJobs_2 : decode cX4_workJobs 2 = .ok (.lstore_n 3, 1) := by decide +kernel
theorem dX4_workJobs_3 : decode cX4_workJobs 3 = .ok (.iconst 0, 1) := by decide +kernel
theorem dX4_workJobs_4 : decode cX4_workJobs 4 = .ok (.istore 5, 2) := by decide +kernel
theorem dX4_workJobs_6 : decode cX4_workJobs 6 = .ok (.iload 5, 2) := by decide +kernel
theorem dX4_workJobs_8 : decode cX4_workJobs 8 = .ok (.iload_n 2, 1) := by decide +kernel
theorem dX4_workJobs_9 : decode cX4_workJobs 9 = .ok (.if_icmp .ge 95, 3) := by decide +kernel
theorem dX4_workJobs_12 : decode cX4_workJobs 12 = .ok (.lload_n 3, 1) := by decide +kernel
theorem dX4_workJobs_13 : decode cX4_workJobs 13 = .ok (.ldc2_w 65, 3) := by decide +kernel
theorem dX4_workJobs_16 : decode cX4_workJobs 16 = .ok (.lmul, 1) := by decide +kernel
theorem dX4_workJobs_17 : decode cX4_workJobs 17 = .ok (.ldc2_w 67, 3) := by decide +kernel
theorem dX4_workJobs_20 : decode cX4_workJobs 20 = .ok (.ladd, 1) := by decide +kernel
theorem dX4_workJobs_21 : decode cX4_workJobs 21 = .ok (.ldc2_w 69, 3) := by decide +kernel
theorem dX4_workJobs_24 : decode cX4_workJobs 24 = .ok (.lrem, 1) := by decide +kernel
theorem dX4_workJobs_25 : decode cX4_workJobs 25 = .ok (.lstore_n 3, 1) := by decide +kernel
theorem dX4_workJobs_26 : decode cX4_workJobs 26 = .ok (.lload_n 3, 1) := by decide +kernel
theorem dX4_workJobs_27 : decode cX4_workJobs 27 = .ok (.ldc2_w 71, 3) := by decide +kernel
theorem dX4_workJobs_30 : decode cX4_workJobs 30 = .ok (.ldiv, 1) := by decide +kernel
theorem dX4_workJobs_31 : decode cX4_workJobs 31 = .ok (.ldc2_w 73, 3) := by decide +kernel
theorem dX4_workJobs_34 : decode cX4_workJobs 34 = .ok (.lrem, 1) := by decide +kernel
theorem dX4_workJobs_35 : decode cX4_workJobs 35 = .ok (.l2i, 1) := by decide +kernel
theorem dX4_workJobs_36 : decode cX4_workJobs 36 = .ok (.istore 6, 2) := by decide +kernel
theorem dX4_workJobs_38 : decode cX4_workJobs 38 = .ok (.lload_n 3, 1) := by decide +kernel
theorem dX4_workJobs_39 : decode cX4_workJobs 39 = .ok (.ldc2_w 75, 3) := by decide +kernel
theorem dX4_workJobs_42 : decode cX4_workJobs 42 = .ok (.ldiv, 1) := by decide +kernel
theorem dX4_workJobs_43 : decode cX4_workJobs 43 = .ok (.ldc2_w 77, 3) := by decide +kernel
theorem dX4_workJobs_46 : decode cX4_workJobs 46 = .ok (.lrem, 1) := by decide +kernel
theorem dX4_workJobs_47 : decode cX4_workJobs 47 = .ok (.l2i, 1) := by decide +kernel
theorem dX4_workJobs_48 : decode cX4_workJobs 48 = .ok (.istore 7, 2) := by decide +kernel
theorem dX4_workJobs_50 : decode cX4_workJobs 50 = .ok (.iload 6, 2) := by decide +kernel
theorem dX4_workJobs_52 : decode cX4_workJobs 52 = .ok (.aload_n 0, 1) := by decide +kernel
theorem dX4_workJobs_53 : decode cX4_workJobs 53 = .ok (.getfield 20, 3) := by decide +kernel
theorem dX4_workJobs_56 : decode cX4_workJobs 56 = .ok (.getfield 79, 3) := by decide +kernel
theorem dX4_workJobs_59 : decode cX4_workJobs 59 = .ok (.if_icmp .ge 32, 3) := by decide +kernel
theorem dX4_workJobs_62 : decode cX4_workJobs 62 = .ok (.aload_n 0, 1) := by decide +kernel
theorem dX4_workJobs_63 : decode cX4_workJobs 63 = .ok (.getfield 20, 3) := by decide +kernel
theorem dX4_workJobs_66 : decode cX4_workJobs 66 = .ok (.iload 6, 2) := by decide +kernel
theorem dX4_workJobs_68 : decode cX4_workJobs 68 = .ok (.iconst 1, 1) := by decide +kernel
theorem dX4_workJobs_69 : decode cX4_workJobs 69 = .ok (.iload 7, 2) := by decide +kernel
theorem dX4_workJobs_71 : decode cX4_workJobs 71 = .ok (.invokevirtual 48, 3) := by decide +kernel
theorem dX4_workJobs_74 : decode cX4_workJobs 74 = .ok (.aload_n 0, 1) := by decide +kernel
theorem dX4_workJobs_75 : decode cX4_workJobs 75 = .ok (.iload 7, 2) := by decide +kernel
theorem dX4_workJobs_77 : decode cX4_workJobs 77 = .ok (.iconst 0, 1) := by decide +kernel
theorem dX4_workJobs_78 : decode cX4_workJobs 78 = .ok (.invokevirtual 29, 3) := by decide +kernel
theorem dX4_workJobs_81 : decode cX4_workJobs 81 = .ok (.iconst (-1), 1) := by decide +kernel
theorem dX4_workJobs_82 : decode cX4_workJobs 82 = .ok (.if_icmp .ne 9, 3) := by decide +kernel
theorem dX4_workJobs_85 : decode cX4_workJobs 85 = .ok (.aload_n 0, 1) := by decide +kernel
theorem dX4_workJobs_86 : decode cX4_workJobs 86 = .ok (.iload 7, 2) := by decide +kernel
theorem dX4_workJobs_88 : decode cX4_workJobs 88 = .ok (.invokevirtual 83, 3) := by decide +kernel
theorem dX4_workJobs_91 : decode cX4_workJobs 91 = .ok (.aload_n 0, 1) := by decide +kernel
theorem dX4_workJobs_92 : decode cX4_workJobs 92 = .ok (.iconst 1, 1) := by decide +kernel
theorem dX4_workJobs_93 : decode cX4_workJobs 93 = .ok (.ldc 87, 2) := by decide +kernel
theorem dX4_workJobs_95 : decode cX4_workJobs 95 = .ok (.invokevirtual 88, 3) := by decide +kernel
theorem dX4_workJobs_98 : decode cX4_workJobs 98 = .ok (.iinc 5 1, 3) := by decide +kernel
theorem dX4_workJobs_101 : decode cX4_workJobs 101 = .ok (.goto (-95), 3) := by decide +kernel
theorem dX4_workJobs_104 : decode cX4_workJobs 104 = .ok (.return_, 1) := by decide +kernel
theorem dX5_init_0 : decode cX5_init 0 = .ok (.aload_n 0, 1) := by decide +kernel
theorem dX5_init_1 : decode cX5_init 1 = .ok (.invokespecial 3, 3) := by decide +kernel
theorem dX5_init_4 : decode cX5_init 4 = .ok (.aload_n 0, 1) := by decide +kernel
theorem dX5_init_5 : decode cX5_init 5 = .ok (.new 9, 3) := by decide +kernel
theorem dX5_init_8 : decode cX5_init 8 = .ok (.dup, 1) := by decide +kernel
theorem dX5_init_9 : decode cX5_init 9 = .ok (.sipush 150, 3) := by decide +kernel
theorem dX5_init_12 : decode cX5_init 12 = .ok (.iconst 1, 1) := by decide +kernel
theorem dX5_init_13 : decode cX5_init 13 = .ok (.invokespecial 11, 3) := by decide +kernel
theorem dX5_init_16 : decode cX5_init 16 = .ok (.putfield 14, 3) := by decide +kernel
theorem dX5_init_19 : decode cX5_init 19 = .ok (.return_, 1) := by decide +kernel
theorem dX5_readInto_0 : decode cX5_readInto 0 = .ok (.aload_n 1, 1) := by decide +kernel
theorem dX5_readInto_1 : decode cX5_readInto 1 = .ok (.invokevirtual 20, 3) := by decide +kernel
theorem dX5_readInto_4 : decode cX5_readInto 4 = .ok (.aload_n 0, 1) := by decide +kernel
theorem dX5_readInto_5 : decode cX5_readInto 5 = .ok (.iconst 0, 1) := by decide +kernel
theorem dX5_readInto_6 : decode cX5_readInto 6 = .ok (.putfield 25, 3) := by decide +kernel
theorem dX5_readInto_9 : decode cX5_readInto 9 = .ok (.aload_n 0, 1) := by decide +kernel
theorem dX5_readInto_10 : decode cX5_readInto 10 = .ok (.invokevirtual 29, 3) := by decide +kernel
theorem dX5_readInto_13 : decode cX5_readInto 13 = .ok (.aload_n 0, 1) := by decide +kernel
theorem dX5_readInto_14 : decode cX5_readInto 14 = .ok (.ldc 32, 2) := by decide +kernel
theorem dX5_readInto_16 : decode cX5_readInto 16 = .ok (.invokevirtual 34, 3) := by decide +kernel
theorem dX5_readInto_19 : decode cX5_readInto 19 = .ok (.ifCond .eq 10, 3) := by decide +kernel
theorem dX5_readInto_22 : decode cX5_readInto 22 = .ok (.aload_n 0, 1) := by decide +kernel
theorem dX5_readInto_23 : decode cX5_readInto 23 = .ok (.invokevirtual 38, 3) := by decide +kernel
theorem dX5_readInto_26 : decode cX5_readInto 26 = .ok (.ifCond .ne 11, 3) := by decide +kernel
theorem dX5_readInto_29 : decode cX5_readInto 29 = .ok (.bipush (-10), 2) := by decide +kernel
theorem dX5_readInto_31 : decode cX5_readInto 31 = .ok (.aload_n 0, 1) := by decide +kernel
theorem dX5_readInto_32 : decode cX5_readInto 32 = .ok (.getfield 42, 3) := by decide +kernel
theorem dX5_readInto_35 : decode cX5_readInto 35 = .ok (.isub, 1) := by decide +kernel
theorem dX5_readInto_36 : decode cX5_readInto 36 = .ok (.ireturn, 1) := by decide +kernel
theorem dX5_readInto_37 : decode cX5_readInto 37 = .ok (.iconst 1, 1) := by decide +kernel
theorem dX5_readInto_38 : decode cX5_readInto 38 = .ok (.istore_n 2, 1) := by decide +kernel
theorem dX5_readInto_39 : decode cX5_readInto 39 = .ok (.iload_n 2, 1) := by decide +kernel
theorem dX5_readInto_40 : decode cX5_readInto 40 = .ok (.sipush 150, 3) := by decide +kernel
theorem dX5_readInto_43 : decode cX5_readInto 43 = .ok (.if_icmp .gt 64, 3) := by decide +kernel
theorem dX5_readInto_46 : decode cX5_readInto 46 = .ok (.aload_n 0, 1) := by decide +kernel
theorem dX5_readInto_47 : decode cX5_readInto 47 = .ok (.invokevirtual 29, 3) := by decide +kernel
theorem dX5_readInto_50 : decode cX5_readInto 50 = .ok (.aload_n 0, 1) := by decide +kernel
theorem dX5_readInto_51 : decode cX5_readInto 51 = .ok (.getfield 45, 3) := by decide +kernel
theorem dX5_readInto_54 : decode cX5_readInto 54 = .ok (.ifCond .ne 5, 3) := by decide +kernel
theorem dX5_readInto_57 : decode cX5_readInto 57 = .ok (.iload_n 2, 1) := by decide +kernel
theorem dX5_readInto_58 : decode cX5_readInto 58 = .ok (.ireturn, 1) := by decide +kernel
theorem dX5_readInto_59 : decode cX5_readInto 59 = .ok (.aload_n 0, 1) := by decide +kernel
theorem dX5_readInto_60 : decode cX5_readInto 60 = .ok (.invokevirtual 48, 3) := by decide +kernel
theorem dX5_readInto_63 : decode cX5_readInto 63 = .ok (.istore_n 3, 1) := by decide +kernel
theorem dX5_readInto_64 : decode cX5_readInto 64 = .ok (.aload_n 1, 1) := by decide +kernel
theorem dX5_readInto_65 : decode cX5_readInto 65 = .ok (.iload_n 3, 1) := by decide +kernel
theorem dX5_readInto_66 : decode cX5_readInto 66 = .ok (.invokestatic 52, 3) := by decide +kernel
theorem dX5_readInto_69 : decode cX5_readInto 69 = .ok (.ifCond .eq 18, 3) := by decide +kernel
theorem dX5_readInto_72 : decode cX5_readInto 72 = .ok (.aload_n 0, 1) := by decide +kernel
theorem dX5_readInto_73 : decode cX5_readInto 73 = .ok (.iload_n 3, 1) := by decide +kernel
theorem dX5_readInto_74 : decode cX5_readInto 74 = .ok (.invokevirtual 56, 3) := by decide +kernel
theorem dX5_readInto_77 : decode cX5_readInto 77 = .ok (.ifCond .eq 10, 3) := by decide +kernel
theorem dX5_readInto_80 : decode cX5_readInto 80 = .ok (.aload_n 0, 1) := by decide +kernel
theorem dX5_readInto_81 : decode cX5_readInto 81 = .ok (.invokevirtual 38, 3) := by decide +kernel
theorem dX5_readInto_84 : decode cX5_readInto 84 = .ok (.ifCond .ne 11, 3) := by decide +kernel
theorem dX5_readInto_87 : decode cX5_readInto 87 = .ok (.bipush (-10), 2) := by decide +kernel
theorem dX5_readInto_89 : decode cX5_readInto 89 = .ok (.aload_n 0, 1) := by decide +kernel
theorem dX5_readInto_90 : decode cX5_readInto 90 = .ok (.getfield 42, 3) := by decide +kernel
theorem dX5_readInto_93 : decode cX5_readInto 93 = .ok (.isub, 1) := by decide +kernel
theorem dX5_readInto_94 : decode cX5_readInto 94 = .ok (.ireturn, 1) := by decide +kernel
theorem dX5_readInto_95 : decode cX5_readInto 95 = .ok (.aload_n 0, 1) := by decide +kernel
theorem dX5_readInto_96 : decode cX5_readInto 96 = .ok (.aload_n 1, 1) := by decide +kernel
theorem dX5_readInto_97 : decode cX5_readInto 97 = .ok (.iload_n 3, 1) := by decide +kernel
theorem dX5_readInto_98 : decode cX5_readInto 98 = .ok (.invokevirtual 60, 3) := by decide +kernel
theorem dX5_readInto_101 : decode cX5_readInto 101 = .ok (.iinc 2 1, 3) := by decide +kernel
theorem dX5_readInto_104 : decode cX5_readInto 104 = .ok (.goto (-65), 3) := by decide +kernel
theorem dX5_readInto_107 : decode cX5_readInto 107 = .ok (.bipush (-10), 2) := by decide +kernel
theorem dX5_readInto_109 : decode cX5_readInto 109 = .ok (.aload_n 0, 1) := by decide +kernel
theorem dX5_readInto_110 : decode cX5_readInto 110 = .ok (.getfield 42, 3) := by decide +kernel
theorem dX5_readInto_113 : decode cX5_readInto 113 = .ok (.isub, 1) := by decide +kernel
theorem dX5_readInto_114 : decode cX5_readInto 114 = .ok (.ireturn, 1) := by decide +kernel
theorem dX5_itemBegun_0 : decode cX5_itemBegun 0 = .ok (.aload_n 0, 1) := by decide +kernel
theorem dX5_itemBegun_1 : decode cX5_itemBegun 1 = .ok (.ldc 64, 2) := by decide +kernel
theorem dX5_itemBegun_3 : decode cX5_itemBegun 3 = .ok (.invokevirtual 34, 3) := by decide +kernel
theorem dX5_itemBegun_6 : decode cX5_itemBegun 6 = .ok (.ifCond .eq 5, 3) := by decide +kernel
theorem dX5_itemBegun_9 : decode cX5_itemBegun 9 = .ok (.iconst 1, 1) := by decide +kernel
theorem dX5_itemBegun_10 : decode cX5_itemBegun 10 = .ok (.ireturn, 1) := by decide +kernel
theorem dX5_itemBegun_11 : decode cX5_itemBegun 11 = .ok (.aload_n 0, 1) := by decide +kernel
theorem dX5_itemBegun_12 : decode cX5_itemBegun 12 = .ok (.ldc 66, 2) := by decide +kernel
theorem dX5_itemBegun_14 : decode cX5_itemBegun 14 = .ok (.invokevirtual 34, 3) := by decide +kernel
theorem dX5_itemBegun_17 : decode cX5_itemBegun 17 = .ok (.ifCond .eq 5, 3) := by decide +kernel
theorem dX5_itemBegun_20 : decode cX5_itemBegun 20 = .ok (.iconst 2, 1) := by decide +kernel
theorem dX5_itemBegun_21 : decode cX5_itemBegun 21 = .ok (.ireturn, 1) := by decide +kernel
theorem dX5_itemBegun_22 : decode cX5_itemBegun 22 = .ok (.aload_n 0, 1) := by decide +kernel
theorem dX5_itemBegun_23 : decode cX5_itemBegun 23 = .ok (.ldc 68, 2) := by decide +kernel
theorem dX5_itemBegun_25 : decode cX5_itemBegun 25 = .ok (.invokevirtual 34, 3) := by decide +kernel
theorem dX5_itemBegun_28 : decode cX5_itemBegun 28 = .ok (.ifCond .eq 5, 3) := by decide +kernel
theorem dX5_itemBegun_31 : decode cX5_itemBegun 31 = .ok (.iconst 3, 1) := by decide +kernel
theorem dX5_itemBegun_32 : decode cX5_itemBegun 32 = .ok (.ireturn, 1) := by decide +kernel
theorem dX5_itemBegun_33 : decode cX5_itemBegun 33 = .ok (.aload_n 0, 1) := by decide +kernel
theorem dX5_itemBegun_34 : decode cX5_itemBegun 34 = .ok (.ldc 70, 2) := by decide +kernel
theorem dX5_itemBegun_36 : decode cX5_itemBegun 36 = .ok (.invokevirtual 34, 3) := by decide +kernel
theorem dX5_itemBegun_39 : decode cX5_itemBegun 39 = .ok (.ifCond .eq 5, 3) := by decide +kernel
theorem dX5_itemBegun_42 : decode cX5_itemBegun 42 = .ok (.iconst 4, 1) := by decide +kernel
theorem dX5_itemBegun_43 : decode cX5_itemBegun 43 = .ok (.ireturn, 1) := by decide +kernel
theorem dX5_itemBegun_44 : decode cX5_itemBegun 44 = .ok (.aload_n 0, 1) := by decide +kernel
theorem dX5_itemBegun_45 : decode cX5_itemBegun 45 = .ok (.ldc 72, 2) := by decide +kernel
theorem dX5_itemBegun_47 : decode cX5_itemBegun 47 = .ok (.invokevirtual 34, 3) := by decide +kernel
theorem dX5_itemBegun_50 : decode cX5_itemBegun 50 = .ok (.ifCond .eq 7, 3) := by decide +kernel
theorem dX5_itemBegun_53 : decode cX5_itemBegun 53 = .ok (.iconst 5, 1) := by decide +kernel
theorem dX5_itemBegun_54 : decode cX5_itemBegun 54 = .ok (.goto 4, 3) := by decide +kernel
theorem dX5_itemBegun_57 : decode cX5_itemBegun 57 = .ok (.iconst 0, 1) := by decide +kernel
theorem dX5_itemBegun_58 : decode cX5_itemBegun 58 = .ok (.ireturn, 1) := by decide +kernel
theorem dX5_mayBegin_0 : decode cX5_mayBegin 0 = .ok (.iload_n 1, 1) := by decide +kernel
theorem dX5_mayBegin_1 : decode cX5_mayBegin 1 = .ok (.tableswitch 61 0 2 #[27, 29, 45], 27) := by decide +kernel
theorem dX5_mayBegin_28 : decode cX5_mayBegin 28 = .ok (.iconst 0, 1) := by decide +kernel
theorem dX5_mayBegin_29 : decode cX5_mayBegin 29 = .ok (.ireturn, 1) := by decide +kernel
theorem dX5_mayBegin_30 : decode cX5_mayBegin 30 = .ok (.aload_n 0, 1) := by decide +kernel
theorem dX5_mayBegin_31 : decode cX5_mayBegin 31 = .ok (.getfield 74, 3) := by decide +kernel
theorem dX5_mayBegin_34 : decode cX5_mayBegin 34 = .ok (.invokevirtual 77, 3) := by decide +kernel
theorem dX5_mayBegin_37 : decode cX5_mayBegin 37 = .ok (.ifCond .ne 7, 3) := by decide +kernel
theorem dX5_mayBegin_40 : decode cX5_mayBegin 40 = .ok (.iconst 1, 1) := by decide +kernel
theorem dX5_mayBegin_41 : decode cX5_mayBegin 41 = .ok (.goto 4, 3) := by decide +kernel
theorem dX5_mayBegin_44 : decode cX5_mayBegin 44 = .ok (.iconst 0, 1) := by decide +kernel
theorem dX5_mayBegin_45 : decode cX5_mayBegin 45 = .ok (.ireturn, 1) := by decide +kernel
theorem dX5_mayBegin_46 : decode cX5_mayBegin 46 = .ok (.aload_n 0, 1) := by decide +kernel
theorem dX5_mayBegin_47 : decode cX5_mayBegin 47 = .ok (.getfield 80, 3) := by decide +kernel
theorem dX5_mayBegin_50 : decode cX5_mayBegin 50 = .ok (.invokevirtual 77, 3) := by decide +kernel
theorem dX5_mayBegin_53 : decode cX5_mayBegin 53 = .ok (.ifCond .ne 7, 3) := by decide +kernel
theorem dX5_mayBegin_56 : decode cX5_mayBegin 56 = .ok (.iconst 1, 1) := by decide +kernel
theorem dX5_mayBegin_57 : decode cX5_mayBegin 57 = .ok (.goto 4, 3) := by decide +kernel
theorem dX5_mayBegin_60 : decode cX5_mayBegin 60 = .ok (.iconst 0, 1) := by decide +kernel
theorem dX5_mayBegin_61 : decode cX5_mayBegin 61 = .ok (.ireturn, 1) := by decide +kernel
theorem dX5_mayBegin_62 : decode cX5_mayBegin 62 = .ok (.iconst 1, 1) := by decide +kernel
theorem dX5_mayBegin_63 : decode cX5_mayBegin 63 = .ok (.ireturn, 1) := by decide +kernel
theorem dX5_readNumbers_0 : decode cX5_readNumbers 0 = .ok (.iload_n 1, 1) := by decide +kernel
theorem dX5_readNumbers_1 : decode cX5_readNumbers 1 = .ok (.iconst 5, 1) := by decide +kernel
theorem dX5_readNumbers_2 : decode cX5_readNumbers 2 = .ok (.if_icmp .ne 11, 3) := by decide +kernel
theorem dX5_readNumbers_5 : decode cX5_readNumbers 5 = .ok (.aload_n 0, 1) := by decide +kernel
theorem dX5_readNumbers_6 : decode cX5_readNumbers 6 = .ok (.iconst 1, 1) := by decide +kernel
theorem dX5_readNumbers_7 : decode cX5_readNumbers 7 = .ok (.bipush 99, 2) := by decide +kernel
theorem dX5_readNumbers_9 : decode cX5_readNumbers 9 = .ok (.invokevirtual 83, 3) := by decide +kernel
theorem dX5_readNumbers_12 : decode cX5_readNumbers 12 = .ok (.ireturn, 1) := by decide +kernel
theorem dX5_readNumbers_13 : decode cX5_readNumbers 13 = .ok (.iload_n 1, 1) := by decide +kernel
theorem dX5_readNumbers_14 : decode cX5_readNumbers 14 = .ok (.iconst 1, 1) := by decide +kernel
theorem dX5_readNumbers_15 : decode cX5_readNumbers 15 = .ok (.if_icmp .eq 8, 3) := by decide +kernel
theorem dX5_readNumbers_18 : decode cX5_readNumbers 18 = .ok (.iload_n 1, 1) := by decide +kernel
theorem dX5_readNumbers_19 : decode cX5_readNumbers 19 = .ok (.iconst 2, 1) := by decide +kernel
theorem dX5_readNumbers_20 : decode cX5_readNumbers 20 = .ok (.if_icmp .ne 22, 3) := by decide +kernel
theorem dX5_readNumbers_23 : decode cX5_readNumbers 23 = .ok (.aload_n 0, 1) := by decide +kernel
theorem dX5_readNumbers_24 : decode cX5_readNumbers 24 = .ok (.iconst 0, 1) := by decide +kernel
theorem dX5_readNumbers_25 : decode cX5_readNumbers 25 = .ok (.iconst 5, 1) := by decide +kernel
theorem dX5_readNumbers_26 : decode cX5_readNumbers 26 = .ok (.invokevirtual 83, 3) := by decide +kernel
theorem dX5_readNumbers_29 : decode cX5_readNumbers 29 = .ok (.ifCond .ne 5, 3) := by decide +kernel
theorem dX5_readNumbers_32 : decode cX5_readNumbers 32 = .ok (.iconst 0, 1) := by decide +kernel
theorem dX5_readNumbers_33 : decode cX5_readNumbers 33 = .ok (.ireturn, 1) := by decide +kernel
theorem dX5_readNumbers_34 : decode cX5_readNumbers 34 = .ok (.aload_n 0, 1) := by decide +kernel
theorem dX5_readNumbers_35 : decode cX5_readNumbers 35 = .ok (.aload_n 0, 1) := by decide +kernel
theorem dX5_readNumbers_36 : decode cX5_readNumbers 36 = .ok (.getfield 87, 3) := by decide +kernel
theorem dX5_readNumbers_39 : decode cX5_readNumbers 39 = .ok (.putfield 90, 3) := by decide +kernel
theorem dX5_readNumbers_42 : decode cX5_readNumbers 42 = .ok (.aload_n 0, 1) := by decide +kernel
theorem dX5_readNumbers_43 : decode cX5_readNumbers 43 = .ok (.iconst 0, 1) := by decide +kernel
theorem dX5_readNumbers_44 : decode cX5_readNumbers 44 = .ok (.iconst 3, 1) := by decide +kernel
theorem dX5_readNumbers_45 : decode cX5_readNumbers 45 = .ok (.invokevirtual 83, 3) := by decide +kernel
theorem dX5_readNumbers_48 : decode cX5_readNumbers 48 = .ok (.ifCond .ne 5, 3) := by decide +kernel
theorem dX5_readNumbers_51 : decode cX5_readNumbers 51 = .ok (.iconst 0, 1) := by decide +kernel
theorem dX5_readNumbers_52 : decode cX5_readNumbers 52 = .ok (.ireturn, 1) := by decide +kernel
theorem dX5_readNumbers_53 : decode cX5_readNumbers 53 = .ok (.aload_n 0, 1) := by decide +kernel
theorem dX5_readNumbers_54 : decode cX5_readNumbers 54 = .ok (.aload_n 0, 1) := by decide +kernel
theorem dX5_readNumbers_55 : decode cX5_readNumbers 55 = .ok (.getfield 87, 3) := by decide +kernel
theorem dX5_readNumbers_58 : decode cX5_readNumbers 58 = .ok (.putfield 93, 3) := by decide +kernel
theorem dX5_readNumbers_61 : decode cX5_readNumbers 61 = .ok (.iload_n 1, 1) := by decide +kernel
theorem dX5_readNumbers_62 : decode cX5_readNumbers 62 = .ok (.iconst 1, 1) := by decide +kernel
theorem dX5_readNumbers_63 : decode cX5_readNumbers 63 = .ok (.if_icmp .ne 13, 3) := by decide +kernel
theorem dX5_readNumbers_66 : decode cX5_readNumbers 66 = .ok (.aload_n 0, 1) := by decide +kernel
theorem dX5_readNumbers_67 : decode cX5_readNumbers 67 = .ok (.iconst 1, 1) := by decide +kernel
theorem dX5_readNumbers_68 : decode cX5_readNumbers 68 = .ok (.bipush 9, 2) := by decide +kernel
theorem dX5_readNumbers_70 : decode cX5_readNumbers 70 = .ok (.invokevirtual 83, 3) := by decide +kernel
theorem dX5_readNumbers_73 : decode cX5_readNumbers 73 = .ok (.ifCond .eq 7, 3) := by decide +kernel
theorem dX5_readNumbers_76 : decode cX5_readNumbers 76 = .ok (.iconst 1, 1) := by decide +kernel
theorem dX5_readNumbers_77 : decode cX5_readNumbers 77 = .ok (.goto 4, 3) := by decide +kernel
theorem dX5_readNumbers_80 : decode cX5_readNumbers 80 = .ok (.iconst 0, 1) := by decide +kernel
theorem dX5_readNumbers_81 : decode cX5_readNumbers 81 = .ok (.ireturn, 1) := by decide +kernel
theorem dX5_obey_0 : decode cX5_obey 0 = .ok (.iload_n 2, 1) := by decide +kernel
theorem dX5_obey_1 : decode cX5_obey 1 = .ok (.tableswitch 89 1 4 #[31, 51, 67, 78], 31) := by decide +kernel
theorem dX5_obey_32 : decode cX5_obey 32 = .ok (.aload_n 1, 1) := by decide +kernel
theorem dX5_obey_33 : decode cX5_obey 33 = .ok (.aload_n 0, 1) := by decide +kernel
theorem dX5_obey_34 : decode cX5_obey 34 = .ok (.getfield 90, 3) := by decide +kernel
theorem dX5_obey_37 : decode cX5_obey 37 = .ok (.aload_n 0, 1) := by decide +kernel
theorem dX5_obey_38 : decode cX5_obey 38 = .ok (.getfield 93, 3) := by decide +kernel
theorem dX5_obey_41 : decode cX5_obey 41 = .ok (.aload_n 0, 1) := by decide +kernel
theorem dX5_obey_42 : decode cX5_obey 42 = .ok (.getfield 87, 3) := by decide +kernel
theorem dX5_obey_45 : decode cX5_obey 45 = .ok (.invokevirtual 96, 3) := by decide +kernel
theorem dX5_obey_48 : decode cX5_obey 48 = .ok (.pop, 1) := by decide +kernel
theorem dX5_obey_49 : decode cX5_obey 49 = .ok (.goto 52, 3) := by decide +kernel
theorem dX5_obey_52 : decode cX5_obey 52 = .ok (.aload_n 1, 1) := by decide +kernel
theorem dX5_obey_53 : decode cX5_obey 53 = .ok (.aload_n 0, 1) := by decide +kernel
theorem dX5_obey_54 : decode cX5_obey 54 = .ok (.getfield 90, 3) := by decide +kernel
theorem dX5_obey_57 : decode cX5_obey 57 = .ok (.aload_n 0, 1) := by decide +kernel
theorem dX5_obey_58 : decode cX5_obey 58 = .ok (.getfield 93, 3) := by decide +kernel
theorem dX5_obey_61 : decode cX5_obey 61 = .ok (.invokevirtual 100, 3) := by decide +kernel
theorem dX5_obey_64 : decode cX5_obey 64 = .ok (.pop, 1) := by decide +kernel
theorem dX5_obey_65 : decode cX5_obey 65 = .ok (.goto 36, 3) := by decide +kernel
theorem dX5_obey_68 : decode cX5_obey 68 = .ok (.aload_n 1, 1) := by decide +kernel
theorem dX5_obey_69 : decode cX5_obey 69 = .ok (.aload_n 0, 1) := by decide +kernel
theorem dX5_obey_70 : decode cX5_obey 70 = .ok (.getfield 93, 3) := by decide +kernel
theorem dX5_obey_73 : decode cX5_obey 73 = .ok (.invokevirtual 104, 3) := by decide +kernel
theorem dX5_obey_76 : decode cX5_obey 76 = .ok (.goto 25, 3) := by decide +kernel
theorem dX5_obey_79 : decode cX5_obey 79 = .ok (.aload_n 1, 1) := by decide +kernel
theorem dX5_obey_80 : decode cX5_obey 80 = .ok (.aload_n 0, 1) := by decide +kernel
theorem dX5_obey_81 : decode cX5_obey 81 = .ok (.getfield 93, 3) := by decide +kernel
theorem dX5_obey_84 : decode cX5_obey 84 = .ok (.invokevirtual 107, 3) := by decide +kernel
theorem dX5_obey_87 : decode cX5_obey 87 = .ok (.goto 14, 3) := by decide +kernel
theorem dX5_obey_90 : decode cX5_obey 90 = .ok (.aload_n 1, 1) := by decide +kernel
theorem dX5_obey_91 : decode cX5_obey 91 = .ok (.aload_n 0, 1) := by decide +kernel
theorem dX5_obey_92 : decode cX5_obey 92 = .ok (.getfield 87, 3) := by decide +kernel
theorem dX5_obey_95 : decode cX5_obey 95 = .ok (.sipush 9999, 3) := by decide +kernel
theorem dX5_obey_98 : decode cX5_obey 98 = .ok (.invokevirtual 109, 3) := by decide +kernel
theorem dX5_obey_101 : decode cX5_obey 101 = .ok (.return_, 1) := by decide +kernel
theorem dX5_readNumber_0 : decode cX5_readNumber 0 = .ok (.aload_n 0, 1) := by decide +kernel
theorem dX5_readNumber_1 : decode cX5_readNumber 1 = .ok (.invokevirtual 29, 3) := by decide +kernel
theorem dX5_readNumber_4 : decode cX5_readNumber 4 = .ok (.aload_n 0, 1) := by decide +kernel
theorem dX5_readNumber_5 : decode cX5_readNumber 5 = .ok (.getfield 45, 3) := by decide +kernel
theorem dX5_readNumber_8 : decode cX5_readNumber 8 = .ok (.iconst 2, 1) := by decide +kernel
theorem dX5_readNumber_9 : decode cX5_readNumber 9 = .ok (.if_icmp .ne 19, 3) := by decide +kernel
theorem dX5_readNumber_12 : decode cX5_readNumber 12 = .ok (.aload_n 0, 1) := by decide +kernel
theorem dX5_readNumber_13 : decode cX5_readNumber 13 = .ok (.getfield 87, 3) := by decide +kernel
theorem dX5_readNumber_16 : decode cX5_readNumber 16 = .ok (.iload_n 1, 1) := by decide +kernel
theorem dX5_readNumber_17 : decode cX5_readNumber 17 = .ok (.iload_n 2, 1) := by decide +kernel
theorem dX5_readNumber_18 : decode cX5_readNumber 18 = .ok (.invokestatic 112, 3) := by decide +kernel
theorem dX5_readNumber_21 : decode cX5_readNumber 21 = .ok (.ifCond .eq 7, 3) := by decide +kernel
theorem dX5_readNumber_24 : decode cX5_readNumber 24 = .ok (.iconst 1, 1) := by decide +kernel
theorem dX5_readNumber_25 : decode cX5_readNumber 25 = .ok (.goto 4, 3) := by decide +kernel
theorem dX5_readNumber_28 : decode cX5_readNumber 28 = .ok (.iconst 0, 1) := by decide +kernel
theorem dX5_readNumber_29 : decode cX5_readNumber 29 = .ok (.ireturn, 1) := by decide +kernel
theorem dX5_readStop_0 : decode cX5_readStop 0 = .ok (.aload_n 0, 1) := by decide +kernel
theorem dX5_readStop_1 : decode cX5_readStop 1 = .ok (.invokevirtual 29, 3) := by decide +kernel
theorem dX5_readStop_4 : decode cX5_readStop 4 = .ok (.aload_n 0, 1) := by decide +kernel
theorem dX5_readStop_5 : decode cX5_readStop 5 = .ok (.getfield 45, 3) := by decide +kernel
theorem dX5_readStop_8 : decode cX5_readStop 8 = .ok (.iconst 3, 1) := by decide +kernel
theorem dX5_readStop_9 : decode cX5_readStop 9 = .ok (.if_icmp .ne 7, 3) := by decide +kernel
theorem dX5_readStop_12 : decode cX5_readStop 12 = .ok (.iconst 1, 1) := by decide +kernel
theorem dX5_readStop_13 : decode cX5_readStop 13 = .ok (.goto 4, 3) := by decide +kernel
theorem dX5_readStop_16 : decode cX5_readStop 16 = .ok (.iconst 0, 1) := by decide +kernel
theorem dX5_readStop_17 : decode cX5_readStop 17 = .ok (.ireturn, 1) := by decide +kernel
theorem dX5_isWord_0 : decode cX5_isWord 0 = .ok (.aload_n 0, 1) := by decide +kernel
theorem dX5_isWord_1 : decode cX5_isWord 1 = .ok (.getfield 45, 3) := by decide +kernel
theorem dX5_isWord_4 : decode cX5_isWord 4 = .ok (.iconst 1, 1) := by decide +kernel
theorem dX5_isWord_5 : decode cX5_isWord 5 = .ok (.if_icmp .ne 19, 3) := by decide +kernel
theorem dX5_isWord_8 : decode cX5_isWord 8 = .ok (.aload_n 0, 1) := by decide +kernel
theorem dX5_isWord_9 : decode cX5_isWord 9 = .ok (.getfield 25, 3) := by decide +kernel
theorem dX5_isWord_12 : decode cX5_isWord 12 = .ok (.aload_n 0, 1) := by decide +kernel
theorem dX5_isWord_13 : decode cX5_isWord 13 = .ok (.getfield 42, 3) := by decide +kernel
theorem dX5_isWord_16 : decode cX5_isWord 16 = .ok (.isub, 1) := by decide +kernel
theorem dX5_isWord_17 : decode cX5_isWord 17 = .ok (.aload_n 1, 1) := by decide +kernel
theorem dX5_isWord_18 : decode cX5_isWord 18 = .ok (.invokevirtual 116, 3) := by decide +kernel
theorem dX5_isWord_21 : decode cX5_isWord 21 = .ok (.if_icmp .eq 5, 3) := by decide +kernel
theorem dX5_isWord_24 : decode cX5_isWord 24 = .ok (.iconst 0, 1) := by decide +kernel
theorem dX5_isWord_25 : decode cX5_isWord 25 = .ok (.ireturn, 1) := by decide +kernel
theorem dX5_isWord_26 : decode cX5_isWord 26 = .ok (.iconst 0, 1) := by decide +kernel
theorem dX5_isWord_27 : decode cX5_isWord 27 = .ok (.istore_n 2, 1) := by decide +kernel
theorem dX5_isWord_28 : decode cX5_isWord 28 = .ok (.iload_n 2, 1) := by decide +kernel
theorem dX5_isWord_29 : decode cX5_isWord 29 = .ok (.aload_n 1, 1) := by decide +kernel
theorem dX5_isWord_30 : decode cX5_isWord 30 = .ok (.invokevirtual 116, 3) := by decide +kernel
theorem dX5_isWord_33 : decode cX5_isWord 33 = .ok (.if_icmp .ge 33, 3) := by decide +kernel
theorem dX5_isWord_36 : decode cX5_isWord 36 = .ok (.aload_n 0, 1) := by decide +kernel
theorem dX5_isWord_37 : decode cX5_isWord 37 = .ok (.getfield 14, 3) := by decide +kernel
theorem dX5_isWord_40 : decode cX5_isWord 40 = .ok (.aload_n 0, 1) := by decide +kernel
theorem dX5_isWord_41 : decode cX5_isWord 41 = .ok (.getfield 42, 3) := by decide +kernel
theorem dX5_isWord_44 : decode cX5_isWord 44 = .ok (.iload_n 2, 1) := by decide +kernel
theorem dX5_isWord_45 : decode cX5_isWord 45 = .ok (.iadd, 1) := by decide +kernel
theorem dX5_isWord_46 : decode cX5_isWord 46 = .ok (.iconst 0, 1) := by decide +kernel
theorem dX5_isWord_47 : decode cX5_isWord 47 = .ok (.invokevirtual 121, 3) := by decide +kernel
theorem dX5_isWord_50 : decode cX5_isWord 50 = .ok (.aload_n 1, 1) := by decide +kernel
theorem dX5_isWord_51 : decode cX5_isWord 51 = .ok (.iload_n 2, 1) := by decide +kernel
theorem dX5_isWord_52 : decode cX5_isWord 52 = .ok (.invokevirtual 124, 3) := by decide +kernel
theorem dX5_isWord_55 : decode cX5_isWord 55 = .ok (.if_icmp .eq 5, 3) := by decide +kernel
theorem dX5_isWord_58 : decode cX5_isWord 58 = .ok (.iconst 0, 1) := by decide +kernel
theorem dX5_isWord_59 : decode cX5_isWord 59 = .ok (.ireturn, 1) := by decide +kernel
theorem dX5_isWord_60 : decode cX5_isWord 60 = .ok (.iinc 2 1, 3) := by decide +kernel
theorem dX5_isWord_63 : decode cX5_isWord 63 = .ok (.goto (-35), 3) := by decide +kernel
theorem dX5_isWord_66 : decode cX5_isWord 66 = .ok (.iconst 1, 1) := by decide +kernel
theorem dX5_isWord_67 : decode cX5_isWord 67 = .ok (.ireturn, 1) := by decide +kernel
theorem dX5_advance_0 : decode cX5_advance 0 = .ok (.aload_n 0, 1) := by decide +kernel
theorem dX5_advance_1 : decode cX5_advance 1 = .ok (.aload_n 0, 1) := by decide +kernel
theorem dX5_advance_2 : decode cX5_advance 2 = .ok (.getfield 25, 3) := by decide +kernel
theorem dX5_advance_5 : decode cX5_advance 5 = .ok (.putfield 42, 3) := by decide +kernel
theorem dX5_advance_8 : decode cX5_advance 8 = .ok (.aload_n 0, 1) := by decide +kernel
theorem dX5_advance_9 : decode cX5_advance 9 = .ok (.getfield 42, 3) := by decide +kernel
theorem dX5_advance_12 : decode cX5_advance 12 = .ok (.aload_n 0, 1) := by decide +kernel
theorem dX5_advance_13 : decode cX5_advance 13 = .ok (.getfield 14, 3) := by decide +kernel
theorem dX5_advance_16 : decode cX5_advance 16 = .ok (.getfield 128, 3) := by decide +kernel
theorem dX5_advance_19 : decode cX5_advance 19 = .ok (.if_icmp .ge 33, 3) := by decide +kernel
theorem dX5_advance_22 : decode cX5_advance 22 = .ok (.aload_n 0, 1) := by decide +kernel
theorem dX5_advance_23 : decode cX5_advance 23 = .ok (.getfield 14, 3) := by decide +kernel
theorem dX5_advance_26 : decode cX5_advance 26 = .ok (.aload_n 0, 1) := by decide +kernel
theorem dX5_advance_27 : decode cX5_advance 27 = .ok (.getfield 42, 3) := by decide +kernel
theorem dX5_advance_30 : decode cX5_advance 30 = .ok (.iconst 0, 1) := by decide +kernel
theorem dX5_advance_31 : decode cX5_advance 31 = .ok (.invokevirtual 121, 3) := by decide +kernel
theorem dX5_advance_34 : decode cX5_advance 34 = .ok (.bipush 32, 2) := by decide +kernel
theorem dX5_advance_36 : decode cX5_advance 36 = .ok (.if_icmp .ne 16, 3) := by decide +kernel
theorem dX5_advance_39 : decode cX5_advance 39 = .ok (.aload_n 0, 1) := by decide +kernel
theorem dX5_advance_40 : decode cX5_advance 40 = .ok (.dup, 1) := by decide +kernel
theorem dX5_advance_41 : decode cX5_advance 41 = .ok (.getfield 42, 3) := by decide +kernel
theorem dX5_advance_44 : decode cX5_advance 44 = .ok (.iconst 1, 1) := by decide +kernel
theorem dX5_advance_45 : decode cX5_advance 45 = .ok (.iadd, 1) := by decide +kernel
theorem dX5_advance_46 : decode cX5_advance 46 = .ok (.putfield 42, 3) := by decide +kernel
theorem dX5_advance_49 : decode cX5_advance 49 = .ok (.goto (-41), 3) := by decide +kernel
theorem dX5_advance_52 : decode cX5_advance 52 = .ok (.aload_n 0, 1) := by decide +kernel
theorem dX5_advance_53 : decode cX5_advance 53 = .ok (.aload_n 0, 1) := by decide +kernel
theorem dX5_advance_54 : decode cX5_advance 54 = .ok (.getfield 42, 3) := by decide +kernel
theorem dX5_advance_57 : decode cX5_advance 57 = .ok (.putfield 25, 3) := by decide +kernel
theorem dX5_advance_60 : decode cX5_advance 60 = .ok (.aload_n 0, 1) := by decide +kernel
theorem dX5_advance_61 : decode cX5_advance 61 = .ok (.aload_n 0, 1) := by decide +kernel
theorem dX5_advance_62 : decode cX5_advance 62 = .ok (.aload_n 0, 1) := by decide +kernel
theorem dX5_advance_63 : decode cX5_advance 63 = .ok (.getfield 42, 3) := by decide +kernel
theorem dX5_advance_66 : decode cX5_advance 66 = .ok (.invokevirtual 131, 3) := by decide +kernel
theorem dX5_advance_69 : decode cX5_advance 69 = .ok (.putfield 45, 3) := by decide +kernel
theorem dX5_advance_72 : decode cX5_advance 72 = .ok (.aload_n 0, 1) := by decide +kernel
theorem dX5_advance_73 : decode cX5_advance 73 = .ok (.getfield 45, 3) := by decide +kernel
theorem dX5_advance_76 : decode cX5_advance 76 = .ok (.iconst 3, 1) := by decide +kernel
theorem dX5_advance_77 : decode cX5_advance 77 = .ok (.if_icmp .eq 11, 3) := by decide +kernel
theorem dX5_advance_80 : decode cX5_advance 80 = .ok (.aload_n 0, 1) := by decide +kernel
theorem dX5_advance_81 : decode cX5_advance 81 = .ok (.getfield 45, 3) := by decide +kernel
theorem dX5_advance_84 : decode cX5_advance 84 = .ok (.iconst 4, 1) := by decide +kernel
theorem dX5_advance_85 : decode cX5_advance 85 = .ok (.if_icmp .ne 14, 3) := by decide +kernel
theorem dX5_advance_88 : decode cX5_advance 88 = .ok (.aload_n 0, 1) := by decide +kernel
theorem dX5_advance_89 : decode cX5_advance 89 = .ok (.dup, 1) := by decide +kernel
theorem dX5_advance_90 : decode cX5_advance 90 = .ok (.getfield 25, 3) := by decide +kernel
theorem dX5_advance_93 : decode cX5_advance 93 = .ok (.iconst 1, 1) := by decide +kernel
theorem dX5_advance_94 : decode cX5_advance 94 = .ok (.iadd, 1) := by decide +kernel
theorem dX5_advance_95 : decode cX5_advance 95 = .ok (.putfield 25, 3) := by decide +kernel
theorem dX5_advance_98 : decode cX5_advance 98 = .ok (.return_, 1) := by decide +kernel
theorem dX5_advance_99 : decode cX5_advance 99 = .ok (.aload_n 0, 1) := by decide +kernel
theorem dX5_advance_100 : decode cX5_advance 100 = .ok (.iconst 0, 1) := by decide +kernel
theorem dX5_advance_101 : decode cX5_advance 101 = .ok (.putfield 87, 3) := by decide +kernel
theorem dX5_advance_104 : decode cX5_advance 104 = .ok (.aload_n 0, 1) := by decide +kernel
theorem dX5_advance_105 : decode cX5_advance 105 = .ok (.getfield 25, 3) := by decide +kernel
theorem dX5_advance_108 : decode cX5_advance 108 = .ok (.aload_n 0, 1) := by decide +kernel
theorem dX5_advance_109 : decode cX5_advance 109 = .ok (.getfield 14, 3) := by decide +kernel
theorem dX5_advance_112 : decode cX5_advance 112 = .ok (.getfield 128, 3) := by decide +kernel
theorem dX5_advance_115 : decode cX5_advance 115 = .ok (.if_icmp .ge 58, 3) := by decide +kernel
theorem dX5_advance_118 : decode cX5_advance 118 = .ok (.aload_n 0, 1) := by decide +kernel
theorem dX5_advance_119 : decode cX5_advance 119 = .ok (.aload_n 0, 1) := by decide +kernel
theorem dX5_advance_120 : decode cX5_advance 120 = .ok (.getfield 25, 3) := by decide +kernel
theorem dX5_advance_123 : decode cX5_advance 123 = .ok (.invokevirtual 131, 3) := by decide +kernel
theorem dX5_advance_126 : decode cX5_advance 126 = .ok (.aload_n 0, 1) := by decide +kernel
theorem dX5_advance_127 : decode cX5_advance 127 = .ok (.getfield 45, 3) := by decide +kernel
theorem dX5_advance_130 : decode cX5_advance 130 = .ok (.if_icmp .ne 43, 3) := by decide +kernel
theorem dX5_advance_133 : decode cX5_advance 133 = .ok (.aload_n 0, 1) := by decide +kernel
theorem dX5_advance_134 : decode cX5_advance 134 = .ok (.bipush 10, 2) := by decide +kernel
theorem dX5_advance_136 : decode cX5_advance 136 = .ok (.aload_n 0, 1) := by decide +kernel
theorem dX5_advance_137 : decode cX5_advance 137 = .ok (.getfield 87, 3) := by decide +kernel
theorem dX5_advance_140 : decode cX5_advance 140 = .ok (.imul, 1) := by decide +kernel
theorem dX5_advance_141 : decode cX5_advance 141 = .ok (.aload_n 0, 1) := by decide +kernel
theorem dX5_advance_142 : decode cX5_advance 142 = .ok (.getfield 14, 3) := by decide +kernel
theorem dX5_advance_145 : decode cX5_advance 145 = .ok (.aload_n 0, 1) := by decide +kernel
theorem dX5_advance_146 : decode cX5_advance 146 = .ok (.getfield 25, 3) := by decide +kernel
theorem dX5_advance_149 : decode cX5_advance 149 = .ok (.iconst 0, 1) := by decide +kernel
theorem dX5_advance_150 : decode cX5_advance 150 = .ok (.invokevirtual 121, 3) := by decide +kernel
theorem dX5_advance_153 : decode cX5_advance 153 = .ok (.iadd, 1) := by decide +kernel
theorem dX5_advance_154 : decode cX5_advance 154 = .ok (.bipush 48, 2) := by decide +kernel
theorem dX5_advance_156 : decode cX5_advance 156 = .ok (.isub, 1) := by decide +kernel
theorem dX5_advance_157 : decode cX5_advance 157 = .ok (.putfield 87, 3) := by decide +kernel
theorem dX5_advance_160 : decode cX5_advance 160 = .ok (.aload_n 0, 1) := by decide +kernel
theorem dX5_advance_161 : decode cX5_advance 161 = .ok (.dup, 1) := by decide +kernel
theorem dX5_advance_162 : decode cX5_advance 162 = .ok (.getfield 25, 3) := by decide +kernel
theorem dX5_advance_165 : decode cX5_advance 165 = .ok (.iconst 1, 1) := by decide +kernel
theorem dX5_advance_166 : decode cX5_advance 166 = .ok (.iadd, 1) := by decide +kernel
theorem dX5_advance_167 : decode cX5_advance 167 = .ok (.putfield 25, 3) := by decide +kernel
theorem dX5_advance_170 : decode cX5_advance 170 = .ok (.goto (-66), 3) := by decide +kernel
theorem dX5_advance_173 : decode cX5_advance 173 = .ok (.aload_n 0, 1) := by decide +kernel
theorem dX5_advance_174 : decode cX5_advance 174 = .ok (.getfield 45, 3) := by decide +kernel
theorem dX5_advance_177 : decode cX5_advance 177 = .ok (.iconst 2, 1) := by decide +kernel
theorem dX5_advance_178 : decode cX5_advance 178 = .ok (.if_icmp .ne 21, 3) := by decide +kernel
theorem dX5_advance_181 : decode cX5_advance 181 = .ok (.aload_n 0, 1) := by decide +kernel
theorem dX5_advance_182 : decode cX5_advance 182 = .ok (.getfield 25, 3) := by decide +kernel
theorem dX5_advance_185 : decode cX5_advance 185 = .ok (.aload_n 0, 1) := by decide +kernel
theorem dX5_advance_186 : decode cX5_advance 186 = .ok (.getfield 42, 3) := by decide +kernel
theorem dX5_advance_189 : decode cX5_advance 189 = .ok (.isub, 1) := by decide +kernel
theorem dX5_advance_190 : decode cX5_advance 190 = .ok (.iconst 2, 1) := by decide +kernel
theorem dX5_advance_191 : decode cX5_advance 191 = .ok (.if_icmp .le 8, 3) := by decide +kernel
theorem dX5_advance_194 : decode cX5_advance 194 = .ok (.aload_n 0, 1) := by decide +kernel
theorem dX5_advance_195 : decode cX5_advance 195 = .ok (.iconst 4, 1) := by decide +kernel
theorem dX5_advance_196 : decode cX5_advance 196 = .ok (.putfield 45, 3) := by decide +kernel
theorem dX5_advance_199 : decode cX5_advance 199 = .ok (.return_, 1) := by decide +kernel
theorem dX5_sortAt_0 : decode cX5_sortAt 0 = .ok (.iload_n 1, 1) := by decide +kernel
theorem dX5_sortAt_1 : decode cX5_sortAt 1 = .ok (.aload_n 0, 1) := by decide +kernel
theorem dX5_sortAt_2 : decode cX5_sortAt 2 = .ok (.getfield 14, 3) := by decide +kernel
theorem dX5_sortAt_5 : decode cX5_sortAt 5 = .ok (.getfield 128, 3) := by decide +kernel
theorem dX5_sortAt_8 : decode cX5_sortAt 8 = .ok (.if_icmp .lt 5, 3) := by decide +kernel
theorem dX5_sortAt_11 : decode cX5_sortAt 11 = .ok (.iconst 0, 1) := by decide +kernel
theorem dX5_sortAt_12 : decode cX5_sortAt 12 = .ok (.ireturn, 1) := by decide +kernel
theorem dX5_sortAt_13 : decode cX5_sortAt 13 = .ok (.aload_n 0, 1) := by decide +kernel
theorem dX5_sortAt_14 : decode cX5_sortAt 14 = .ok (.getfield 14, 3) := by decide +kernel
theorem dX5_sortAt_17 : decode cX5_sortAt 17 = .ok (.iload_n 1, 1) := by decide +kernel
theorem dX5_sortAt_18 : decode cX5_sortAt 18 = .ok (.iconst 0, 1) := by decide +kernel
theorem dX5_sortAt_19 : decode cX5_sortAt 19 = .ok (.invokevirtual 121, 3) := by decide +kernel
theorem dX5_sortAt_22 : decode cX5_sortAt 22 = .ok (.istore_n 2, 1) := by decide +kernel
theorem dX5_sortAt_23 : decode cX5_sortAt 23 = .ok (.iload_n 2, 1) := by decide +kernel
theorem dX5_sortAt_24 : decode cX5_sortAt 24 = .ok (.bipush 97, 2) := by decide +kernel
theorem dX5_sortAt_26 : decode cX5_sortAt 26 = .ok (.if_icmp .lt 11, 3) := by decide +kernel
theorem dX5_sortAt_29 : decode cX5_sortAt 29 = .ok (.iload_n 2, 1) := by decide +kernel
theorem dX5_sortAt_30 : decode cX5_sortAt 30 = .ok (.bipush 122, 2) := by decide +kernel
theorem dX5_sortAt_32 : decode cX5_sortAt 32 = .ok (.if_icmp .gt 5, 3) := by decide +kernel
theorem dX5_sortAt_35 : decode cX5_sortAt 35 = .ok (.iconst 1, 1) := by decide +kernel
theorem dX5_sortAt_36 : decode cX5_sortAt 36 = .ok (.ireturn, 1) := by decide +kernel
theorem dX5_sortAt_37 : decode cX5_sortAt 37 = .ok (.iload_n 2, 1) := by decide +kernel
theorem dX5_sortAt_38 : decode cX5_sortAt 38 = .ok (.bipush 48, 2) := by decide +kernel
theorem dX5_sortAt_40 : decode cX5_sortAt 40 = .ok (.if_icmp .lt 11, 3) := by decide +kernel
theorem dX5_sortAt_43 : decode cX5_sortAt 43 = .ok (.iload_n 2, 1) := by decide +kernel
theorem dX5_sortAt_44 : decode cX5_sortAt 44 = .ok (.bipush 57, 2) := by decide +kernel
theorem dX5_sortAt_46 : decode cX5_sortAt 46 = .ok (.if_icmp .gt 5, 3) := by decide +kernel
theorem dX5_sortAt_49 : decode cX5_sortAt 49 = .ok (.iconst 2, 1) := by decide +kernel
theorem dX5_sortAt_50 : decode cX5_sortAt 50 = .ok (.ireturn, 1) := by decide +kernel
theorem dX5_sortAt_51 : decode cX5_sortAt 51 = .ok (.iload_n 2, 1) := by decide +kernel
theorem dX5_sortAt_52 : decode cX5_sortAt 52 = .ok (.bipush 59, 2) := by decide +kernel
theorem dX5_sortAt_54 : decode cX5_sortAt 54 = .ok (.if_icmp .ne 7, 3) := by decide +kernel
theorem dX5_sortAt_57 : decode cX5_sortAt 57 = .ok (.iconst 3, 1) := by decide +kernel
theorem dX5_sortAt_58 : decode cX5_sortAt 58 = .ok (.goto 4, 3) := by decide +kernel
theorem dX5_sortAt_61 : decode cX5_sortAt 61 = .ok (.iconst 4, 1) := by decide +kernel
theorem dX5_sortAt_62 : decode cX5_sortAt 62 = .ok (.ireturn, 1) := by decide +kernel
theorem dX6_init_0 : decode cX6_init 0 = .ok (.aload_n 0, 1) := by decide +kernel
theorem dX6_init_1 : decode cX6_init 1 = .ok (.invokespecial 3, 3) := by decide +kernel
theorem dX6_init_4 : decode cX6_init 4 = .ok (.aload_n 0, 1) := by decide +kernel
theorem dX6_init_5 : decode cX6_init 5 = .ok (.iload_n 1, 1) := by decide +kernel
theorem dX6_init_6 : decode cX6_init 6 = .ok (.putfield 9, 3) := by decide +kernel
theorem dX6_init_9 : decode cX6_init 9 = .ok (.aload_n 0, 1) := by decide +kernel
theorem dX6_init_10 : decode cX6_init 10 = .ok (.iload_n 2, 1) := by decide +kernel
theorem dX6_init_11 : decode cX6_init 11 = .ok (.putfield 15, 3) := by decide +kernel
theorem dX6_init_14 : decode cX6_init 14 = .ok (.aload_n 0, 1) := by decide +kernel
theorem dX6_init_15 : decode cX6_init 15 = .ok (.iconst 0, 1) := by decide +kernel
theorem dX6_init_16 : decode cX6_init 16 = .ok (.iload_n 1, 1) := by decide +kernel
theorem dX6_init_17 : decode cX6_init 17 = .ok (.iload_n 2, 1) := by decide +kernel
theorem dX6_init_18 : decode cX6_init 18 = .ok (.imul, 1) := by decide +kernel
theorem dX6_init_19 : decode cX6_init 19 = .ok (.invokestatic 18, 3) := by decide +kernel
theorem dX6_init_22 : decode cX6_init 22 = .ok (.newarray .int, 2) := by decide +kernel
theorem dX6_init_24 : decode cX6_init 24 = .ok (.putfield 24, 3) := by decide +kernel
theorem dX6_init_27 : decode cX6_init 27 = .ok (.return_, 1) := by decide +kernel
theorem dX6_isFull_0 : decode cX6_isFull 0 = .ok (.aload_n 0, 1) := by decide +kernel
theorem dX6_isFull_1 : decode cX6_isFull 1 = .ok (.getfield 28, 3) := by decide +kernel
theorem dX6_isFull_4 : decode cX6_isFull 4 = .ok (.aload_n 0, 1) := by decide +kernel
theorem dX6_isFull_5 : decode cX6_isFull 5 = .ok (.getfield 9, 3) := by decide +kernel
theorem dX6_isFull_8 : decode cX6_isFull 8 = .ok (.if_icmp .lt 7, 3) := by decide +kernel
theorem dX6_isFull_11 : decode cX6_isFull 11 = .ok (.iconst 1, 1) := by decide +kernel
theorem dX6_isFull_12 : decode cX6_isFull 12 = .ok (.goto 4, 3) := by decide +kernel
theorem dX6_isFull_15 : decode cX6_isFull 15 = .ok (.iconst 0, 1) := by decide +kernel
theorem dX6_isFull_16 : decode cX6_isFull 16 = .ok (.ireturn, 1) := by decide +kernel
theorem dX6_get_0 : decode cX6_get 0 = .ok (.iload_n 1, 1) := by decide +kernel
theorem dX6_get_1 : decode cX6_get 1 = .ok (.aload_n 0, 1) := by decide +kernel
theorem dX6_get_2 : decode cX6_get 2 = .ok (.getfield 15, 3) := by decide +kernel
theorem dX6_get_5 : decode cX6_get 5 = .ok (.imul, 1) := by decide +kernel
theorem dX6_get_6 : decode cX6_get 6 = .ok (.iload_n 2, 1) := by decide +kernel
theorem dX6_get_7 : decode cX6_get 7 = .ok (.iadd, 1) := by decide +kernel
theorem dX6_get_8 : decode cX6_get 8 = .ok (.istore_n 3, 1) := by decide +kernel
theorem dX6_get_9 : decode cX6_get 9 = .ok (.iload_n 2, 1) := by decide +kernel
theorem dX6_get_10 : decode cX6_get 10 = .ok (.ifCond .lt 31, 3) := by decide +kernel
theorem dX6_get_13 : decode cX6_get 13 = .ok (.iload_n 2, 1) := by decide +kernel
theorem dX6_get_14 : decode cX6_get 14 = .ok (.aload_n 0, 1) := by decide +kernel
theorem dX6_get_15 : decode cX6_get 15 = .ok (.getfield 15, 3) := by decide +kernel
theorem dX6_get_18 : decode cX6_get 18 = .ok (.if_icmp .ge 23, 3) := by decide +kernel
theorem dX6_get_21 : decode cX6_get 21 = .ok (.iload_n 3, 1) := by decide +kernel
theorem dX6_get_22 : decode cX6_get 22 = .ok (.ifCond .lt 19, 3) := by decide +kernel
theorem dX6_get_25 : decode cX6_get 25 = .ok (.iload_n 3, 1) := by decide +kernel
theorem dX6_get_26 : decode cX6_get 26 = .ok (.aload_n 0, 1) := by decide +kernel
theorem dX6_get_27 : decode cX6_get 27 = .ok (.getfield 24, 3) := by decide +kernel
theorem dX6_get_30 : decode cX6_get 30 = .ok (.arraylength, 1) := by decide +kernel
theorem dX6_get_31 : decode cX6_get 31 = .ok (.if_icmp .ge 10, 3) := by decide +kernel
theorem dX6_get_34 : decode cX6_get 34 = .ok (.aload_n 0, 1) := by decide +kernel
theorem dX6_get_35 : decode cX6_get 35 = .ok (.getfield 24, 3) := by decide +kernel
theorem dX6_get_38 : decode cX6_get 38 = .ok (.iload_n 3, 1) := by decide +kernel
theorem dX6_get_39 : decode cX6_get 39 = .ok (.iaload, 1) := by decide +kernel
theorem dX6_get_40 : decode cX6_get 40 = .ok (.ireturn, 1) := by decide +kernel
theorem dX6_get_41 : decode cX6_get 41 = .ok (.iconst 0, 1) := by decide +kernel
theorem dX6_get_42 : decode cX6_get 42 = .ok (.ireturn, 1) := by decide +kernel
theorem dX6_set_0 : decode cX6_set 0 = .ok (.iload_n 1, 1) := by decide +kernel
theorem dX6_set_1 : decode cX6_set 1 = .ok (.aload_n 0, 1) := by decide +kernel
theorem dX6_set_2 : decode cX6_set 2 = .ok (.getfield 15, 3) := by decide +kernel
theorem dX6_set_5 : decode cX6_set 5 = .ok (.imul, 1) := by decide +kernel
theorem dX6_set_6 : decode cX6_set 6 = .ok (.iload_n 2, 1) := by decide +kernel
theorem dX6_set_7 : decode cX6_set 7 = .ok (.iadd, 1) := by decide +kernel
theorem dX6_set_8 : decode cX6_set 8 = .ok (.istore 4, 2) := by decide +kernel
theorem dX6_set_10 : decode cX6_set 10 = .ok (.iload_n 2, 1) := by decide +kernel
theorem dX6_set_11 : decode cX6_set 11 = .ok (.ifCond .lt 34, 3) := by decide +kernel
theorem dX6_set_14 : decode cX6_set 14 = .ok (.iload_n 2, 1) := by decide +kernel
theorem dX6_set_15 : decode cX6_set 15 = .ok (.aload_n 0, 1) := by decide +kernel
theorem dX6_set_16 : decode cX6_set 16 = .ok (.getfield 15, 3) := by decide +kernel
theorem dX6_set_19 : decode cX6_set 19 = .ok (.if_icmp .ge 26, 3) := by decide +kernel
theorem dX6_set_22 : decode cX6_set 22 = .ok (.iload 4, 2) := by decide +kernel
theorem dX6_set_24 : decode cX6_set 24 = .ok (.ifCond .lt 21, 3) := by decide +kernel
theorem dX6_set_27 : decode cX6_set 27 = .ok (.iload 4, 2) := by decide +kernel
theorem dX6_set_29 : decode cX6_set 29 = .ok (.aload_n 0, 1) := by decide +kernel
theorem dX6_set_30 : decode cX6_set 30 = .ok (.getfield 24, 3) := by decide +kernel
theorem dX6_set_33 : decode cX6_set 33 = .ok (.arraylength, 1) := by decide +kernel
theorem dX6_set_34 : decode cX6_set 34 = .ok (.if_icmp .ge 11, 3) := by decide +kernel
theorem dX6_set_37 : decode cX6_set 37 = .ok (.aload_n 0, 1) := by decide +kernel
theorem dX6_set_38 : decode cX6_set 38 = .ok (.getfield 24, 3) := by decide +kernel
theorem dX6_set_41 : decode cX6_set 41 = .ok (.iload 4, 2) := by decide +kernel
theorem dX6_set_43 : decode cX6_set 43 = .ok (.iload_n 3, 1) := by decide +kernel
theorem dX6_set_44 : decode cX6_set 44 = .ok (.iastore, 1) := by decide +kernel
theorem dX6_set_45 : decode cX6_set 45 = .ok (.return_, 1) := by decide +kernel
theorem dX6_add_0 : decode cX6_add 0 = .ok (.aload_n 0, 1) := by decide +kernel
theorem dX6_add_1 : decode cX6_add 1 = .ok (.invokevirtual 31, 3) := by decide +kernel
theorem dX6_add_4 : decode cX6_add 4 = .ok (.ifCond .eq 5, 3) := by decide +kernel
theorem dX6_add_7 : decode cX6_add 7 = .ok (.iconst (-1), 1) := by decide +kernel
theorem dX6_add_8 : decode cX6_add 8 = .ok (.ireturn, 1) := by decide +kernel
theorem dX6_add_9 : decode cX6_add 9 = .ok (.aload_n 0, 1) := by decide +kernel
theorem dX6_add_10 : decode cX6_add 10 = .ok (.getfield 28, 3) := by decide +kernel
theorem dX6_add_13 : decode cX6_add 13 = .ok (.istore 5, 2) := by decide +kernel
theorem dX6_add_15 : decode cX6_add 15 = .ok (.aload_n 0, 1) := by decide +kernel
theorem dX6_add_16 : decode cX6_add 16 = .ok (.dup, 1) := by decide +kernel
theorem dX6_add_17 : decode cX6_add 17 = .ok (.getfield 28, 3) := by decide +kernel
theorem dX6_add_20 : decode cX6_add 20 = .ok (.iconst 1, 1) := by decide +kernel
theorem dX6_add_21 : decode cX6_add 21 = .ok (.iadd, 1) := by decide +kernel
theorem dX6_add_22 : decode cX6_add 22 = .ok (.putfield 28, 3) := by decide +kernel
theorem dX6_add_25 : decode cX6_add 25 = .ok (.aload_n 0, 1) := by decide +kernel
theorem dX6_add_26 : decode cX6_add 26 = .ok (.iload 5, 2) := by decide +kernel
theorem dX6_add_28 : decode cX6_add 28 = .ok (.iconst 0, 1) := by decide +kernel
theorem dX6_add_29 : decode cX6_add 29 = .ok (.iload_n 1, 1) := by decide +kernel
theorem dX6_add_30 : decode cX6_add 30 = .ok (.invokevirtual 35, 3) := by decide +kernel
theorem dX6_add_33 : decode cX6_add 33 = .ok (.aload_n 0, 1) := by decide +kernel
theorem dX6_add_34 : decode cX6_add 34 = .ok (.iload 5, 2) := by decide +kernel
theorem dX6_add_36 : decode cX6_add 36 = .ok (.iconst 1, 1) := by decide +kernel
theorem dX6_add_37 : decode cX6_add 37 = .ok (.iload_n 2, 1) := by decide +kernel
theorem dX6_add_38 : decode cX6_add 38 = .ok (.invokevirtual 35, 3) := by decide +kernel
theorem dX6_add_41 : decode cX6_add 41 = .ok (.aload_n 0, 1) := by decide +kernel
theorem dX6_add_42 : decode cX6_add 42 = .ok (.iload 5, 2) := by decide +kernel
theorem dX6_add_44 : decode cX6_add 44 = .ok (.iconst 2, 1) := by decide +kernel
theorem dX6_add_45 : decode cX6_add 45 = .ok (.iload_n 3, 1) := by decide +kernel
theorem dX6_add_46 : decode cX6_add 46 = .ok (.invokevirtual 35, 3) := by decide +kernel
theorem dX6_add_49 : decode cX6_add 49 = .ok (.aload_n 0, 1) := by decide +kernel
theorem dX6_add_50 : decode cX6_add 50 = .ok (.iload 5, 2) := by decide +kernel
theorem dX6_add_52 : decode cX6_add 52 = .ok (.iconst 3, 1) := by decide +kernel
theorem dX6_add_53 : decode cX6_add 53 = .ok (.iload 4, 2) := by decide +kernel
theorem dX6_add_55 : decode cX6_add 55 = .ok (.invokevirtual 35, 3) := by decide +kernel
theorem dX6_add_58 : decode cX6_add 58 = .ok (.iload 5, 2) := by decide +kernel
theorem dX6_add_60 : decode cX6_add 60 = .ok (.ireturn, 1) := by decide +kernel
theorem dX6_empty_0 : decode cX6_empty 0 = .ok (.aload_n 0, 1) := by decide +kernel
theorem dX6_empty_1 : decode cX6_empty 1 = .ok (.getfield 28, 3) := by decide +kernel
theorem dX6_empty_4 : decode cX6_empty 4 = .ok (.istore_n 1, 1) := by decide +kernel
theorem dX6_empty_5 : decode cX6_empty 5 = .ok (.aload_n 0, 1) := by decide +kernel
theorem dX6_empty_6 : decode cX6_empty 6 = .ok (.iconst 0, 1) := by decide +kernel
theorem dX6_empty_7 : decode cX6_empty 7 = .ok (.putfield 28, 3) := by decide +kernel
theorem dX6_empty_10 : decode cX6_empty 10 = .ok (.iload_n 1, 1) := by decide +kernel
theorem dX6_empty_11 : decode cX6_empty 11 = .ok (.ireturn, 1) := by decide +kernel
theorem dX6_dropFirst_0 : decode cX6_dropFirst 0 = .ok (.iconst 0, 1) := by decide +kernel
theorem dX6_dropFirst_1 : decode cX6_dropFirst 1 = .ok (.istore_n 1, 1) := by decide +kernel
theorem dX6_dropFirst_2 : decode cX6_dropFirst 2 = .ok (.iload_n 1, 1) := by decide +kernel
theorem dX6_dropFirst_3 : decode cX6_dropFirst 3 = .ok (.aload_n 0, 1) := by decide +kernel
theorem dX6_dropFirst_4 : decode cX6_dropFirst 4 = .ok (.getfield 24, 3) := by decide +kernel
theorem dX6_dropFirst_7 : decode cX6_dropFirst 7 = .ok (.arraylength, 1) := by decide +kernel
theorem dX6_dropFirst_8 : decode cX6_dropFirst 8 = .ok (.if_icmp .ge 41, 3) := by decide +kernel
theorem dX6_dropFirst_11 : decode cX6_dropFirst 11 = .ok (.iload_n 1, 1) := by decide +kernel
theorem dX6_dropFirst_12 : decode cX6_dropFirst 12 = .ok (.aload_n 0, 1) := by decide +kernel
theorem dX6_dropFirst_13 : decode cX6_dropFirst 13 = .ok (.getfield 15, 3) := by decide +kernel
theorem dX6_dropFirst_16 : decode cX6_dropFirst 16 = .ok (.iadd, 1) := by decide +kernel
theorem dX6_dropFirst_17 : decode cX6_dropFirst 17 = .ok (.istore_n 2, 1) := by decide +kernel
theorem dX6_dropFirst_18 : decode cX6_dropFirst 18 = .ok (.iload_n 2, 1) := by decide +kernel
theorem dX6_dropFirst_19 : decode cX6_dropFirst 19 = .ok (.ifCond .lt 24, 3) := by decide +kernel
theorem dX6_dropFirst_22 : decode cX6_dropFirst 22 = .ok (.iload_n 2, 1) := by decide +kernel
theorem dX6_dropFirst_23 : decode cX6_dropFirst 23 = .ok (.aload_n 0, 1) := by decide +kernel
theorem dX6_dropFirst_24 : decode cX6_dropFirst 24 = .ok (.getfield 24, 3) := by decide +kernel
theorem dX6_dropFirst_27 : decode cX6_dropFirst 27 = .ok (.arraylength, 1) := by decide +kernel
theorem dX6_dropFirst_28 : decode cX6_dropFirst 28 = .ok (.if_icmp .ge 15, 3) := by decide +kernel
theorem dX6_dropFirst_31 : decode cX6_dropFirst 31 = .ok (.aload_n 0, 1) := by decide +kernel
theorem dX6_dropFirst_32 : decode cX6_dropFirst 32 = .ok (.getfield 24, 3) := by decide +kernel
theorem dX6_dropFirst_35 : decode cX6_dropFirst 35 = .ok (.iload_n 1, 1) := by decide +kernel
theorem dX6_dropFirst_36 : decode cX6_dropFirst 36 = .ok (.aload_n 0, 1) := by decide +kernel
theorem dX6_dropFirst_37 : decode cX6_dropFirst 37 = .ok (.getfield 24, 3) := by decide +kernel
theorem dX6_dropFirst_40 : decode cX6_dropFirst 40 = .ok (.iload_n 2, 1) := by decide +kernel
theorem dX6_dropFirst_41 : decode cX6_dropFirst 41 = .ok (.iaload, 1) := by decide +kernel
theorem dX6_dropFirst_42 : decode cX6_dropFirst 42 = .ok (.iastore, 1) := by decide +kernel
theorem dX6_dropFirst_43 : decode cX6_dropFirst 43 = .ok (.iinc 1 1, 3) := by decide +kernel
theorem dX6_dropFirst_46 : decode cX6_dropFirst 46 = .ok (.goto (-44), 3) := by decide +kernel
theorem dX6_dropFirst_49 : decode cX6_dropFirst 49 = .ok (.aload_n 0, 1) := by decide +kernel
theorem dX6_dropFirst_50 : decode cX6_dropFirst 50 = .ok (.iconst 0, 1) := by decide +kernel
theorem dX6_dropFirst_51 : decode cX6_dropFirst 51 = .ok (.aload_n 0, 1) := by decide +kernel
theorem dX6_dropFirst_52 : decode cX6_dropFirst 52 = .ok (.getfield 28, 3) := by decide +kernel
theorem dX6_dropFirst_55 : decode cX6_dropFirst 55 = .ok (.iconst 1, 1) := by decide +kernel
theorem dX6_dropFirst_56 : decode cX6_dropFirst 56 = .ok (.isub, 1) := by decide +kernel
theorem dX6_dropFirst_57 : decode cX6_dropFirst 57 = .ok (.invokestatic 18, 3) := by decide +kernel
theorem dX6_dropFirst_60 : decode cX6_dropFirst 60 = .ok (.putfield 28, 3) := by decide +kernel
theorem dX6_dropFirst_63 : decode cX6_dropFirst 63 = .ok (.return_, 1) := by decide +kernel
theorem dX6_copy_0 : decode cX6_copy 0 = .ok (.aload_n 1, 1) := by decide +kernel
theorem dX6_copy_1 : decode cX6_copy 1 = .ok (.ifnonnull 4, 3) := by decide +kernel
theorem dX6_copy_4 : decode cX6_copy 4 = .ok (.return_, 1) := by decide +kernel
theorem dX6_copy_5 : decode cX6_copy 5 = .ok (.iconst 0, 1) := by decide +kernel
theorem dX6_copy_6 : decode cX6_copy 6 = .ok (.istore_n 2, 1) := by decide +kernel
theorem dX6_copy_7 : decode cX6_copy 7 = .ok (.iload_n 2, 1) := by decide +kernel
theorem dX6_copy_8 : decode cX6_copy 8 = .ok (.aload_n 0, 1) := by decide +kernel
theorem dX6_copy_9 : decode cX6_copy 9 = .ok (.getfield 24, 3) := by decide +kernel
theorem dX6_copy_12 : decode cX6_copy 12 = .ok (.arraylength, 1) := by decide +kernel
theorem dX6_copy_13 : decode cX6_copy 13 = .ok (.if_icmp .ge 30, 3) := by decide +kernel
theorem dX6_copy_16 : decode cX6_copy 16 = .ok (.iload_n 2, 1) := by decide +kernel
theorem dX6_copy_17 : decode cX6_copy 17 = .ok (.aload_n 1, 1) := by decide +kernel
theorem dX6_copy_18 : decode cX6_copy 18 = .ok (.getfield 24, 3) := by decide +kernel
theorem dX6_copy_21 : decode cX6_copy 21 = .ok (.arraylength, 1) := by decide +kernel
theorem dX6_copy_22 : decode cX6_copy 22 = .ok (.if_icmp .ge 21, 3) := by decide +kernel
theorem dX6_copy_25 : decode cX6_copy 25 = .ok (.aload_n 0, 1) := by decide +kernel
theorem dX6_copy_26 : decode cX6_copy 26 = .ok (.getfield 24, 3) := by decide +kernel
theorem dX6_copy_29 : decode cX6_copy 29 = .ok (.iload_n 2, 1) := by decide +kernel
theorem dX6_copy_30 : decode cX6_copy 30 = .ok (.aload_n 1, 1) := by decide +kernel
theorem dX6_copy_31 : decode cX6_copy 31 = .ok (.getfield 24, 3) := by decide +kernel
theorem dX6_copy_34 : decode cX6_copy 34 = .ok (.iload_n 2, 1) := by decide +kernel
theorem dX6_copy_35 : decode cX6_copy 35 = .ok (.iaload, 1) := by decide +kernel
theorem dX6_copy_36 : decode cX6_copy 36 = .ok (.iastore, 1) := by decide +kernel
theorem dX6_copy_37 : decode cX6_copy 37 = .ok (.iinc 2 1, 3) := by decide +kernel
theorem dX6_copy_40 : decode cX6_copy 40 = .ok (.goto (-33), 3) := by decide +kernel
theorem dX6_copy_43 : decode cX6_copy 43 = .ok (.aload_n 0, 1) := by decide +kernel
theorem dX6_copy_44 : decode cX6_copy 44 = .ok (.aload_n 1, 1) := by decide +kernel
theorem dX6_copy_45 : decode cX6_copy 45 = .ok (.getfield 28, 3) := by decide +kernel
theorem dX6_copy_48 : decode cX6_copy 48 = .ok (.aload_n 0, 1) := by decide +kernel
theorem dX6_copy_49 : decode cX6_copy 49 = .ok (.getfield 9, 3) := by decide +kernel
theorem dX6_copy_52 : decode cX6_copy 52 = .ok (.invokestatic 39, 3) := by decide +kernel
theorem dX6_copy_55 : decode cX6_copy 55 = .ok (.putfield 28, 3) := by decide +kernel
theorem dX6_copy_58 : decode cX6_copy 58 = .ok (.return_, 1) := by decide +kernel
theorem dX6_mixedInto_0 : decode cX6_mixedInto 0 = .ok (.lload_n 1, 1) := by decide +kernel
theorem dX6_mixedInto_1 : decode cX6_mixedInto 1 = .ok (.lstore_n 3, 1) := by decide +kernel
theorem dX6_mixedInto_2 : decode cX6_mixedInto 2 = .ok (.iconst 0, 1) := by decide +kernel
theorem dX6_mixedInto_3 : decode cX6_mixedInto 3 = .ok (.istore 5, 2) := by decide +kernel
theorem dX6_mixedInto_5 : decode cX6_mixedInto 5 = .ok (.iload 5, 2) := by decide +kernel
theorem dX6_mixedInto_7 : decode cX6_mixedInto 7 = .ok (.aload_n 0, 1) := by decide +kernel
theorem dX6_mixedInto_8 : decode cX6_mixedInto 8 = .ok (.getfield 28, 3) := by decide +kernel
theorem dX6_mixedInto_11 : decode cX6_mixedInto 11 = .ok (.if_icmp .ge 43, 3) := by decide +kernel
theorem dX6_mixedInto_14 : decode cX6_mixedInto 14 = .ok (.iconst 0, 1) := by decide +kernel
theorem dX6_mixedInto_15 : decode cX6_mixedInto 15 = .ok (.istore 6, 2) := by decide +kernel
theorem dX6_mixedInto_17 : decode cX6_mixedInto 17 = .ok (.iload 6, 2) := by decide +kernel
theorem dX6_mixedInto_19 : decode cX6_mixedInto 19 = .ok (.aload_n 0, 1) := by decide +kernel
theorem dX6_mixedInto_20 : decode cX6_mixedInto 20 = .ok (.getfield 15, 3) := by decide +kernel
theorem dX6_mixedInto_23 : decode cX6_mixedInto 23 = .ok (.if_icmp .ge 25, 3) := by decide +kernel
theorem dX6_mixedInto_26 : decode cX6_mixedInto 26 = .ok (.ldc2_w 42, 3) := by decide +kernel
theorem dX6_mixedInto_29 : decode cX6_mixedInto 29 = .ok (.lload_n 3, 1) := by decide +kernel
theorem dX6_mixedInto_30 : decode cX6_mixedInto 30 = .ok (.lmul, 1) := by decide +kernel
theorem dX6_mixedInto_31 : decode cX6_mixedInto 31 = .ok (.aload_n 0, 1) := by decide +kernel
theorem dX6_mixedInto_32 : decode cX6_mixedInto 32 = .ok (.iload 5, 2) := by decide +kernel
theorem dX6_mixedInto_34 : decode cX6_mixedInto 34 = .ok (.iload 6, 2) := by decide +kernel
theorem dX6_mixedInto_36 : decode cX6_mixedInto 36 = .ok (.invokevirtual 44, 3) := by decide +kernel
theorem dX6_mixedInto_39 : decode cX6_mixedInto 39 = .ok (.i2l, 1) := by decide +kernel
theorem dX6_mixedInto_40 : decode cX6_mixedInto 40 = .ok (.ladd, 1) := by decide +kernel
theorem dX6_mixedInto_41 : decode cX6_mixedInto 41 = .ok (.lstore_n 3, 1) := by decide +kernel
theorem dX6_mixedInto_42 : decode cX6_mixedInto 42 = .ok (.iinc 6 1, 3) := by decide +kernel
theorem dX6_mixedInto_45 : decode cX6_mixedInto 45 = .ok (.goto (-28), 3) := by decide +kernel
theorem dX6_mixedInto_48 : decode cX6_mixedInto 48 = .ok (.iinc 5 1, 3) := by decide +kernel
theorem dX6_mixedInto_51 : decode cX6_mixedInto 51 = .ok (.goto (-46), 3) := by decide +kernel
theorem dX6_mixedInto_54 : decode cX6_mixedInto 54 = .ok (.lload_n 3, 1) := by decide +kernel
theorem dX6_mixedInto_55 : decode cX6_mixedInto 55 = .ok (.lreturn, 1) := by decide +kernel
theorem dX7_init_0 : decode cX7_init 0 = .ok (.aload_n 0, 1) := by decide +kernel
theorem dX7_init_1 : decode cX7_init 1 = .ok (.invokespecial 3, 3) := by decide +kernel
theorem dX7_init_4 : decode cX7_init 4 = .ok (.aload_n 0, 1) := by decide +kernel
theorem dX7_init_5 : decode cX7_init 5 = .ok (.new 9, 3) := by decide +kernel
theorem dX7_init_8 : decode cX7_init 8 = .ok (.dup, 1) := by decide +kernel
theorem dX7_init_9 : decode cX7_init 9 = .ok (.invokespecial 11, 3) := by decide +kernel
theorem dX7_init_12 : decode cX7_init 12 = .ok (.putfield 12, 3) := by decide +kernel
theorem dX7_init_15 : decode cX7_init 15 = .ok (.aload_n 0, 1) := by decide +kernel
theorem dX7_init_16 : decode cX7_init 16 = .ok (.new 9, 3) := by decide +kernel
theorem dX7_init_19 : decode cX7_init 19 = .ok (.dup, 1) := by decide +kernel
theorem dX7_init_20 : decode cX7_init 20 = .ok (.invokespecial 11, 3) := by decide +kernel
theorem dX7_init_23 : decode cX7_init 23 = .ok (.putfield 16, 3) := by decide +kernel
theorem dX7_init_26 : decode cX7_init 26 = .ok (.aload_n 0, 1) := by decide +kernel
theorem dX7_init_27 : decode cX7_init 27 = .ok (.new 9, 3) := by decide +kernel
theorem dX7_init_30 : decode cX7_init 30 = .ok (.dup, 1) := by decide +kernel
theorem dX7_init_31 : decode cX7_init 31 = .ok (.invokespecial 11, 3) := by decide +kernel
theorem dX7_init_34 : decode cX7_init 34 = .ok (.putfield 19, 3) := by decide +kernel
theorem dX7_init_37 : decode cX7_init 37 = .ok (.aload_n 0, 1) := by decide +kernel
theorem dX7_init_38 : decode cX7_init 38 = .ok (.new 9, 3) := by decide +kernel
theorem dX7_init_41 : decode cX7_init 41 = .ok (.dup, 1) := by decide +kernel
theorem dX7_init_42 : decode cX7_init 42 = .ok (.invokespecial 11, 3) := by decide +kernel
theorem dX7_init_45 : decode cX7_init 45 = .ok (.putfield 22, 3) := by decide +kernel
theorem dX7_init_48 : decode cX7_init 48 = .ok (.aload_n 0, 1) := by decide +kernel
theorem dX7_init_49 : decode cX7_init 49 = .ok (.new 25, 3) := by decide +kernel
theorem dX7_init_52 : decode cX7_init 52 = .ok (.dup, 1) := by decide +kernel
theorem dX7_init_53 : decode cX7_init 53 = .ok (.invokespecial 27, 3) := by decide +kernel
theorem dX7_init_56 : decode cX7_init 56 = .ok (.putfield 28, 3) := by decide +kernel
theorem dX7_init_59 : decode cX7_init 59 = .ok (.aload_n 0, 1) := by decide +kernel
theorem dX7_init_60 : decode cX7_init 60 = .ok (.new 32, 3) := by decide +kernel
theorem dX7_init_63 : decode cX7_init 63 = .ok (.dup, 1) := by decide +kernel
theorem dX7_init_64 : decode cX7_init 64 = .ok (.invokespecial 34, 3) := by decide +kernel
theorem dX7_init_67 : decode cX7_init 67 = .ok (.putfield 35, 3) := by decide +kernel
theorem dX7_init_70 : decode cX7_init 70 = .ok (.aload_n 0, 1) := by decide +kernel
theorem dX7_init_71 : decode cX7_init 71 = .ok (.new 39, 3) := by decide +kernel
theorem dX7_init_74 : decode cX7_init 74 = .ok (.dup, 1) := by decide +kernel
theorem dX7_init_75 : decode cX7_init 75 = .ok (.invokespecial 41, 3) := by decide +kernel
theorem dX7_init_78 : decode cX7_init 78 = .ok (.putfield 42, 3) := by decide +kernel
theorem dX7_init_81 : decode cX7_init 81 = .ok (.return_, 1) := by decide +kernel
theorem dX7_house_0 : decode cX7_house 0 = .ok (.aload_n 0, 1) := by decide +kernel
theorem dX7_house_1 : decode cX7_house 1 = .ok (.getfield 12, 3) := by decide +kernel
theorem dX7_house_4 : decode cX7_house 4 = .ok (.getfield 46, 3) := by decide +kernel
theorem dX7_house_7 : decode cX7_house 7 = .ok (.getfield 50, 3) := by decide +kernel
theorem dX7_house_10 : decode cX7_house 10 = .ok (.istore_n 1, 1) := by decide +kernel
theorem dX7_house_11 : decode cX7_house 11 = .ok (.aload_n 0, 1) := by decide +kernel
theorem dX7_house_12 : decode cX7_house 12 = .ok (.getfield 12, 3) := by decide +kernel
theorem dX7_house_15 : decode cX7_house 15 = .ok (.invokevirtual 56, 3) := by decide +kernel
theorem dX7_house_18 : decode cX7_house 18 = .ok (.iload_n 1, 1) := by decide +kernel
theorem dX7_house_19 : decode cX7_house 19 = .ok (.ireturn, 1) := by decide +kernel
theorem dX7_say_0 : decode cX7_say 0 = .ok (.iload_n 1, 1) := by decide +kernel
theorem dX7_say_1 : decode cX7_say 1 = .ok (.invokestatic 59, 3) := by decide +kernel
theorem dX7_say_4 : decode cX7_say 4 = .ok (.ifCond .eq 20, 3) := by decide +kernel
theorem dX7_say_7 : decode cX7_say 7 = .ok (.iload_n 2, 1) := by decide +kernel
theorem dX7_say_8 : decode cX7_say 8 = .ok (.invokestatic 63, 3) := by decide +kernel
theorem dX7_say_11 : decode cX7_say 11 = .ok (.ifCond .eq 13, 3) := by decide +kernel
theorem dX7_say_14 : decode cX7_say 14 = .ok (.iload_n 3, 1) := by decide +kernel
theorem dX7_say_15 : decode cX7_say 15 = .ok (.iconst 1, 1) := by decide +kernel
theorem dX7_say_16 : decode cX7_say 16 = .ok (.bipush 9, 2) := by decide +kernel
theorem dX7_say_18 : decode cX7_say 18 = .ok (.invokestatic 66, 3) := by decide +kernel
theorem dX7_say_21 : decode cX7_say 21 = .ok (.ifCond .ne 8, 3) := by decide +kernel
theorem dX7_say_24 : decode cX7_say 24 = .ok (.aload_n 0, 1) := by decide +kernel
theorem dX7_say_25 : decode cX7_say 25 = .ok (.invokevirtual 70, 3) := by decide +kernel
theorem dX7_say_28 : decode cX7_say 28 = .ok (.ireturn, 1) := by decide +kernel
theorem dX7_say_29 : decode cX7_say 29 = .ok (.aload_n 0, 1) := by decide +kernel
theorem dX7_say_30 : decode cX7_say 30 = .ok (.getfield 12, 3) := by decide +kernel
theorem dX7_say_33 : decode cX7_say 33 = .ok (.getfield 46, 3) := by decide +kernel
theorem dX7_say_36 : decode cX7_say 36 = .ok (.invokevirtual 74, 3) := by decide +kernel
theorem dX7_say_39 : decode cX7_say 39 = .ok (.ifCond .eq 8, 3) := by decide +kernel
theorem dX7_say_42 : decode cX7_say 42 = .ok (.aload_n 0, 1) := by decide +kernel
theorem dX7_say_43 : decode cX7_say 43 = .ok (.invokevirtual 78, 3) := by decide +kernel
theorem dX7_say_46 : decode cX7_say 46 = .ok (.ireturn, 1) := by decide +kernel
theorem dX7_say_47 : decode cX7_say 47 = .ok (.aload_n 0, 1) := by decide +kernel
theorem dX7_say_48 : decode cX7_say 48 = .ok (.getfield 12, 3) := by decide +kernel
theorem dX7_say_51 : decode cX7_say 51 = .ok (.iload_n 1, 1) := by decide +kernel
theorem dX7_say_52 : decode cX7_say 52 = .ok (.iload_n 2, 1) := by decide +kernel
theorem dX7_say_53 : decode cX7_say 53 = .ok (.iload_n 3, 1) := by decide +kernel
theorem dX7_say_54 : decode cX7_say 54 = .ok (.invokevirtual 81, 3) := by decide +kernel
theorem dX7_say_57 : decode cX7_say 57 = .ok (.ireturn, 1) := by decide +kernel
theorem dX7_ear_0 : decode cX7_ear 0 = .ok (.iload_n 1, 1) := by decide +kernel
theorem dX7_ear_1 : decode cX7_ear 1 = .ok (.invokestatic 59, 3) := by decide +kernel
theorem dX7_ear_4 : decode cX7_ear 4 = .ok (.ifCond .ne 8, 3) := by decide +kernel
theorem dX7_ear_7 : decode cX7_ear 7 = .ok (.aload_n 0, 1) := by decide +kernel
theorem dX7_ear_8 : decode cX7_ear 8 = .ok (.invokevirtual 70, 3) := by decide +kernel
theorem dX7_ear_11 : decode cX7_ear 11 = .ok (.ireturn, 1) := by decide +kernel
theorem dX7_ear_12 : decode cX7_ear 12 = .ok (.aload_n 0, 1) := by decide +kernel
theorem dX7_ear_13 : decode cX7_ear 13 = .ok (.getfield 12, 3) := by decide +kernel
theorem dX7_ear_16 : decode cX7_ear 16 = .ok (.getfield 85, 3) := by decide +kernel
theorem dX7_ear_19 : decode cX7_ear 19 = .ok (.invokevirtual 74, 3) := by decide +kernel
theorem dX7_ear_22 : decode cX7_ear 22 = .ok (.ifCond .eq 8, 3) := by decide +kernel
theorem dX7_ear_25 : decode cX7_ear 25 = .ok (.aload_n 0, 1) := by decide +kernel
theorem dX7_ear_26 : decode cX7_ear 26 = .ok (.invokevirtual 78, 3) := by decide +kernel
theorem dX7_ear_29 : decode cX7_ear 29 = .ok (.ireturn, 1) := by decide +kernel
theorem dX7_ear_30 : decode cX7_ear 30 = .ok (.aload_n 0, 1) := by decide +kernel
theorem dX7_ear_31 : decode cX7_ear 31 = .ok (.getfield 12, 3) := by decide +kernel
theorem dX7_ear_34 : decode cX7_ear 34 = .ok (.iload_n 1, 1) := by decide +kernel
theorem dX7_ear_35 : decode cX7_ear 35 = .ok (.iconst 0, 1) := by decide +kernel
theorem dX7_ear_36 : decode cX7_ear 36 = .ok (.invokevirtual 88, 3) := by decide +kernel
theorem dX7_ear_39 : decode cX7_ear 39 = .ok (.ireturn, 1) := by decide +kernel
theorem dX7_type_0 : decode cX7_type 0 = .ok (.iload_n 1, 1) := by decide +kernel
theorem dX7_type_1 : decode cX7_type 1 = .ok (.iconst 0, 1) := by decide +kernel
theorem dX7_type_2 : decode cX7_type 2 = .ok (.bipush 127, 2) := by decide +kernel
theorem dX7_type_4 : decode cX7_type 4 = .ok (.invokestatic 66, 3) := by decide +kernel
theorem dX7_type_7 : decode cX7_type 7 = .ok (.ifCond .ne 8, 3) := by decide +kernel
theorem dX7_type_10 : decode cX7_type 10 = .ok (.aload_n 0, 1) := by decide +kernel
theorem dX7_type_11 : decode cX7_type 11 = .ok (.invokevirtual 70, 3) := by decide +kernel
theorem dX7_type_14 : decode cX7_type 14 = .ok (.ireturn, 1) := by decide +kernel
theorem dX7_type_15 : decode cX7_type 15 = .ok (.aload_n 0, 1) := by decide +kernel
theorem dX7_type_16 : decode cX7_type 16 = .ok (.getfield 28, 3) := by decide +kernel
theorem dX7_type_19 : decode cX7_type 19 = .ok (.getfield 92, 3) := by decide +kernel
theorem dX7_type_22 : decode cX7_type 22 = .ok (.invokevirtual 74, 3) := by decide +kernel
theorem dX7_type_25 : decode cX7_type 25 = .ok (.ifCond .eq 8, 3) := by decide +kernel
theorem dX7_type_28 : decode cX7_type 28 = .ok (.aload_n 0, 1) := by decide +kernel
theorem dX7_type_29 : decode cX7_type 29 = .ok (.invokevirtual 78, 3) := by decide +kernel
theorem dX7_type_32 : decode cX7_type 32 = .ok (.ireturn, 1) := by decide +kernel
theorem dX7_type_33 : decode cX7_type 33 = .ok (.aload_n 0, 1) := by decide +kernel
theorem dX7_type_34 : decode cX7_type 34 = .ok (.getfield 28, 3) := by decide +kernel
theorem dX7_type_37 : decode cX7_type 37 = .ok (.getfield 92, 3) := by decide +kernel
theorem dX7_type_40 : decode cX7_type 40 = .ok (.iload_n 1, 1) := by decide +kernel
theorem dX7_type_41 : decode cX7_type 41 = .ok (.iconst 0, 1) := by decide +kernel
theorem dX7_type_42 : decode cX7_type 42 = .ok (.iconst 0, 1) := by decide +kernel
theorem dX7_type_43 : decode cX7_type 43 = .ok (.iconst 0, 1) := by decide +kernel
theorem dX7_type_44 : decode cX7_type 44 = .ok (.invokevirtual 95, 3) := by decide +kernel
theorem dX7_type_47 : decode cX7_type 47 = .ok (.iconst 1, 1) := by decide +kernel
theorem dX7_type_48 : decode cX7_type 48 = .ok (.iadd, 1) := by decide +kernel
theorem dX7_type_49 : decode cX7_type 49 = .ok (.ireturn, 1) := by decide +kernel
theorem dX7_clear_0 : decode cX7_clear 0 = .ok (.aload_n 0, 1) := by decide +kernel
theorem dX7_clear_1 : decode cX7_clear 1 = .ok (.getfield 28, 3) := by decide +kernel
theorem dX7_clear_4 : decode cX7_clear 4 = .ok (.getfield 92, 3) := by decide +kernel
theorem dX7_clear_7 : decode cX7_clear 7 = .ok (.invokevirtual 99, 3) := by decide +kernel
theorem dX7_clear_10 : decode cX7_clear 10 = .ok (.ireturn, 1) := by decide +kernel
theorem dX7_read_0 : decode cX7_read 0 = .ok (.aload_n 0, 1) := by decide +kernel
theorem dX7_read_1 : decode cX7_read 1 = .ok (.getfield 28, 3) := by decide +kernel
theorem dX7_read_4 : decode cX7_read 4 = .ok (.aload_n 0, 1) := by decide +kernel
theorem dX7_read_5 : decode cX7_read 5 = .ok (.getfield 16, 3) := by decide +kernel
theorem dX7_read_8 : decode cX7_read 8 = .ok (.invokevirtual 102, 3) := by decide +kernel
theorem dX7_read_11 : decode cX7_read 11 = .ok (.istore_n 1, 1) := by decide +kernel
theorem dX7_read_12 : decode cX7_read 12 = .ok (.iload_n 1, 1) := by decide +kernel
theorem dX7_read_13 : decode cX7_read 13 = .ok (.ifCond .lt 14, 3) := by decide +kernel
theorem dX7_read_16 : decode cX7_read 16 = .ok (.aload_n 0, 1) := by decide +kernel
theorem dX7_read_17 : decode cX7_read 17 = .ok (.getfield 12, 3) := by decide +kernel
theorem dX7_read_20 : decode cX7_read 20 = .ok (.aload_n 0, 1) := by decide +kernel
theorem dX7_read_21 : decode cX7_read 21 = .ok (.getfield 16, 3) := by decide +kernel
theorem dX7_read_24 : decode cX7_read 24 = .ok (.invokevirtual 106, 3) := by decide +kernel
theorem dX7_read_27 : decode cX7_read 27 = .ok (.iload_n 1, 1) := by decide +kernel
theorem dX7_read_28 : decode cX7_read 28 = .ok (.ireturn, 1) := by decide +kernel
theorem dX7_strips_0 : decode cX7_strips 0 = .ok (.iload_n 1, 1) := by decide +kernel
theorem dX7_strips_1 : decode cX7_strips 1 = .ok (.invokestatic 63, 3) := by decide +kernel
theorem dX7_strips_4 : decode cX7_strips 4 = .ok (.ifCond .ne 8, 3) := by decide +kernel
theorem dX7_strips_7 : decode cX7_strips 7 = .ok (.aload_n 0, 1) := by decide +kernel
theorem dX7_strips_8 : decode cX7_strips 8 = .ok (.invokevirtual 70, 3) := by decide +kernel
theorem dX7_strips_11 : decode cX7_strips 11 = .ok (.ireturn, 1) := by decide +kernel
theorem dX7_strips_12 : decode cX7_strips 12 = .ok (.aload_n 0, 1) := by decide +kernel
theorem dX7_strips_13 : decode cX7_strips 13 = .ok (.getfield 12, 3) := by decide +kernel
theorem dX7_strips_16 : decode cX7_strips 16 = .ok (.invokevirtual 110, 3) := by decide +kernel
theorem dX7_strips_19 : decode cX7_strips 19 = .ok (.aload_n 0, 1) := by decide +kernel
theorem dX7_strips_20 : decode cX7_strips 20 = .ok (.getfield 12, 3) := by decide +kernel
theorem dX7_strips_23 : decode cX7_strips 23 = .ok (.iload_n 1, 1) := by decide +kernel
theorem dX7_strips_24 : decode cX7_strips 24 = .ok (.invokevirtual 113, 3) := by decide +kernel
theorem dX7_strips_27 : decode cX7_strips 27 = .ok (.aload_n 0, 1) := by decide +kernel
theorem dX7_strips_28 : decode cX7_strips 28 = .ok (.getfield 12, 3) := by decide +kernel
theorem dX7_strips_31 : decode cX7_strips 31 = .ok (.iload_n 1, 1) := by decide +kernel
theorem dX7_strips_32 : decode cX7_strips 32 = .ok (.invokevirtual 117, 3) := by decide +kernel
theorem dX7_strips_35 : decode cX7_strips 35 = .ok (.ireturn, 1) := by decide +kernel
theorem dX7_papers_0 : decode cX7_papers 0 = .ok (.iload_n 1, 1) := by decide +kernel
theorem dX7_papers_1 : decode cX7_papers 1 = .ok (.invokestatic 63, 3) := by decide +kernel
theorem dX7_papers_4 : decode cX7_papers 4 = .ok (.ifCond .ne 8, 3) := by decide +kernel
theorem dX7_papers_7 : decode cX7_papers 7 = .ok (.aload_n 0, 1) := by decide +kernel
theorem dX7_papers_8 : decode cX7_papers 8 = .ok (.invokevirtual 70, 3) := by decide +kernel
theorem dX7_papers_11 : decode cX7_papers 11 = .ok (.ireturn, 1) := by decide +kernel
theorem dX7_papers_12 : decode cX7_papers 12 = .ok (.aload_n 0, 1) := by decide +kernel
theorem dX7_papers_13 : decode cX7_papers 13 = .ok (.getfield 12, 3) := by decide +kernel
theorem dX7_papers_16 : decode cX7_papers 16 = .ok (.iload_n 1, 1) := by decide +kernel
theorem dX7_papers_17 : decode cX7_papers 17 = .ok (.invokevirtual 121, 3) := by decide +kernel
theorem dX7_papers_20 : decode cX7_papers 20 = .ok (.ifCond .ne 8, 3) := by decide +kernel
theorem dX7_papers_23 : decode cX7_papers 23 = .ok (.aload_n 0, 1) := by decide +kernel
theorem dX7_papers_24 : decode cX7_papers 24 = .ok (.invokevirtual 124, 3) := by decide +kernel
theorem dX7_papers_27 : decode cX7_papers 27 = .ok (.ireturn, 1) := by decide +kernel
theorem dX7_papers_28 : decode cX7_papers 28 = .ok (.aload_n 0, 1) := by decide +kernel
theorem dX7_papers_29 : decode cX7_papers 29 = .ok (.getfield 12, 3) := by decide +kernel
theorem dX7_papers_32 : decode cX7_papers 32 = .ok (.invokevirtual 110, 3) := by decide +kernel
theorem dX7_papers_35 : decode cX7_papers 35 = .ok (.aload_n 0, 1) := by decide +kernel
theorem dX7_papers_36 : decode cX7_papers 36 = .ok (.getfield 12, 3) := by decide +kernel
theorem dX7_papers_39 : decode cX7_papers 39 = .ok (.iload_n 1, 1) := by decide +kernel
theorem dX7_papers_40 : decode cX7_papers 40 = .ok (.invokevirtual 127, 3) := by decide +kernel
theorem dX7_papers_43 : decode cX7_papers 43 = .ok (.iconst 1, 1) := by decide +kernel
theorem dX7_papers_44 : decode cX7_papers 44 = .ok (.ireturn, 1) := by decide +kernel
theorem dX7_goes_0 : decode cX7_goes 0 = .ok (.aload_n 0, 1) := by decide +kernel
theorem dX7_goes_1 : decode cX7_goes 1 = .ok (.iload_n 1, 1) := by decide +kernel
theorem dX7_goes_2 : decode cX7_goes 2 = .ok (.invokevirtual 130, 3) := by decide +kernel
theorem dX7_goes_5 : decode cX7_goes 5 = .ok (.ifCond .eq 10, 3) := by decide +kernel
theorem dX7_goes_8 : decode cX7_goes 8 = .ok (.iload_n 2, 1) := by decide +kernel
theorem dX7_goes_9 : decode cX7_goes 9 = .ok (.invokestatic 63, 3) := by decide +kernel
theorem dX7_goes_12 : decode cX7_goes 12 = .ok (.ifCond .ne 8, 3) := by decide +kernel
theorem dX7_goes_15 : decode cX7_goes 15 = .ok (.aload_n 0, 1) := by decide +kernel
theorem dX7_goes_16 : decode cX7_goes 16 = .ok (.invokevirtual 70, 3) := by decide +kernel
theorem dX7_goes_19 : decode cX7_goes 19 = .ok (.ireturn, 1) := by decide +kernel
theorem dX7_goes_20 : decode cX7_goes 20 = .ok (.aload_n 0, 1) := by decide +kernel
theorem dX7_goes_21 : decode cX7_goes 21 = .ok (.getfield 12, 3) := by decide +kernel
theorem dX7_goes_24 : decode cX7_goes 24 = .ok (.getfield 85, 3) := by decide +kernel
theorem dX7_goes_27 : decode cX7_goes 27 = .ok (.iload_n 1, 1) := by decide +kernel
theorem dX7_goes_28 : decode cX7_goes 28 = .ok (.iconst 1, 1) := by decide +kernel
theorem dX7_goes_29 : decode cX7_goes 29 = .ok (.invokevirtual 133, 3) := by decide +kernel
theorem dX7_goes_32 : decode cX7_goes 32 = .ok (.istore_n 3, 1) := by decide +kernel
theorem dX7_goes_33 : decode cX7_goes 33 = .ok (.iload_n 3, 1) := by decide +kernel
theorem dX7_goes_34 : decode cX7_goes 34 = .ok (.iload_n 2, 1) := by decide +kernel
theorem dX7_goes_35 : decode cX7_goes 35 = .ok (.if_icmp .ne 8, 3) := by decide +kernel
theorem dX7_goes_38 : decode cX7_goes 38 = .ok (.aload_n 0, 1) := by decide +kernel
theorem dX7_goes_39 : decode cX7_goes 39 = .ok (.invokevirtual 124, 3) := by decide +kernel
theorem dX7_goes_42 : decode cX7_goes 42 = .ok (.ireturn, 1) := by decide +kernel
theorem dX7_goes_43 : decode cX7_goes 43 = .ok (.aload_n 0, 1) := by decide +kernel
theorem dX7_goes_44 : decode cX7_goes 44 = .ok (.getfield 12, 3) := by decide +kernel
theorem dX7_goes_47 : decode cX7_goes 47 = .ok (.invokevirtual 110, 3) := by decide +kernel
theorem dX7_goes_50 : decode cX7_goes 50 = .ok (.aload_n 0, 1) := by decide +kernel
theorem dX7_goes_51 : decode cX7_goes 51 = .ok (.getfield 12, 3) := by decide +kernel
theorem dX7_goes_54 : decode cX7_goes 54 = .ok (.getfield 85, 3) := by decide +kernel
theorem dX7_goes_57 : decode cX7_goes 57 = .ok (.iload_n 1, 1) := by decide +kernel
theorem dX7_goes_58 : decode cX7_goes 58 = .ok (.iconst 1, 1) := by decide +kernel
theorem dX7_goes_59 : decode cX7_goes 59 = .ok (.iload_n 2, 1) := by decide +kernel
theorem dX7_goes_60 : decode cX7_goes 60 = .ok (.invokevirtual 136, 3) := by decide +kernel
theorem dX7_goes_63 : decode cX7_goes 63 = .ok (.iload_n 3, 1) := by decide +kernel
theorem dX7_goes_64 : decode cX7_goes 64 = .ok (.ireturn, 1) := by decide +kernel
theorem dX7_minutes_0 : decode cX7_minutes 0 = .ok (.iload_n 1, 1) := by decide +kernel
theorem dX7_minutes_1 : decode cX7_minutes 1 = .ok (.iconst 1, 1) := by decide +kernel
theorem dX7_minutes_2 : decode cX7_minutes 2 = .ok (.bipush 99, 2) := by decide +kernel
theorem dX7_minutes_4 : decode cX7_minutes 4 = .ok (.invokestatic 66, 3) := by decide +kernel
theorem dX7_minutes_7 : decode cX7_minutes 7 = .ok (.ifCond .ne 8, 3) := by decide +kernel
theorem dX7_minutes_10 : decode cX7_minutes 10 = .ok (.aload_n 0, 1) := by decide +kernel
theorem dX7_minutes_11 : decode cX7_minutes 11 = .ok (.invokevirtual 70, 3) := by decide +kernel
theorem dX7_minutes_14 : decode cX7_minutes 14 = .ok (.ireturn, 1) := by decide +kernel
theorem dX7_minutes_15 : decode cX7_minutes 15 = .ok (.aload_n 0, 1) := by decide +kernel
theorem dX7_minutes_16 : decode cX7_minutes 16 = .ok (.getfield 12, 3) := by decide +kernel
theorem dX7_minutes_19 : decode cX7_minutes 19 = .ok (.invokevirtual 110, 3) := by decide +kernel
theorem dX7_minutes_22 : decode cX7_minutes 22 = .ok (.aload_n 0, 1) := by decide +kernel
theorem dX7_minutes_23 : decode cX7_minutes 23 = .ok (.getfield 12, 3) := by decide +kernel
theorem dX7_minutes_26 : decode cX7_minutes 26 = .ok (.iload_n 1, 1) := by decide +kernel
theorem dX7_minutes_27 : decode cX7_minutes 27 = .ok (.sipush 9999, 3) := by decide +kernel
theorem dX7_minutes_30 : decode cX7_minutes 30 = .ok (.invokevirtual 140, 3) := by decide +kernel
theorem dX7_minutes_33 : decode cX7_minutes 33 = .ok (.aload_n 0, 1) := by decide +kernel
theorem dX7_minutes_34 : decode cX7_minutes 34 = .ok (.getfield 12, 3) := by decide +kernel
theorem dX7_minutes_37 : decode cX7_minutes 37 = .ok (.invokevirtual 144, 3) := by decide +kernel
theorem dX7_minutes_40 : decode cX7_minutes 40 = .ok (.ireturn, 1) := by decide +kernel
theorem dX7_undo_0 : decode cX7_undo 0 = .ok (.aload_n 0, 1) := by decide +kernel
theorem dX7_undo_1 : decode cX7_undo 1 = .ok (.getfield 12, 3) := by decide +kernel
theorem dX7_undo_4 : decode cX7_undo 4 = .ok (.getfield 147, 3) := by decide +kernel
theorem dX7_undo_7 : decode cX7_undo 7 = .ok (.getfield 50, 3) := by decide +kernel
theorem dX7_undo_10 : decode cX7_undo 10 = .ok (.ifCond .ne 8, 3) := by decide +kernel
theorem dX7_undo_13 : decode cX7_undo 13 = .ok (.aload_n 0, 1) := by decide +kernel
theorem dX7_undo_14 : decode cX7_undo 14 = .ok (.invokevirtual 124, 3) := by decide +kernel
theorem dX7_undo_17 : decode cX7_undo 17 = .ok (.ireturn, 1) := by decide +kernel
theorem dX7_undo_18 : decode cX7_undo 18 = .ok (.aload_n 0, 1) := by decide +kernel
theorem dX7_undo_19 : decode cX7_undo 19 = .ok (.getfield 12, 3) := by decide +kernel
theorem dX7_undo_22 : decode cX7_undo 22 = .ok (.invokevirtual 150, 3) := by decide +kernel
theorem dX7_undo_25 : decode cX7_undo 25 = .ok (.aload_n 0, 1) := by decide +kernel
theorem dX7_undo_26 : decode cX7_undo 26 = .ok (.getfield 12, 3) := by decide +kernel
theorem dX7_undo_29 : decode cX7_undo 29 = .ok (.getfield 153, 3) := by decide +kernel
theorem dX7_undo_32 : decode cX7_undo 32 = .ok (.ireturn, 1) := by decide +kernel
theorem dX7_of_0 : decode cX7_of 0 = .ok (.aload_n 0, 1) := by decide +kernel
theorem dX7_of_1 : decode cX7_of 1 = .ok (.iload_n 1, 1) := by decide +kernel
theorem dX7_of_2 : decode cX7_of 2 = .ok (.invokevirtual 156, 3) := by decide +kernel
theorem dX7_of_5 : decode cX7_of 5 = .ok (.ifCond .eq 12, 3) := by decide +kernel
theorem dX7_of_8 : decode cX7_of 8 = .ok (.iload_n 2, 1) := by decide +kernel
theorem dX7_of_9 : decode cX7_of 9 = .ok (.iconst 0, 1) := by decide +kernel
theorem dX7_of_10 : decode cX7_of 10 = .ok (.iconst 2, 1) := by decide +kernel
theorem dX7_of_11 : decode cX7_of 11 = .ok (.invokestatic 66, 3) := by decide +kernel
theorem dX7_of_14 : decode cX7_of 14 = .ok (.ifCond .ne 8, 3) := by decide +kernel
theorem dX7_of_17 : decode cX7_of 17 = .ok (.aload_n 0, 1) := by decide +kernel
theorem dX7_of_18 : decode cX7_of 18 = .ok (.invokevirtual 70, 3) := by decide +kernel
theorem dX7_of_21 : decode cX7_of 21 = .ok (.ireturn, 1) := by decide +kernel
theorem dX7_of_22 : decode cX7_of 22 = .ok (.aload_n 0, 1) := by decide +kernel
theorem dX7_of_23 : decode cX7_of 23 = .ok (.getfield 12, 3) := by decide +kernel
theorem dX7_of_26 : decode cX7_of 26 = .ok (.getfield 46, 3) := by decide +kernel
theorem dX7_of_29 : decode cX7_of 29 = .ok (.iload_n 1, 1) := by decide +kernel
theorem dX7_of_30 : decode cX7_of 30 = .ok (.iload_n 2, 1) := by decide +kernel
theorem dX7_of_31 : decode cX7_of 31 = .ok (.invokevirtual 133, 3) := by decide +kernel
theorem dX7_of_34 : decode cX7_of 34 = .ok (.ireturn, 1) := by decide +kernel
theorem dX7_about_0 : decode cX7_about 0 = .ok (.aload_n 0, 1) := by decide +kernel
theorem dX7_about_1 : decode cX7_about 1 = .ok (.iload_n 1, 1) := by decide +kernel
theorem dX7_about_2 : decode cX7_about 2 = .ok (.invokevirtual 130, 3) := by decide +kernel
theorem dX7_about_5 : decode cX7_about 5 = .ok (.ifCond .eq 12, 3) := by decide +kernel
theorem dX7_about_8 : decode cX7_about 8 = .ok (.iload_n 2, 1) := by decide +kernel
theorem dX7_about_9 : decode cX7_about 9 = .ok (.iconst 0, 1) := by decide +kernel
theorem dX7_about_10 : decode cX7_about 10 = .ok (.iconst 3, 1) := by decide +kernel
theorem dX7_about_11 : decode cX7_about 11 = .ok (.invokestatic 66, 3) := by decide +kernel
theorem dX7_about_14 : decode cX7_about 14 = .ok (.ifCond .ne 8, 3) := by decide +kernel
theorem dX7_about_17 : decode cX7_about 17 = .ok (.aload_n 0, 1) := by decide +kernel
theorem dX7_about_18 : decode cX7_about 18 = .ok (.invokevirtual 70, 3) := by decide +kernel
theorem dX7_about_21 : decode cX7_about 21 = .ok (.ireturn, 1) := by decide +kernel
theorem dX7_about_22 : decode cX7_about 22 = .ok (.iload_n 2, 1) := by decide +kernel
theorem dX7_about_23 : decode cX7_about 23 = .ok (.iconst 3, 1) := by decide +kernel
theorem dX7_about_24 : decode cX7_about 24 = .ok (.if_icmp .ne 14, 3) := by decide +kernel
theorem dX7_about_27 : decode cX7_about 27 = .ok (.aload_n 0, 1) := by decide +kernel
theorem dX7_about_28 : decode cX7_about 28 = .ok (.getfield 12, 3) := by decide +kernel
theorem dX7_about_31 : decode cX7_about 31 = .ok (.iload_n 1, 1) := by decide +kernel
theorem dX7_about_32 : decode cX7_about 32 = .ok (.invokevirtual 159, 3) := by decide +kernel
theorem dX7_about_35 : decode cX7_about 35 = .ok (.goto 15, 3) := by decide +kernel
theorem dX7_about_38 : decode cX7_about 38 = .ok (.aload_n 0, 1) := by decide +kernel
theorem dX7_about_39 : decode cX7_about 39 = .ok (.getfield 12, 3) := by decide +kernel
theorem dX7_about_42 : decode cX7_about 42 = .ok (.getfield 85, 3) := by decide +kernel
theorem dX7_about_45 : decode cX7_about 45 = .ok (.iload_n 1, 1) := by decide +kernel
theorem dX7_about_46 : decode cX7_about 46 = .ok (.iload_n 2, 1) := by decide +kernel
theorem dX7_about_47 : decode cX7_about 47 = .ok (.invokevirtual 133, 3) := by decide +kernel
theorem dX7_about_50 : decode cX7_about 50 = .ok (.ireturn, 1) := by decide +kernel
theorem dX7_room_0 : decode cX7_room 0 = .ok (.iload_n 1, 1) := by decide +kernel
theorem dX7_room_1 : decode cX7_room 1 = .ok (.invokestatic 63, 3) := by decide +kernel
theorem dX7_room_4 : decode cX7_room 4 = .ok (.ifCond .eq 12, 3) := by decide +kernel
theorem dX7_room_7 : decode cX7_room 7 = .ok (.iload_n 2, 1) := by decide +kernel
theorem dX7_room_8 : decode cX7_room 8 = .ok (.iconst 0, 1) := by decide +kernel
theorem dX7_room_9 : decode cX7_room 9 = .ok (.iconst 1, 1) := by decide +kernel
theorem dX7_room_10 : decode cX7_room 10 = .ok (.invokestatic 66, 3) := by decide +kernel
theorem dX7_room_13 : decode cX7_room 13 = .ok (.ifCond .ne 8, 3) := by decide +kernel
theorem dX7_room_16 : decode cX7_room 16 = .ok (.aload_n 0, 1) := by decide +kernel
theorem dX7_room_17 : decode cX7_room 17 = .ok (.invokevirtual 70, 3) := by decide +kernel
theorem dX7_room_20 : decode cX7_room 20 = .ok (.ireturn, 1) := by decide +kernel
theorem dX7_room_21 : decode cX7_room 21 = .ok (.iload_n 2, 1) := by decide +kernel
theorem dX7_room_22 : decode cX7_room 22 = .ok (.ifCond .ne 15, 3) := by decide +kernel
theorem dX7_room_25 : decode cX7_room 25 = .ok (.aload_n 0, 1) := by decide +kernel
theorem dX7_room_26 : decode cX7_room 26 = .ok (.getfield 12, 3) := by decide +kernel
theorem dX7_room_29 : decode cX7_room 29 = .ok (.iload_n 1, 1) := by decide +kernel
theorem dX7_room_30 : decode cX7_room 30 = .ok (.iconst 0, 1) := by decide +kernel
theorem dX7_room_31 : decode cX7_room 31 = .ok (.invokevirtual 162, 3) := by decide +kernel
theorem dX7_room_34 : decode cX7_room 34 = .ok (.goto 11, 3) := by decide +kernel
theorem dX7_room_37 : decode cX7_room 37 = .ok (.aload_n 0, 1) := by decide +kernel
theorem dX7_room_38 : decode cX7_room 38 = .ok (.getfield 12, 3) := by decide +kernel
theorem dX7_room_41 : decode cX7_room 41 = .ok (.iload_n 1, 1) := by decide +kernel
theorem dX7_room_42 : decode cX7_room 42 = .ok (.invokevirtual 117, 3) := by decide +kernel
theorem dX7_room_45 : decode cX7_room 45 = .ok (.ireturn, 1) := by decide +kernel
theorem dX7_loud_0 : decode cX7_loud 0 = .ok (.aload_n 0, 1) := by decide +kernel
theorem dX7_loud_1 : decode cX7_loud 1 = .ok (.iload_n 1, 1) := by decide +kernel
theorem dX7_loud_2 : decode cX7_loud 2 = .ok (.invokevirtual 156, 3) := by decide +kernel
theorem dX7_loud_5 : decode cX7_loud 5 = .ok (.ifCond .eq 10, 3) := by decide +kernel
theorem dX7_loud_8 : decode cX7_loud 8 = .ok (.iload_n 2, 1) := by decide +kernel
theorem dX7_loud_9 : decode cX7_loud 9 = .ok (.invokestatic 165, 3) := by decide +kernel
theorem dX7_loud_12 : decode cX7_loud 12 = .ok (.ifCond .ne 8, 3) := by decide +kernel
theorem dX7_loud_15 : decode cX7_loud 15 = .ok (.aload_n 0, 1) := by decide +kernel
theorem dX7_loud_16 : decode cX7_loud 16 = .ok (.invokevirtual 70, 3) := by decide +kernel
theorem dX7_loud_19 : decode cX7_loud 19 = .ok (.ireturn, 1) := by decide +kernel
theorem dX7_loud_20 : decode cX7_loud 20 = .ok (.aload_n 0, 1) := by decide +kernel
theorem dX7_loud_21 : decode cX7_loud 21 = .ok (.getfield 12, 3) := by decide +kernel
theorem dX7_loud_24 : decode cX7_loud 24 = .ok (.iload_n 1, 1) := by decide +kernel
theorem dX7_loud_25 : decode cX7_loud 25 = .ok (.iload_n 2, 1) := by decide +kernel
theorem dX7_loud_26 : decode cX7_loud 26 = .ok (.invokevirtual 168, 3) := by decide +kernel
theorem dX7_loud_29 : decode cX7_loud 29 = .ok (.ireturn, 1) := by decide +kernel
theorem dX7_first_0 : decode cX7_first 0 = .ok (.aload_n 0, 1) := by decide +kernel
theorem dX7_first_1 : decode cX7_first 1 = .ok (.iload_n 1, 1) := by decide +kernel
theorem dX7_first_2 : decode cX7_first 2 = .ok (.invokevirtual 130, 3) := by decide +kernel
theorem dX7_first_5 : decode cX7_first 5 = .ok (.ifCond .eq 11, 3) := by decide +kernel
theorem dX7_first_8 : decode cX7_first 8 = .ok (.aload_n 0, 1) := by decide +kernel
theorem dX7_first_9 : decode cX7_first 9 = .ok (.iload_n 2, 1) := by decide +kernel
theorem dX7_first_10 : decode cX7_first 10 = .ok (.invokevirtual 156, 3) := by decide +kernel
theorem dX7_first_13 : decode cX7_first 13 = .ok (.ifCond .ne 8, 3) := by decide +kernel
theorem dX7_first_16 : decode cX7_first 16 = .ok (.aload_n 0, 1) := by decide +kernel
theorem dX7_first_17 : decode cX7_first 17 = .ok (.invokevirtual 70, 3) := by decide +kernel
theorem dX7_first_20 : decode cX7_first 20 = .ok (.ireturn, 1) := by decide +kernel
theorem dX7_first_21 : decode cX7_first 21 = .ok (.aload_n 0, 1) := by decide +kernel
theorem dX7_first_22 : decode cX7_first 22 = .ok (.getfield 12, 3) := by decide +kernel
theorem dX7_first_25 : decode cX7_first 25 = .ok (.iload_n 1, 1) := by decide +kernel
theorem dX7_first_26 : decode cX7_first 26 = .ok (.iload_n 2, 1) := by decide +kernel
theorem dX7_first_27 : decode cX7_first 27 = .ok (.invokestatic 171, 3) := by decide +kernel
theorem dX7_first_30 : decode cX7_first 30 = .ok (.ireturn, 1) := by decide +kernel
theorem dX7_stay_0 : decode cX7_stay 0 = .ok (.aload_n 0, 1) := by decide +kernel
theorem dX7_stay_1 : decode cX7_stay 1 = .ok (.iload_n 1, 1) := by decide +kernel
theorem dX7_stay_2 : decode cX7_stay 2 = .ok (.invokevirtual 130, 3) := by decide +kernel
theorem dX7_stay_5 : decode cX7_stay 5 = .ok (.ifCond .eq 29, 3) := by decide +kernel
theorem dX7_stay_8 : decode cX7_stay 8 = .ok (.aload_n 0, 1) := by decide +kernel
theorem dX7_stay_9 : decode cX7_stay 9 = .ok (.iload_n 2, 1) := by decide +kernel
theorem dX7_stay_10 : decode cX7_stay 10 = .ok (.invokevirtual 175, 3) := by decide +kernel
theorem dX7_stay_13 : decode cX7_stay 13 = .ok (.ifCond .eq 21, 3) := by decide +kernel
theorem dX7_stay_16 : decode cX7_stay 16 = .ok (.aload_n 0, 1) := by decide +kernel
theorem dX7_stay_17 : decode cX7_stay 17 = .ok (.iload_n 3, 1) := by decide +kernel
theorem dX7_stay_18 : decode cX7_stay 18 = .ok (.invokevirtual 175, 3) := by decide +kernel
theorem dX7_stay_21 : decode cX7_stay 21 = .ok (.ifCond .eq 13, 3) := by decide +kernel
theorem dX7_stay_24 : decode cX7_stay 24 = .ok (.iload_n 2, 1) := by decide +kernel
theorem dX7_stay_25 : decode cX7_stay 25 = .ok (.iload_n 3, 1) := by decide +kernel
theorem dX7_stay_26 : decode cX7_stay 26 = .ok (.iand, 1) := by decide +kernel
theorem dX7_stay_27 : decode cX7_stay 27 = .ok (.ifCond .ne 7, 3) := by decide +kernel
theorem dX7_stay_30 : decode cX7_stay 30 = .ok (.iconst 1, 1) := by decide +kernel
theorem dX7_stay_31 : decode cX7_stay 31 = .ok (.goto 4, 3) := by decide +kernel
theorem dX7_stay_34 : decode cX7_stay 34 = .ok (.iconst 0, 1) := by decide +kernel
theorem dX7_stay_35 : decode cX7_stay 35 = .ok (.istore 5, 2) := by decide +kernel
theorem dX7_stay_37 : decode cX7_stay 37 = .ok (.iload 5, 2) := by decide +kernel
theorem dX7_stay_39 : decode cX7_stay 39 = .ok (.ifCond .eq 13, 3) := by decide +kernel
theorem dX7_stay_42 : decode cX7_stay 42 = .ok (.iload 4, 2) := by decide +kernel
theorem dX7_stay_44 : decode cX7_stay 44 = .ok (.iconst (-1), 1) := by decide +kernel
theorem dX7_stay_45 : decode cX7_stay 45 = .ok (.iconst 3, 1) := by decide +kernel
theorem dX7_stay_46 : decode cX7_stay 46 = .ok (.invokestatic 66, 3) := by decide +kernel
theorem dX7_stay_49 : decode cX7_stay 49 = .ok (.ifCond .ne 8, 3) := by decide +kernel
theorem dX7_stay_52 : decode cX7_stay 52 = .ok (.aload_n 0, 1) := by decide +kernel
theorem dX7_stay_53 : decode cX7_stay 53 = .ok (.invokevirtual 70, 3) := by decide +kernel
theorem dX7_stay_56 : decode cX7_stay 56 = .ok (.ireturn, 1) := by decide +kernel
theorem dX7_stay_57 : decode cX7_stay 57 = .ok (.iload 4, 2) := by decide +kernel
theorem dX7_stay_59 : decode cX7_stay 59 = .ok (.iconst (-1), 1) := by decide +kernel
theorem dX7_stay_60 : decode cX7_stay 60 = .ok (.if_icmp .ne 14, 3) := by decide +kernel
theorem dX7_stay_63 : decode cX7_stay 63 = .ok (.aload_n 0, 1) := by decide +kernel
theorem dX7_stay_64 : decode cX7_stay 64 = .ok (.getfield 12, 3) := by decide +kernel
theorem dX7_stay_67 : decode cX7_stay 67 = .ok (.iload_n 1, 1) := by decide +kernel
theorem dX7_stay_68 : decode cX7_stay 68 = .ok (.iload_n 2, 1) := by decide +kernel
theorem dX7_stay_69 : decode cX7_stay 69 = .ok (.iload_n 3, 1) := by decide +kernel
theorem dX7_stay_70 : decode cX7_stay 70 = .ok (.invokestatic 178, 3) := by decide +kernel
theorem dX7_stay_73 : decode cX7_stay 73 = .ok (.ireturn, 1) := by decide +kernel
theorem dX7_stay_74 : decode cX7_stay 74 = .ok (.aload_n 0, 1) := by decide +kernel
theorem dX7_stay_75 : decode cX7_stay 75 = .ok (.getfield 12, 3) := by decide +kernel
theorem dX7_stay_78 : decode cX7_stay 78 = .ok (.iload_n 1, 1) := by decide +kernel
theorem dX7_stay_79 : decode cX7_stay 79 = .ok (.iload_n 2, 1) := by decide +kernel
theorem dX7_stay_80 : decode cX7_stay 80 = .ok (.iload_n 3, 1) := by decide +kernel
theorem dX7_stay_81 : decode cX7_stay 81 = .ok (.iload 4, 2) := by decide +kernel
theorem dX7_stay_83 : decode cX7_stay 83 = .ok (.invokestatic 182, 3) := by decide +kernel
theorem dX7_stay_86 : decode cX7_stay 86 = .ok (.ireturn, 1) := by decide +kernel
theorem dX7_stand_0 : decode cX7_stand 0 = .ok (.iload_n 1, 1) := by decide +kernel
theorem dX7_stand_1 : decode cX7_stand 1 = .ok (.iconst 1, 1) := by decide +kernel
theorem dX7_stand_2 : decode cX7_stand 2 = .ok (.bipush 30, 2) := by decide +kernel
theorem dX7_stand_4 : decode cX7_stand 4 = .ok (.invokestatic 66, 3) := by decide +kernel
theorem dX7_stand_7 : decode cX7_stand 7 = .ok (.ifCond .eq 12, 3) := by decide +kernel
theorem dX7_stand_10 : decode cX7_stand 10 = .ok (.iload_n 2, 1) := by decide +kernel
theorem dX7_stand_11 : decode cX7_stand 11 = .ok (.iconst 0, 1) := by decide +kernel
theorem dX7_stand_12 : decode cX7_stand 12 = .ok (.iconst 1, 1) := by decide +kernel
theorem dX7_stand_13 : decode cX7_stand 13 = .ok (.invokestatic 66, 3) := by decide +kernel
theorem dX7_stand_16 : decode cX7_stand 16 = .ok (.ifCond .ne 8, 3) := by decide +kernel
theorem dX7_stand_19 : decode cX7_stand 19 = .ok (.aload_n 0, 1) := by decide +kernel
theorem dX7_stand_20 : decode cX7_stand 20 = .ok (.invokevirtual 70, 3) := by decide +kernel
theorem dX7_stand_23 : decode cX7_stand 23 = .ok (.ireturn, 1) := by decide +kernel
theorem dX7_stand_24 : decode cX7_stand 24 = .ok (.aload_n 0, 1) := by decide +kernel
theorem dX7_stand_25 : decode cX7_stand 25 = .ok (.invokevirtual 186, 3) := by decide +kernel
theorem dX7_stand_28 : decode cX7_stand 28 = .ok (.ifCond .ne 8, 3) := by decide +kernel
theorem dX7_stand_31 : decode cX7_stand 31 = .ok (.aload_n 0, 1) := by decide +kernel
theorem dX7_stand_32 : decode cX7_stand 32 = .ok (.invokevirtual 124, 3) := by decide +kernel
theorem dX7_stand_35 : decode cX7_stand 35 = .ok (.ireturn, 1) := by decide +kernel
theorem dX7_stand_36 : decode cX7_stand 36 = .ok (.aload_n 0, 1) := by decide +kernel
theorem dX7_stand_37 : decode cX7_stand 37 = .ok (.getfield 35, 3) := by decide +kernel
theorem dX7_stand_40 : decode cX7_stand 40 = .ok (.aload_n 0, 1) := by decide +kernel
theorem dX7_stand_41 : decode cX7_stand 41 = .ok (.getfield 12, 3) := by decide +kernel
theorem dX7_stand_44 : decode cX7_stand 44 = .ok (.iload_n 1, 1) := by decide +kernel
theorem dX7_stand_45 : decode cX7_stand 45 = .ok (.iload_n 2, 1) := by decide +kernel
theorem dX7_stand_46 : decode cX7_stand 46 = .ok (.invokevirtual 189, 3) := by decide +kernel
theorem dX7_stand_49 : decode cX7_stand 49 = .ok (.ireturn, 1) := by decide +kernel
theorem dX7_told_0 : decode cX7_told 0 = .ok (.iload_n 1, 1) := by decide +kernel
theorem dX7_told_1 : decode cX7_told 1 = .ok (.invokestatic 63, 3) := by decide +kernel
theorem dX7_told_4 : decode cX7_told 4 = .ok (.ifCond .eq 20, 3) := by decide +kernel
theorem dX7_told_7 : decode cX7_told 7 = .ok (.iload_n 2, 1) := by decide +kernel
theorem dX7_told_8 : decode cX7_told 8 = .ok (.invokestatic 165, 3) := by decide +kernel
theorem dX7_told_11 : decode cX7_told 11 = .ok (.ifCond .eq 13, 3) := by decide +kernel
theorem dX7_told_14 : decode cX7_told 14 = .ok (.iload_n 3, 1) := by decide +kernel
theorem dX7_told_15 : decode cX7_told 15 = .ok (.iconst 0, 1) := by decide +kernel
theorem dX7_told_16 : decode cX7_told 16 = .ok (.bipush 99, 2) := by decide +kernel
theorem dX7_told_18 : decode cX7_told 18 = .ok (.invokestatic 66, 3) := by decide +kernel
theorem dX7_told_21 : decode cX7_told 21 = .ok (.ifCond .ne 8, 3) := by decide +kernel
theorem dX7_told_24 : decode cX7_told 24 = .ok (.aload_n 0, 1) := by decide +kernel
theorem dX7_told_25 : decode cX7_told 25 = .ok (.invokevirtual 70, 3) := by decide +kernel
theorem dX7_told_28 : decode cX7_told 28 = .ok (.ireturn, 1) := by decide +kernel
theorem dX7_told_29 : decode cX7_told 29 = .ok (.aload_n 0, 1) := by decide +kernel
theorem dX7_told_30 : decode cX7_told 30 = .ok (.getfield 12, 3) := by decide +kernel
theorem dX7_told_33 : decode cX7_told 33 = .ok (.getfield 192, 3) := by decide +kernel
theorem dX7_told_36 : decode cX7_told 36 = .ok (.invokevirtual 74, 3) := by decide +kernel
theorem dX7_told_39 : decode cX7_told 39 = .ok (.ifCond .eq 8, 3) := by decide +kernel
theorem dX7_told_42 : decode cX7_told 42 = .ok (.aload_n 0, 1) := by decide +kernel
theorem dX7_told_43 : decode cX7_told 43 = .ok (.invokevirtual 78, 3) := by decide +kernel
theorem dX7_told_46 : decode cX7_told 46 = .ok (.ireturn, 1) := by decide +kernel
theorem dX7_told_47 : decode cX7_told 47 = .ok (.aload_n 0, 1) := by decide +kernel
theorem dX7_told_48 : decode cX7_told 48 = .ok (.getfield 12, 3) := by decide +kernel
theorem dX7_told_51 : decode cX7_told 51 = .ok (.getfield 192, 3) := by decide +kernel
theorem dX7_told_54 : decode cX7_told 54 = .ok (.iload_n 1, 1) := by decide +kernel
theorem dX7_told_55 : decode cX7_told 55 = .ok (.iload_n 2, 1) := by decide +kernel
theorem dX7_told_56 : decode cX7_told 56 = .ok (.iload_n 3, 1) := by decide +kernel
theorem dX7_told_57 : decode cX7_told 57 = .ok (.iconst 0, 1) := by decide +kernel
theorem dX7_told_58 : decode cX7_told 58 = .ok (.invokevirtual 95, 3) := by decide +kernel
theorem dX7_told_61 : decode cX7_told 61 = .ok (.iconst 1, 1) := by decide +kernel
theorem dX7_told_62 : decode cX7_told 62 = .ok (.iadd, 1) := by decide +kernel
theorem dX7_told_63 : decode cX7_told 63 = .ok (.ireturn, 1) := by decide +kernel
theorem dX7_said_0 : decode cX7_said 0 = .ok (.iload_n 1, 1) := by decide +kernel
theorem dX7_said_1 : decode cX7_said 1 = .ok (.invokestatic 63, 3) := by decide +kernel
theorem dX7_said_4 : decode cX7_said 4 = .ok (.ifCond .eq 12, 3) := by decide +kernel
theorem dX7_said_7 : decode cX7_said 7 = .ok (.iload_n 2, 1) := by decide +kernel
theorem dX7_said_8 : decode cX7_said 8 = .ok (.iconst 0, 1) := by decide +kernel
theorem dX7_said_9 : decode cX7_said 9 = .ok (.iconst 2, 1) := by decide +kernel
theorem dX7_said_10 : decode cX7_said 10 = .ok (.invokestatic 66, 3) := by decide +kernel
theorem dX7_said_13 : decode cX7_said 13 = .ok (.ifCond .ne 8, 3) := by decide +kernel
theorem dX7_said_16 : decode cX7_said 16 = .ok (.aload_n 0, 1) := by decide +kernel
theorem dX7_said_17 : decode cX7_said 17 = .ok (.invokevirtual 70, 3) := by decide +kernel
theorem dX7_said_20 : decode cX7_said 20 = .ok (.ireturn, 1) := by decide +kernel
theorem dX7_said_21 : decode cX7_said 21 = .ok (.aload_n 0, 1) := by decide +kernel
theorem dX7_said_22 : decode cX7_said 22 = .ok (.getfield 12, 3) := by decide +kernel
theorem dX7_said_25 : decode cX7_said 25 = .ok (.iload_n 1, 1) := by decide +kernel
theorem dX7_said_26 : decode cX7_said 26 = .ok (.iload_n 2, 1) := by decide +kernel
theorem dX7_said_27 : decode cX7_said 27 = .ok (.invokestatic 195, 3) := by decide +kernel
theorem dX7_said_30 : decode cX7_said 30 = .ok (.ireturn, 1) := by decide +kernel
theorem dX7_note_0 : decode cX7_note 0 = .ok (.aload_n 0, 1) := by decide +kernel
theorem dX7_note_1 : decode cX7_note 1 = .ok (.iload_n 1, 1) := by decide +kernel
theorem dX7_note_2 : decode cX7_note 2 = .ok (.invokevirtual 156, 3) := by decide +kernel
theorem dX7_note_5 : decode cX7_note 5 = .ok (.ifCond .eq 24, 3) := by decide +kernel
theorem dX7_note_8 : decode cX7_note 8 = .ok (.iload_n 2, 1) := by decide +kernel
theorem dX7_note_9 : decode cX7_note 9 = .ok (.iconst 1, 1) := by decide +kernel
theorem dX7_note_10 : decode cX7_note 10 = .ok (.bipush 9, 2) := by decide +kernel
theorem dX7_note_12 : decode cX7_note 12 = .ok (.invokestatic 66, 3) := by decide +kernel
theorem dX7_note_15 : decode cX7_note 15 = .ok (.ifCond .eq 14, 3) := by decide +kernel
theorem dX7_note_18 : decode cX7_note 18 = .ok (.iload_n 3, 1) := by decide +kernel
theorem dX7_note_19 : decode cX7_note 19 = .ok (.invokestatic 165, 3) := by decide +kernel
theorem dX7_note_22 : decode cX7_note 22 = .ok (.ifCond .eq 7, 3) := by decide +kernel
theorem dX7_note_25 : decode cX7_note 25 = .ok (.iconst 1, 1) := by decide +kernel
theorem dX7_note_26 : decode cX7_note 26 = .ok (.goto 4, 3) := by decide +kernel
theorem dX7_note_29 : decode cX7_note 29 = .ok (.iconst 0, 1) := by decide +kernel
theorem dX7_note_30 : decode cX7_note 30 = .ok (.istore 5, 2) := by decide +kernel
theorem dX7_note_32 : decode cX7_note 32 = .ok (.iload 5, 2) := by decide +kernel
theorem dX7_note_34 : decode cX7_note 34 = .ok (.ifCond .eq 14, 3) := by decide +kernel
theorem dX7_note_37 : decode cX7_note 37 = .ok (.iload 4, 2) := by decide +kernel
theorem dX7_note_39 : decode cX7_note 39 = .ok (.iconst 0, 1) := by decide +kernel
theorem dX7_note_40 : decode cX7_note 40 = .ok (.bipush 20, 2) := by decide +kernel
theorem dX7_note_42 : decode cX7_note 42 = .ok (.invokestatic 66, 3) := by decide +kernel
theorem dX7_note_45 : decode cX7_note 45 = .ok (.ifCond .ne 8, 3) := by decide +kernel
theorem dX7_note_48 : decode cX7_note 48 = .ok (.aload_n 0, 1) := by decide +kernel
theorem dX7_note_49 : decode cX7_note 49 = .ok (.invokevirtual 70, 3) := by decide +kernel
theorem dX7_note_52 : decode cX7_note 52 = .ok (.ireturn, 1) := by decide +kernel
theorem dX7_note_53 : decode cX7_note 53 = .ok (.aload_n 0, 1) := by decide +kernel
theorem dX7_note_54 : decode cX7_note 54 = .ok (.getfield 12, 3) := by decide +kernel
theorem dX7_note_57 : decode cX7_note 57 = .ok (.getfield 200, 3) := by decide +kernel
theorem dX7_note_60 : decode cX7_note 60 = .ok (.invokevirtual 74, 3) := by decide +kernel
theorem dX7_note_63 : decode cX7_note 63 = .ok (.ifCond .eq 8, 3) := by decide +kernel
theorem dX7_note_66 : decode cX7_note 66 = .ok (.aload_n 0, 1) := by decide +kernel
theorem dX7_note_67 : decode cX7_note 67 = .ok (.invokevirtual 78, 3) := by decide +kernel
theorem dX7_note_70 : decode cX7_note 70 = .ok (.ireturn, 1) := by decide +kernel
theorem dX7_note_71 : decode cX7_note 71 = .ok (.aload_n 0, 1) := by decide +kernel
theorem dX7_note_72 : decode cX7_note 72 = .ok (.getfield 12, 3) := by decide +kernel
theorem dX7_note_75 : decode cX7_note 75 = .ok (.getfield 200, 3) := by decide +kernel
theorem dX7_note_78 : decode cX7_note 78 = .ok (.iload_n 1, 1) := by decide +kernel
theorem dX7_note_79 : decode cX7_note 79 = .ok (.iload_n 2, 1) := by decide +kernel
theorem dX7_note_80 : decode cX7_note 80 = .ok (.iload_n 3, 1) := by decide +kernel
theorem dX7_note_81 : decode cX7_note 81 = .ok (.iload 4, 2) := by decide +kernel
theorem dX7_note_83 : decode cX7_note 83 = .ok (.invokevirtual 95, 3) := by decide +kernel
theorem dX7_note_86 : decode cX7_note 86 = .ok (.iconst 1, 1) := by decide +kernel
theorem dX7_note_87 : decode cX7_note 87 = .ok (.iadd, 1) := by decide +kernel
theorem dX7_note_88 : decode cX7_note 88 = .ok (.ireturn, 1) := by decide +kernel
theorem dX7_mark_0 : decode cX7_mark 0 = .ok (.aload_n 0, 1) := by decide +kernel
theorem dX7_mark_1 : decode cX7_mark 1 = .ok (.iload_n 1, 1) := by decide +kernel
theorem dX7_mark_2 : decode cX7_mark 2 = .ok (.invokevirtual 130, 3) := by decide +kernel
theorem dX7_mark_5 : decode cX7_mark 5 = .ok (.ifCond .eq 27, 3) := by decide +kernel
theorem dX7_mark_8 : decode cX7_mark 8 = .ok (.iload_n 2, 1) := by decide +kernel
theorem dX7_mark_9 : decode cX7_mark 9 = .ok (.iconst 0, 1) := by decide +kernel
theorem dX7_mark_10 : decode cX7_mark 10 = .ok (.bipush 20, 2) := by decide +kernel
theorem dX7_mark_12 : decode cX7_mark 12 = .ok (.invokestatic 66, 3) := by decide +kernel
theorem dX7_mark_15 : decode cX7_mark 15 = .ok (.ifCond .eq 17, 3) := by decide +kernel
theorem dX7_mark_18 : decode cX7_mark 18 = .ok (.iload_n 3, 1) := by decide +kernel
theorem dX7_mark_19 : decode cX7_mark 19 = .ok (.iconst 0, 1) := by decide +kernel
theorem dX7_mark_20 : decode cX7_mark 20 = .ok (.bipush 99, 2) := by decide +kernel
theorem dX7_mark_22 : decode cX7_mark 22 = .ok (.invokestatic 66, 3) := by decide +kernel
theorem dX7_mark_25 : decode cX7_mark 25 = .ok (.ifCond .eq 7, 3) := by decide +kernel
theorem dX7_mark_28 : decode cX7_mark 28 = .ok (.iconst 1, 1) := by decide +kernel
theorem dX7_mark_29 : decode cX7_mark 29 = .ok (.goto 4, 3) := by decide +kernel
theorem dX7_mark_32 : decode cX7_mark 32 = .ok (.iconst 0, 1) := by decide +kernel
theorem dX7_mark_33 : decode cX7_mark 33 = .ok (.istore 5, 2) := by decide +kernel
theorem dX7_mark_35 : decode cX7_mark 35 = .ok (.iload 5, 2) := by decide +kernel
theorem dX7_mark_37 : decode cX7_mark 37 = .ok (.ifCond .eq 13, 3) := by decide +kernel
theorem dX7_mark_40 : decode cX7_mark 40 = .ok (.iload 4, 2) := by decide +kernel
theorem dX7_mark_42 : decode cX7_mark 42 = .ok (.iconst 0, 1) := by decide +kernel
theorem dX7_mark_43 : decode cX7_mark 43 = .ok (.iconst 1, 1) := by decide +kernel
theorem dX7_mark_44 : decode cX7_mark 44 = .ok (.invokestatic 66, 3) := by decide +kernel
theorem dX7_mark_47 : decode cX7_mark 47 = .ok (.ifCond .ne 8, 3) := by decide +kernel
theorem dX7_mark_50 : decode cX7_mark 50 = .ok (.aload_n 0, 1) := by decide +kernel
theorem dX7_mark_51 : decode cX7_mark 51 = .ok (.invokevirtual 70, 3) := by decide +kernel
theorem dX7_mark_54 : decode cX7_mark 54 = .ok (.ireturn, 1) := by decide +kernel
theorem dX7_mark_55 : decode cX7_mark 55 = .ok (.aload_n 0, 1) := by decide +kernel
theorem dX7_mark_56 : decode cX7_mark 56 = .ok (.getfield 12, 3) := by decide +kernel
theorem dX7_mark_59 : decode cX7_mark 59 = .ok (.getfield 203, 3) := by decide +kernel
theorem dX7_mark_62 : decode cX7_mark 62 = .ok (.invokevirtual 74, 3) := by decide +kernel
theorem dX7_mark_65 : decode cX7_mark 65 = .ok (.ifCond .eq 8, 3) := by decide +kernel
theorem dX7_mark_68 : decode cX7_mark 68 = .ok (.aload_n 0, 1) := by decide +kernel
theorem dX7_mark_69 : decode cX7_mark 69 = .ok (.invokevirtual 78, 3) := by decide +kernel
theorem dX7_mark_72 : decode cX7_mark 72 = .ok (.ireturn, 1) := by decide +kernel
theorem dX7_mark_73 : decode cX7_mark 73 = .ok (.aload_n 0, 1) := by decide +kernel
theorem dX7_mark_74 : decode cX7_mark 74 = .ok (.getfield 12, 3) := by decide +kernel
theorem dX7_mark_77 : decode cX7_mark 77 = .ok (.getfield 203, 3) := by decide +kernel
theorem dX7_mark_80 : decode cX7_mark 80 = .ok (.iload_n 1, 1) := by decide +kernel
theorem dX7_mark_81 : decode cX7_mark 81 = .ok (.iload_n 2, 1) := by decide +kernel
theorem dX7_mark_82 : decode cX7_mark 82 = .ok (.iload_n 3, 1) := by decide +kernel
theorem dX7_mark_83 : decode cX7_mark 83 = .ok (.iload 4, 2) := by decide +kernel
theorem dX7_mark_85 : decode cX7_mark 85 = .ok (.invokevirtual 95, 3) := by decide +kernel
theorem dX7_mark_88 : decode cX7_mark 88 = .ok (.iconst 1, 1) := by decide +kernel
theorem dX7_mark_89 : decode cX7_mark 89 = .ok (.iadd, 1) := by decide +kernel
theorem dX7_mark_90 : decode cX7_mark 90 = .ok (.ireturn, 1) := by decide +kernel
theorem dX7_forget_0 : decode cX7_forget 0 = .ok (.iload_n 1, 1) := by decide +kernel
theorem dX7_forget_1 : decode cX7_forget 1 = .ok (.tableswitch 60 0 2 #[27, 38, 49], 27) := by decide +kernel
theorem dX7_forget_28 : decode cX7_forget 28 = .ok (.aload_n 0, 1) := by decide +kernel
theorem dX7_forget_29 : decode cX7_forget 29 = .ok (.getfield 12, 3) := by decide +kernel
theorem dX7_forget_32 : decode cX7_forget 32 = .ok (.getfield 192, 3) := by decide +kernel
theorem dX7_forget_35 : decode cX7_forget 35 = .ok (.invokevirtual 99, 3) := by decide +kernel
theorem dX7_forget_38 : decode cX7_forget 38 = .ok (.ireturn, 1) := by decide +kernel
theorem dX7_forget_39 : decode cX7_forget 39 = .ok (.aload_n 0, 1) := by decide +kernel
theorem dX7_forget_40 : decode cX7_forget 40 = .ok (.getfield 12, 3) := by decide +kernel
theorem dX7_forget_43 : decode cX7_forget 43 = .ok (.getfield 200, 3) := by decide +kernel
theorem dX7_forget_46 : decode cX7_forget 46 = .ok (.invokevirtual 99, 3) := by decide +kernel
theorem dX7_forget_49 : decode cX7_forget 49 = .ok (.ireturn, 1) := by decide +kernel
theorem dX7_forget_50 : decode cX7_forget 50 = .ok (.aload_n 0, 1) := by decide +kernel
theorem dX7_forget_51 : decode cX7_forget 51 = .ok (.getfield 12, 3) := by decide +kernel
theorem dX7_forget_54 : decode cX7_forget 54 = .ok (.getfield 203, 3) := by decide +kernel
theorem dX7_forget_57 : decode cX7_forget 57 = .ok (.invokevirtual 99, 3) := by decide +kernel
theorem dX7_forget_60 : decode cX7_forget 60 = .ok (.ireturn, 1) := by decide +kernel
theorem dX7_forget_61 : decode cX7_forget 61 = .ok (.aload_n 0, 1) := by decide +kernel
theorem dX7_forget_62 : decode cX7_forget 62 = .ok (.invokevirtual 70, 3) := by decide +kernel
theorem dX7_forget_65 : decode cX7_forget 65 = .ok (.ireturn, 1) := by decide +kernel
theorem dX7_is_0 : decode cX7_is 0 = .ok (.aload_n 0, 1) := by decide +kernel
theorem dX7_is_1 : decode cX7_is 1 = .ok (.iload_n 1, 1) := by decide +kernel
theorem dX7_is_2 : decode cX7_is 2 = .ok (.invokevirtual 156, 3) := by decide +kernel
theorem dX7_is_5 : decode cX7_is 5 = .ok (.ifCond .ne 8, 3) := by decide +kernel
theorem dX7_is_8 : decode cX7_is 8 = .ok (.aload_n 0, 1) := by decide +kernel
theorem dX7_is_9 : decode cX7_is 9 = .ok (.invokevirtual 70, 3) := by decide +kernel
theorem dX7_is_12 : decode cX7_is 12 = .ok (.ireturn, 1) := by decide +kernel
theorem dX7_is_13 : decode cX7_is 13 = .ok (.aload_n 0, 1) := by decide +kernel
theorem dX7_is_14 : decode cX7_is 14 = .ok (.getfield 12, 3) := by decide +kernel
theorem dX7_is_17 : decode cX7_is 17 = .ok (.iload_n 1, 1) := by decide +kernel
theorem dX7_is_18 : decode cX7_is 18 = .ok (.invokestatic 206, 3) := by decide +kernel
theorem dX7_is_21 : decode cX7_is 21 = .ok (.ireturn, 1) := by decide +kernel
theorem dX7_look_0 : decode cX7_look 0 = .ok (.aload_n 0, 1) := by decide +kernel
theorem dX7_look_1 : decode cX7_look 1 = .ok (.iload_n 1, 1) := by decide +kernel
theorem dX7_look_2 : decode cX7_look 2 = .ok (.invokevirtual 156, 3) := by decide +kernel
theorem dX7_look_5 : decode cX7_look 5 = .ok (.ifCond .ne 8, 3) := by decide +kernel
theorem dX7_look_8 : decode cX7_look 8 = .ok (.aload_n 0, 1) := by decide +kernel
theorem dX7_look_9 : decode cX7_look 9 = .ok (.invokevirtual 70, 3) := by decide +kernel
theorem dX7_look_12 : decode cX7_look 12 = .ok (.ireturn, 1) := by decide +kernel
theorem dX7_look_13 : decode cX7_look 13 = .ok (.aload_n 0, 1) := by decide +kernel
theorem dX7_look_14 : decode cX7_look 14 = .ok (.getfield 12, 3) := by decide +kernel
theorem dX7_look_17 : decode cX7_look 17 = .ok (.iload_n 1, 1) := by decide +kernel
theorem dX7_look_18 : decode cX7_look 18 = .ok (.invokestatic 210, 3) := by decide +kernel
theorem dX7_look_21 : decode cX7_look 21 = .ok (.ireturn, 1) := by decide +kernel
theorem dX7_kinds_0 : decode cX7_kinds 0 = .ok (.aload_n 0, 1) := by decide +kernel
theorem dX7_kinds_1 : decode cX7_kinds 1 = .ok (.iload_n 1, 1) := by decide +kernel
theorem dX7_kinds_2 : decode cX7_kinds 2 = .ok (.invokevirtual 130, 3) := by decide +kernel
theorem dX7_kinds_5 : decode cX7_kinds 5 = .ok (.ifCond .ne 8, 3) := by decide +kernel
theorem dX7_kinds_8 : decode cX7_kinds 8 = .ok (.aload_n 0, 1) := by decide +kernel
theorem dX7_kinds_9 : decode cX7_kinds 9 = .ok (.invokevirtual 70, 3) := by decide +kernel
theorem dX7_kinds_12 : decode cX7_kinds 12 = .ok (.ireturn, 1) := by decide +kernel
theorem dX7_kinds_13 : decode cX7_kinds 13 = .ok (.aload_n 0, 1) := by decide +kernel
theorem dX7_kinds_14 : decode cX7_kinds 14 = .ok (.getfield 12, 3) := by decide +kernel
theorem dX7_kinds_17 : decode cX7_kinds 17 = .ok (.iload_n 1, 1) := by decide +kernel
theorem dX7_kinds_18 : decode cX7_kinds 18 = .ok (.invokestatic 213, 3) := by decide +kernel
theorem dX7_kinds_21 : decode cX7_kinds 21 = .ok (.ireturn, 1) := by decide +kernel
theorem dX7_ask_0 : decode cX7_ask 0 = .ok (.aload_n 0, 1) := by decide +kernel
theorem dX7_ask_1 : decode cX7_ask 1 = .ok (.iload_n 1, 1) := by decide +kernel
theorem dX7_ask_2 : decode cX7_ask 2 = .ok (.invokevirtual 130, 3) := by decide +kernel
theorem dX7_ask_5 : decode cX7_ask 5 = .ok (.ifCond .ne 8, 3) := by decide +kernel
theorem dX7_ask_8 : decode cX7_ask 8 = .ok (.aload_n 0, 1) := by decide +kernel
theorem dX7_ask_9 : decode cX7_ask 9 = .ok (.invokevirtual 70, 3) := by decide +kernel
theorem dX7_ask_12 : decode cX7_ask 12 = .ok (.ireturn, 1) := by decide +kernel
theorem dX7_ask_13 : decode cX7_ask 13 = .ok (.aload_n 0, 1) := by decide +kernel
theorem dX7_ask_14 : decode cX7_ask 14 = .ok (.getfield 12, 3) := by decide +kernel
theorem dX7_ask_17 : decode cX7_ask 17 = .ok (.iload_n 1, 1) := by decide +kernel
theorem dX7_ask_18 : decode cX7_ask 18 = .ok (.invokestatic 216, 3) := by decide +kernel
theorem dX7_ask_21 : decode cX7_ask 21 = .ok (.ireturn, 1) := by decide +kernel
theorem dX7_brothers_0 : decode cX7_brothers 0 = .ok (.iload_n 1, 1) := by decide +kernel
theorem dX7_brothers_1 : decode cX7_brothers 1 = .ok (.iconst (-1), 1) := by decide +kernel
theorem dX7_brothers_2 : decode cX7_brothers 2 = .ok (.if_icmp .ge 11, 3) := by decide +kernel
theorem dX7_brothers_5 : decode cX7_brothers 5 = .ok (.aload_n 0, 1) := by decide +kernel
theorem dX7_brothers_6 : decode cX7_brothers 6 = .ok (.invokevirtual 70, 3) := by decide +kernel
theorem dX7_brothers_9 : decode cX7_brothers 9 = .ok (.pop, 1) := by decide +kernel
theorem dX7_brothers_10 : decode cX7_brothers 10 = .ok (.bipush (-10), 2) := by decide +kernel
theorem dX7_brothers_12 : decode cX7_brothers 12 = .ok (.ireturn, 1) := by decide +kernel
theorem dX7_brothers_13 : decode cX7_brothers 13 = .ok (.aload_n 0, 1) := by decide +kernel
theorem dX7_brothers_14 : decode cX7_brothers 14 = .ok (.invokevirtual 186, 3) := by decide +kernel
theorem dX7_brothers_17 : decode cX7_brothers 17 = .ok (.ifCond .ne 8, 3) := by decide +kernel
theorem dX7_brothers_20 : decode cX7_brothers 20 = .ok (.aload_n 0, 1) := by decide +kernel
theorem dX7_brothers_21 : decode cX7_brothers 21 = .ok (.invokevirtual 124, 3) := by decide +kernel
theorem dX7_brothers_24 : decode cX7_brothers 24 = .ok (.ireturn, 1) := by decide +kernel
theorem dX7_brothers_25 : decode cX7_brothers 25 = .ok (.aload_n 0, 1) := by decide +kernel
theorem dX7_brothers_26 : decode cX7_brothers 26 = .ok (.getfield 35, 3) := by decide +kernel
theorem dX7_brothers_29 : decode cX7_brothers 29 = .ok (.aload_n 0, 1) := by decide +kernel
theorem dX7_brothers_30 : decode cX7_brothers 30 = .ok (.getfield 12, 3) := by decide +kernel
theorem dX7_brothers_33 : decode cX7_brothers 33 = .ok (.iload_n 1, 1) := by decide +kernel
theorem dX7_brothers_34 : decode cX7_brothers 34 = .ok (.invokevirtual 219, 3) := by decide +kernel
theorem dX7_brothers_37 : decode cX7_brothers 37 = .ok (.ireturn, 1) := by decide +kernel
theorem dX7_holds_0 : decode cX7_holds 0 = .ok (.aload_n 0, 1) := by decide +kernel
theorem dX7_holds_1 : decode cX7_holds 1 = .ok (.iload_n 1, 1) := by decide +kernel
theorem dX7_holds_2 : decode cX7_holds 2 = .ok (.invokevirtual 130, 3) := by decide +kernel
theorem dX7_holds_5 : decode cX7_holds 5 = .ok (.ifCond .eq 21, 3) := by decide +kernel
theorem dX7_holds_8 : decode cX7_holds 8 = .ok (.aload_n 0, 1) := by decide +kernel
theorem dX7_holds_9 : decode cX7_holds 9 = .ok (.iload_n 2, 1) := by decide +kernel
theorem dX7_holds_10 : decode cX7_holds 10 = .ok (.invokevirtual 156, 3) := by decide +kernel
theorem dX7_holds_13 : decode cX7_holds 13 = .ok (.ifCond .eq 13, 3) := by decide +kernel
theorem dX7_holds_16 : decode cX7_holds 16 = .ok (.iload_n 3, 1) := by decide +kernel
theorem dX7_holds_17 : decode cX7_holds 17 = .ok (.iconst 0, 1) := by decide +kernel
theorem dX7_holds_18 : decode cX7_holds 18 = .ok (.bipush 10, 2) := by decide +kernel
theorem dX7_holds_20 : decode cX7_holds 20 = .ok (.invokestatic 66, 3) := by decide +kernel
theorem dX7_holds_23 : decode cX7_holds 23 = .ok (.ifCond .ne 8, 3) := by decide +kernel
theorem dX7_holds_26 : decode cX7_holds 26 = .ok (.aload_n 0, 1) := by decide +kernel
theorem dX7_holds_27 : decode cX7_holds 27 = .ok (.invokevirtual 70, 3) := by decide +kernel
theorem dX7_holds_30 : decode cX7_holds 30 = .ok (.ireturn, 1) := by decide +kernel
theorem dX7_holds_31 : decode cX7_holds 31 = .ok (.aload_n 0, 1) := by decide +kernel
theorem dX7_holds_32 : decode cX7_holds 32 = .ok (.getfield 42, 3) := by decide +kernel
theorem dX7_holds_35 : decode cX7_holds 35 = .ok (.aload_n 0, 1) := by decide +kernel
theorem dX7_holds_36 : decode cX7_holds 36 = .ok (.getfield 12, 3) := by decide +kernel
theorem dX7_holds_39 : decode cX7_holds 39 = .ok (.iload_n 1, 1) := by decide +kernel
theorem dX7_holds_40 : decode cX7_holds 40 = .ok (.iload_n 2, 1) := by decide +kernel
theorem dX7_holds_41 : decode cX7_holds 41 = .ok (.iload_n 3, 1) := by decide +kernel
theorem dX7_holds_42 : decode cX7_holds 42 = .ok (.invokevirtual 222, 3) := by decide +kernel
theorem dX7_holds_45 : decode cX7_holds 45 = .ok (.iconst 1, 1) := by decide +kernel
theorem dX7_holds_46 : decode cX7_holds 46 = .ok (.ireturn, 1) := by decide +kernel
theorem dX7_jobs_0 : decode cX7_jobs 0 = .ok (.iload_n 1, 1) := by decide +kernel
theorem dX7_jobs_1 : decode cX7_jobs 1 = .ok (.iconst 0, 1) := by decide +kernel
theorem dX7_jobs_2 : decode cX7_jobs 2 = .ok (.ldc 226, 2) := by decide +kernel
theorem dX7_jobs_4 : decode cX7_jobs 4 = .ok (.invokestatic 66, 3) := by decide +kernel
theorem dX7_jobs_7 : decode cX7_jobs 7 = .ok (.ifCond .eq 13, 3) := by decide +kernel
theorem dX7_jobs_10 : decode cX7_jobs 10 = .ok (.iload_n 2, 1) := by decide +kernel
theorem dX7_jobs_11 : decode cX7_jobs 11 = .ok (.iconst 0, 1) := by decide +kernel
theorem dX7_jobs_12 : decode cX7_jobs 12 = .ok (.bipush 60, 2) := by decide +kernel
theorem dX7_jobs_14 : decode cX7_jobs 14 = .ok (.invokestatic 66, 3) := by decide +kernel
theorem dX7_jobs_17 : decode cX7_jobs 17 = .ok (.ifCond .ne 8, 3) := by decide +kernel
theorem dX7_jobs_20 : decode cX7_jobs 20 = .ok (.aload_n 0, 1) := by decide +kernel
theorem dX7_jobs_21 : decode cX7_jobs 21 = .ok (.invokevirtual 70, 3) := by decide +kernel
theorem dX7_jobs_24 : decode cX7_jobs 24 = .ok (.ireturn, 1) := by decide +kernel
theorem dX7_jobs_25 : decode cX7_jobs 25 = .ok (.aload_n 0, 1) := by decide +kernel
theorem dX7_jobs_26 : decode cX7_jobs 26 = .ok (.getfield 16, 3) := by decide +kernel
theorem dX7_jobs_29 : decode cX7_jobs 29 = .ok (.aload_n 0, 1) := by decide +kernel
theorem dX7_jobs_30 : decode cX7_jobs 30 = .ok (.getfield 12, 3) := by decide +kernel
theorem dX7_jobs_33 : decode cX7_jobs 33 = .ok (.invokevirtual 106, 3) := by decide +kernel
theorem dX7_jobs_36 : decode cX7_jobs 36 = .ok (.aload_n 0, 1) := by decide +kernel
theorem dX7_jobs_37 : decode cX7_jobs 37 = .ok (.getfield 16, 3) := by decide +kernel
theorem dX7_jobs_40 : decode cX7_jobs 40 = .ok (.iload_n 1, 1) := by decide +kernel
theorem dX7_jobs_41 : decode cX7_jobs 41 = .ok (.iload_n 2, 1) := by decide +kernel
theorem dX7_jobs_42 : decode cX7_jobs 42 = .ok (.invokestatic 227, 3) := by decide +kernel
theorem dX7_jobs_45 : decode cX7_jobs 45 = .ok (.aload_n 0, 1) := by decide +kernel
theorem dX7_jobs_46 : decode cX7_jobs 46 = .ok (.getfield 16, 3) := by decide +kernel
theorem dX7_jobs_49 : decode cX7_jobs 49 = .ok (.invokevirtual 144, 3) := by decide +kernel
theorem dX7_jobs_52 : decode cX7_jobs 52 = .ok (.ireturn, 1) := by decide +kernel
theorem dX7_part_0 : decode cX7_part 0 = .ok (.iload_n 1, 1) := by decide +kernel
theorem dX7_part_1 : decode cX7_part 1 = .ok (.iconst 0, 1) := by decide +kernel
theorem dX7_part_2 : decode cX7_part 2 = .ok (.iconst 1, 1) := by decide +kernel
theorem dX7_part_3 : decode cX7_part 3 = .ok (.invokestatic 66, 3) := by decide +kernel
theorem dX7_part_6 : decode cX7_part 6 = .ok (.ifCond .ne 9, 3) := by decide +kernel
theorem dX7_part_9 : decode cX7_part 9 = .ok (.aload_n 0, 1) := by decide +kernel
theorem dX7_part_10 : decode cX7_part 10 = .ok (.invokevirtual 70, 3) := by decide +kernel
theorem dX7_part_13 : decode cX7_part 13 = .ok (.i2l, 1) := by decide +kernel
theorem dX7_part_14 : decode cX7_part 14 = .ok (.lreturn, 1) := by decide +kernel
theorem dX7_part_15 : decode cX7_part 15 = .ok (.iload_n 1, 1) := by decide +kernel
theorem dX7_part_16 : decode cX7_part 16 = .ok (.ifCond .ne 13, 3) := by decide +kernel
theorem dX7_part_19 : decode cX7_part 19 = .ok (.aload_n 0, 1) := by decide +kernel
theorem dX7_part_20 : decode cX7_part 20 = .ok (.getfield 42, 3) := by decide +kernel
theorem dX7_part_23 : decode cX7_part 23 = .ok (.getfield 231, 3) := by decide +kernel
theorem dX7_part_26 : decode cX7_part 26 = .ok (.goto 10, 3) := by decide +kernel
theorem dX7_part_29 : decode cX7_part 29 = .ok (.aload_n 0, 1) := by decide +kernel
theorem dX7_part_30 : decode cX7_part 30 = .ok (.getfield 42, 3) := by decide +kernel
theorem dX7_part_33 : decode cX7_part 33 = .ok (.getfield 235, 3) := by decide +kernel
theorem dX7_part_36 : decode cX7_part 36 = .ok (.lreturn, 1) := by decide +kernel
theorem dX7_image_0 : decode cX7_image 0 = .ok (.iload_n 1, 1) := by decide +kernel
theorem dX7_image_1 : decode cX7_image 1 = .ok (.lookupswitch 63 #[(0, 27), (1, 45)], 27) := by decide +kernel
theorem dX7_image_28 : decode cX7_image 28 = .ok (.aload_n 0, 1) := by decide +kernel
theorem dX7_image_29 : decode cX7_image 29 = .ok (.getfield 19, 3) := by decide +kernel
theorem dX7_image_32 : decode cX7_image 32 = .ok (.aload_n 0, 1) := by decide +kernel
theorem dX7_image_33 : decode cX7_image 33 = .ok (.getfield 12, 3) := by decide +kernel
theorem dX7_image_36 : decode cX7_image 36 = .ok (.invokevirtual 106, 3) := by decide +kernel
theorem dX7_image_39 : decode cX7_image 39 = .ok (.aload_n 0, 1) := by decide +kernel
theorem dX7_image_40 : decode cX7_image 40 = .ok (.iconst 1, 1) := by decide +kernel
theorem dX7_image_41 : decode cX7_image 41 = .ok (.putfield 238, 3) := by decide +kernel
theorem dX7_image_44 : decode cX7_image 44 = .ok (.iconst 1, 1) := by decide +kernel
theorem dX7_image_45 : decode cX7_image 45 = .ok (.ireturn, 1) := by decide +kernel
theorem dX7_image_46 : decode cX7_image 46 = .ok (.aload_n 0, 1) := by decide +kernel
theorem dX7_image_47 : decode cX7_image 47 = .ok (.getfield 22, 3) := by decide +kernel
theorem dX7_image_50 : decode cX7_image 50 = .ok (.aload_n 0, 1) := by decide +kernel
theorem dX7_image_51 : decode cX7_image 51 = .ok (.getfield 12, 3) := by decide +kernel
theorem dX7_image_54 : decode cX7_image 54 = .ok (.invokevirtual 106, 3) := by decide +kernel
theorem dX7_image_57 : decode cX7_image 57 = .ok (.aload_n 0, 1) := by decide +kernel
theorem dX7_image_58 : decode cX7_image 58 = .ok (.iconst 1, 1) := by decide +kernel
theorem dX7_image_59 : decode cX7_image 59 = .ok (.putfield 242, 3) := by decide +kernel
theorem dX7_image_62 : decode cX7_image 62 = .ok (.iconst 1, 1) := by decide +kernel
theorem dX7_image_63 : decode cX7_image 63 = .ok (.ireturn, 1) := by decide +kernel
theorem dX7_image_64 : decode cX7_image 64 = .ok (.aload_n 0, 1) := by decide +kernel
theorem dX7_image_65 : decode cX7_image 65 = .ok (.invokevirtual 70, 3) := by decide +kernel
theorem dX7_image_68 : decode cX7_image 68 = .ok (.ireturn, 1) := by decide +kernel
theorem dX7_from_0 : decode cX7_from 0 = .ok (.iload_n 1, 1) := by decide +kernel
theorem dX7_from_1 : decode cX7_from 1 = .ok (.iconst 0, 1) := by decide +kernel
theorem dX7_from_2 : decode cX7_from 2 = .ok (.iconst 1, 1) := by decide +kernel
theorem dX7_from_3 : decode cX7_from 3 = .ok (.invokestatic 66, 3) := by decide +kernel
theorem dX7_from_6 : decode cX7_from 6 = .ok (.ifCond .ne 8, 3) := by decide +kernel
theorem dX7_from_9 : decode cX7_from 9 = .ok (.aload_n 0, 1) := by decide +kernel
theorem dX7_from_10 : decode cX7_from 10 = .ok (.invokevirtual 70, 3) := by decide +kernel
theorem dX7_from_13 : decode cX7_from 13 = .ok (.ireturn, 1) := by decide +kernel
theorem dX7_from_14 : decode cX7_from 14 = .ok (.iload_n 1, 1) := by decide +kernel
theorem dX7_from_15 : decode cX7_from 15 = .ok (.ifCond .ne 10, 3) := by decide +kernel
theorem dX7_from_18 : decode cX7_from 18 = .ok (.aload_n 0, 1) := by decide +kernel
theorem dX7_from_19 : decode cX7_from 19 = .ok (.getfield 238, 3) := by decide +kernel
theorem dX7_from_22 : decode cX7_from 22 = .ok (.goto 7, 3) := by decide +kernel
theorem dX7_from_25 : decode cX7_from 25 = .ok (.aload_n 0, 1) := by decide +kernel
theorem dX7_from_26 : decode cX7_from 26 = .ok (.getfield 242, 3) := by decide +kernel
theorem dX7_from_29 : decode cX7_from 29 = .ok (.istore_n 2, 1) := by decide +kernel
theorem dX7_from_30 : decode cX7_from 30 = .ok (.iload_n 2, 1) := by decide +kernel
theorem dX7_from_31 : decode cX7_from 31 = .ok (.ifCond .ne 8, 3) := by decide +kernel
theorem dX7_from_34 : decode cX7_from 34 = .ok (.aload_n 0, 1) := by decide +kernel
theorem dX7_from_35 : decode cX7_from 35 = .ok (.invokevirtual 124, 3) := by decide +kernel
theorem dX7_from_38 : decode cX7_from 38 = .ok (.ireturn, 1) := by decide +kernel
theorem dX7_from_39 : decode cX7_from 39 = .ok (.aload_n 0, 1) := by decide +kernel
theorem dX7_from_40 : decode cX7_from 40 = .ok (.getfield 12, 3) := by decide +kernel
theorem dX7_from_43 : decode cX7_from 43 = .ok (.iload_n 1, 1) := by decide +kernel
theorem dX7_from_44 : decode cX7_from 44 = .ok (.ifCond .ne 10, 3) := by decide +kernel
theorem dX7_from_47 : decode cX7_from 47 = .ok (.aload_n 0, 1) := by decide +kernel
theorem dX7_from_48 : decode cX7_from 48 = .ok (.getfield 19, 3) := by decide +kernel
theorem dX7_from_51 : decode cX7_from 51 = .ok (.goto 7, 3) := by decide +kernel
theorem dX7_from_54 : decode cX7_from 54 = .ok (.aload_n 0, 1) := by decide +kernel
theorem dX7_from_55 : decode cX7_from 55 = .ok (.getfield 22, 3) := by decide +kernel
theorem dX7_from_58 : decode cX7_from 58 = .ok (.invokevirtual 106, 3) := by decide +kernel
theorem dX7_from_61 : decode cX7_from 61 = .ok (.iconst 1, 1) := by decide +kernel
theorem dX7_from_62 : decode cX7_from 62 = .ok (.ireturn, 1) := by decide +kernel
theorem dX7_status_0 : decode cX7_status 0 = .ok (.iload_n 1, 1) := by decide +kernel
theorem dX7_status_1 : decode cX7_status 1 = .ok (.tableswitch 42 0 2 #[27, 32, 37], 27) := by decide +kernel
theorem dX7_status_28 : decode cX7_status 28 = .ok (.aload_n 0, 1) := by decide +kernel
theorem dX7_status_29 : decode cX7_status 29 = .ok (.getfield 245, 3) := by decide +kernel
theorem dX7_status_32 : decode cX7_status 32 = .ok (.ireturn, 1) := by decide +kernel
theorem dX7_status_33 : decode cX7_status 33 = .ok (.aload_n 0, 1) := by decide +kernel
theorem dX7_status_34 : decode cX7_status 34 = .ok (.getfield 248, 3) := by decide +kernel
theorem dX7_status_37 : decode cX7_status 37 = .ok (.ireturn, 1) := by decide +kernel
theorem dX7_status_38 : decode cX7_status 38 = .ok (.aload_n 0, 1) := by decide +kernel
theorem dX7_status_39 : decode cX7_status 39 = .ok (.getfield 251, 3) := by decide +kernel
theorem dX7_status_42 : decode cX7_status 42 = .ok (.ireturn, 1) := by decide +kernel
theorem dX7_status_43 : decode cX7_status 43 = .ok (.aload_n 0, 1) := by decide +kernel
theorem dX7_status_44 : decode cX7_status 44 = .ok (.invokevirtual 70, 3) := by decide +kernel
theorem dX7_status_47 : decode cX7_status 47 = .ok (.pop, 1) := by decide +kernel
theorem dX7_status_48 : decode cX7_status 48 = .ok (.iconst (-1), 1) := by decide +kernel
theorem dX7_status_49 : decode cX7_status 49 = .ok (.ireturn, 1) := by decide +kernel
theorem dX7_count_0 : decode cX7_count 0 = .ok (.iload_n 1, 1) := by decide +kernel
theorem dX7_count_1 : decode cX7_count 1 = .ok (.iconst 0, 1) := by decide +kernel
theorem dX7_count_2 : decode cX7_count 2 = .ok (.bipush 9, 2) := by decide +kernel
theorem dX7_count_4 : decode cX7_count 4 = .ok (.invokestatic 66, 3) := by decide +kernel
theorem dX7_count_7 : decode cX7_count 7 = .ok (.ifCond .ne 8, 3) := by decide +kernel
theorem dX7_count_10 : decode cX7_count 10 = .ok (.aload_n 0, 1) := by decide +kernel
theorem dX7_count_11 : decode cX7_count 11 = .ok (.invokevirtual 70, 3) := by decide +kernel
theorem dX7_count_14 : decode cX7_count 14 = .ok (.ireturn, 1) := by decide +kernel
theorem dX7_count_15 : decode cX7_count 15 = .ok (.aload_n 0, 1) := by decide +kernel
theorem dX7_count_16 : decode cX7_count 16 = .ok (.iload_n 1, 1) := by decide +kernel
theorem dX7_count_17 : decode cX7_count 17 = .ok (.invokevirtual 254, 3) := by decide +kernel
theorem dX7_count_20 : decode cX7_count 20 = .ok (.ireturn, 1) := by decide +kernel
theorem dX7_digest_0 : decode cX7_digest 0 = .ok (.ldc2_w 257, 3) := by decide +kernel
theorem dX7_digest_3 : decode cX7_digest 3 = .ok (.lstore_n 1, 1) := by decide +kernel
theorem dX7_digest_4 : decode cX7_digest 4 = .ok (.iconst 0, 1) := by decide +kernel
theorem dX7_digest_5 : decode cX7_digest 5 = .ok (.istore_n 3, 1) := by decide +kernel
theorem dX7_digest_6 : decode cX7_digest 6 = .ok (.iload_n 3, 1) := by decide +kernel
theorem dX7_digest_7 : decode cX7_digest 7 = .ok (.bipush 10, 2) := by decide +kernel
theorem dX7_digest_9 : decode cX7_digest 9 = .ok (.if_icmp .ge 22, 3) := by decide +kernel
theorem dX7_digest_12 : decode cX7_digest 12 = .ok (.ldc2_w 259, 3) := by decide +kernel
theorem dX7_digest_15 : decode cX7_digest 15 = .ok (.lload_n 1, 1) := by decide +kernel
theorem dX7_digest_16 : decode cX7_digest 16 = .ok (.lmul, 1) := by decide +kernel
theorem dX7_digest_17 : decode cX7_digest 17 = .ok (.aload_n 0, 1) := by decide +kernel
theorem dX7_digest_18 : decode cX7_digest 18 = .ok (.iload_n 3, 1) := by decide +kernel
theorem dX7_digest_19 : decode cX7_digest 19 = .ok (.invokevirtual 254, 3) := by decide +kernel
theorem dX7_digest_22 : decode cX7_digest 22 = .ok (.i2l, 1) := by decide +kernel
theorem dX7_digest_23 : decode cX7_digest 23 = .ok (.ladd, 1) := by decide +kernel
theorem dX7_digest_24 : decode cX7_digest 24 = .ok (.lstore_n 1, 1) := by decide +kernel
theorem dX7_digest_25 : decode cX7_digest 25 = .ok (.iinc 3 1, 3) := by decide +kernel
theorem dX7_digest_28 : decode cX7_digest 28 = .ok (.goto (-22), 3) := by decide +kernel
theorem dX7_digest_31 : decode cX7_digest 31 = .ok (.iconst 0, 1) := by decide +kernel
theorem dX7_digest_32 : decode cX7_digest 32 = .ok (.istore_n 3, 1) := by decide +kernel
theorem dX7_digest_33 : decode cX7_digest 33 = .ok (.iload_n 3, 1) := by decide +kernel
theorem dX7_digest_34 : decode cX7_digest 34 = .ok (.iconst 4, 1) := by decide +kernel
theorem dX7_digest_35 : decode cX7_digest 35 = .ok (.if_icmp .ge 26, 3) := by decide +kernel
theorem dX7_digest_38 : decode cX7_digest 38 = .ok (.ldc2_w 259, 3) := by decide +kernel
theorem dX7_digest_41 : decode cX7_digest 41 = .ok (.lload_n 1, 1) := by decide +kernel
theorem dX7_digest_42 : decode cX7_digest 42 = .ok (.lmul, 1) := by decide +kernel
theorem dX7_digest_43 : decode cX7_digest 43 = .ok (.aload_n 0, 1) := by decide +kernel
theorem dX7_digest_44 : decode cX7_digest 44 = .ok (.getfield 12, 3) := by decide +kernel
theorem dX7_digest_47 : decode cX7_digest 47 = .ok (.iload_n 3, 1) := by decide +kernel
theorem dX7_digest_48 : decode cX7_digest 48 = .ok (.iconst 0, 1) := by decide +kernel
theorem dX7_digest_49 : decode cX7_digest 49 = .ok (.invokevirtual 162, 3) := by decide +kernel
theorem dX7_digest_52 : decode cX7_digest 52 = .ok (.i2l, 1) := by decide +kernel
theorem dX7_digest_53 : decode cX7_digest 53 = .ok (.ladd, 1) := by decide +kernel
theorem dX7_digest_54 : decode cX7_digest 54 = .ok (.lstore_n 1, 1) := by decide +kernel
theorem dX7_digest_55 : decode cX7_digest 55 = .ok (.iinc 3 1, 3) := by decide +kernel
theorem dX7_digest_58 : decode cX7_digest 58 = .ok (.goto (-25), 3) := by decide +kernel
theorem dX7_digest_61 : decode cX7_digest 61 = .ok (.aload_n 0, 1) := by decide +kernel
theorem dX7_digest_62 : decode cX7_digest 62 = .ok (.getfield 12, 3) := by decide +kernel
theorem dX7_digest_65 : decode cX7_digest 65 = .ok (.getfield 46, 3) := by decide +kernel
theorem dX7_digest_68 : decode cX7_digest 68 = .ok (.lload_n 1, 1) := by decide +kernel
theorem dX7_digest_69 : decode cX7_digest 69 = .ok (.invokevirtual 261, 3) := by decide +kernel
theorem dX7_digest_72 : decode cX7_digest 72 = .ok (.lstore_n 1, 1) := by decide +kernel
theorem dX7_digest_73 : decode cX7_digest 73 = .ok (.aload_n 0, 1) := by decide +kernel
theorem dX7_digest_74 : decode cX7_digest 74 = .ok (.getfield 12, 3) := by decide +kernel
theorem dX7_digest_77 : decode cX7_digest 77 = .ok (.getfield 85, 3) := by decide +kernel
theorem dX7_digest_80 : decode cX7_digest 80 = .ok (.lload_n 1, 1) := by decide +kernel
theorem dX7_digest_81 : decode cX7_digest 81 = .ok (.invokevirtual 261, 3) := by decide +kernel
theorem dX7_digest_84 : decode cX7_digest 84 = .ok (.lstore_n 1, 1) := by decide +kernel
theorem dX7_digest_85 : decode cX7_digest 85 = .ok (.aload_n 0, 1) := by decide +kernel
theorem dX7_digest_86 : decode cX7_digest 86 = .ok (.getfield 12, 3) := by decide +kernel
theorem dX7_digest_89 : decode cX7_digest 89 = .ok (.getfield 192, 3) := by decide +kernel
theorem dX7_digest_92 : decode cX7_digest 92 = .ok (.lload_n 1, 1) := by decide +kernel
theorem dX7_digest_93 : decode cX7_digest 93 = .ok (.invokevirtual 261, 3) := by decide +kernel
theorem dX7_digest_96 : decode cX7_digest 96 = .ok (.lstore_n 1, 1) := by decide +kernel
theorem dX7_digest_97 : decode cX7_digest 97 = .ok (.aload_n 0, 1) := by decide +kernel
theorem dX7_digest_98 : decode cX7_digest 98 = .ok (.getfield 12, 3) := by decide +kernel
theorem dX7_digest_101 : decode cX7_digest 101 = .ok (.getfield 200, 3) := by decide +kernel
theorem dX7_digest_104 : decode cX7_digest 104 = .ok (.lload_n 1, 1) := by decide +kernel
theorem dX7_digest_105 : decode cX7_digest 105 = .ok (.invokevirtual 261, 3) := by decide +kernel
theorem dX7_digest_108 : decode cX7_digest 108 = .ok (.lstore_n 1, 1) := by decide +kernel
theorem dX7_digest_109 : decode cX7_digest 109 = .ok (.aload_n 0, 1) := by decide +kernel
theorem dX7_digest_110 : decode cX7_digest 110 = .ok (.getfield 12, 3) := by decide +kernel
theorem dX7_digest_113 : decode cX7_digest 113 = .ok (.getfield 203, 3) := by decide +kernel
theorem dX7_digest_116 : decode cX7_digest 116 = .ok (.lload_n 1, 1) := by decide +kernel
theorem dX7_digest_117 : decode cX7_digest 117 = .ok (.invokevirtual 261, 3) := by decide +kernel
theorem dX7_digest_120 : decode cX7_digest 120 = .ok (.lstore_n 1, 1) := by decide +kernel
theorem dX7_digest_121 : decode cX7_digest 121 = .ok (.ldc2_w 259, 3) := by decide +kernel
theorem dX7_digest_124 : decode cX7_digest 124 = .ok (.lload_n 1, 1) := by decide +kernel
theorem dX7_digest_125 : decode cX7_digest 125 = .ok (.lmul, 1) := by decide +kernel
theorem dX7_digest_126 : decode cX7_digest 126 = .ok (.aload_n 0, 1) := by decide +kernel
theorem dX7_digest_127 : decode cX7_digest 127 = .ok (.getfield 42, 3) := by decide +kernel
theorem dX7_digest_130 : decode cX7_digest 130 = .ok (.getfield 231, 3) := by decide +kernel
theorem dX7_digest_133 : decode cX7_digest 133 = .ok (.ladd, 1) := by decide +kernel
theorem dX7_digest_134 : decode cX7_digest 134 = .ok (.lstore_n 1, 1) := by decide +kernel
theorem dX7_digest_135 : decode cX7_digest 135 = .ok (.ldc2_w 259, 3) := by decide +kernel
theorem dX7_digest_138 : decode cX7_digest 138 = .ok (.lload_n 1, 1) := by decide +kernel
theorem dX7_digest_139 : decode cX7_digest 139 = .ok (.lmul, 1) := by decide +kernel
theorem dX7_digest_140 : decode cX7_digest 140 = .ok (.aload_n 0, 1) := by decide +kernel
theorem dX7_digest_141 : decode cX7_digest 141 = .ok (.getfield 42, 3) := by decide +kernel
theorem dX7_digest_144 : decode cX7_digest 144 = .ok (.getfield 235, 3) := by decide +kernel
theorem dX7_digest_147 : decode cX7_digest 147 = .ok (.ladd, 1) := by decide +kernel
theorem dX7_digest_148 : decode cX7_digest 148 = .ok (.lreturn, 1) := by decide +kernel
theorem dX7_howMany_0 : decode cX7_howMany 0 = .ok (.iload_n 1, 1) := by decide +kernel
theorem dX7_howMany_1 : decode cX7_howMany 1 = .ok (.tableswitch 141 0 8 #[51, 62, 73, 81, 89, 97, 108, 119, 130], 51) := by decide +kernel
theorem dX7_howMany_52 : decode cX7_howMany 52 = .ok (.aload_n 0, 1) := by decide +kernel
theorem dX7_howMany_53 : decode cX7_howMany 53 = .ok (.getfield 12, 3) := by decide +kernel
theorem dX7_howMany_56 : decode cX7_howMany 56 = .ok (.getfield 46, 3) := by decide +kernel
theorem dX7_howMany_59 : decode cX7_howMany 59 = .ok (.getfield 50, 3) := by decide +kernel
theorem dX7_howMany_62 : decode cX7_howMany 62 = .ok (.ireturn, 1) := by decide +kernel
theorem dX7_howMany_63 : decode cX7_howMany 63 = .ok (.aload_n 0, 1) := by decide +kernel
theorem dX7_howMany_64 : decode cX7_howMany 64 = .ok (.getfield 12, 3) := by decide +kernel
theorem dX7_howMany_67 : decode cX7_howMany 67 = .ok (.getfield 85, 3) := by decide +kernel
theorem dX7_howMany_70 : decode cX7_howMany 70 = .ok (.getfield 50, 3) := by decide +kernel
theorem dX7_howMany_73 : decode cX7_howMany 73 = .ok (.ireturn, 1) := by decide +kernel
theorem dX7_howMany_74 : decode cX7_howMany 74 = .ok (.aload_n 0, 1) := by decide +kernel
theorem dX7_howMany_75 : decode cX7_howMany 75 = .ok (.getfield 12, 3) := by decide +kernel
theorem dX7_howMany_78 : decode cX7_howMany 78 = .ok (.getfield 153, 3) := by decide +kernel
theorem dX7_howMany_81 : decode cX7_howMany 81 = .ok (.ireturn, 1) := by decide +kernel
theorem dX7_howMany_82 : decode cX7_howMany 82 = .ok (.aload_n 0, 1) := by decide +kernel
theorem dX7_howMany_83 : decode cX7_howMany 83 = .ok (.getfield 12, 3) := by decide +kernel
theorem dX7_howMany_86 : decode cX7_howMany 86 = .ok (.invokevirtual 265, 3) := by decide +kernel
theorem dX7_howMany_89 : decode cX7_howMany 89 = .ok (.ireturn, 1) := by decide +kernel
theorem dX7_howMany_90 : decode cX7_howMany 90 = .ok (.aload_n 0, 1) := by decide +kernel
theorem dX7_howMany_91 : decode cX7_howMany 91 = .ok (.getfield 12, 3) := by decide +kernel
theorem dX7_howMany_94 : decode cX7_howMany 94 = .ok (.invokevirtual 144, 3) := by decide +kernel
theorem dX7_howMany_97 : decode cX7_howMany 97 = .ok (.ireturn, 1) := by decide +kernel
theorem dX7_howMany_98 : decode cX7_howMany 98 = .ok (.aload_n 0, 1) := by decide +kernel
theorem dX7_howMany_99 : decode cX7_howMany 99 = .ok (.getfield 12, 3) := by decide +kernel
theorem dX7_howMany_102 : decode cX7_howMany 102 = .ok (.getfield 192, 3) := by decide +kernel
theorem dX7_howMany_105 : decode cX7_howMany 105 = .ok (.getfield 50, 3) := by decide +kernel
theorem dX7_howMany_108 : decode cX7_howMany 108 = .ok (.ireturn, 1) := by decide +kernel
theorem dX7_howMany_109 : decode cX7_howMany 109 = .ok (.aload_n 0, 1) := by decide +kernel
theorem dX7_howMany_110 : decode cX7_howMany 110 = .ok (.getfield 12, 3) := by decide +kernel
theorem dX7_howMany_113 : decode cX7_howMany 113 = .ok (.getfield 200, 3) := by decide +kernel
theorem dX7_howMany_116 : decode cX7_howMany 116 = .ok (.getfield 50, 3) := by decide +kernel
theorem dX7_howMany_119 : decode cX7_howMany 119 = .ok (.ireturn, 1) := by decide +kernel
theorem dX7_howMany_120 : decode cX7_howMany 120 = .ok (.aload_n 0, 1) := by decide +kernel
theorem dX7_howMany_121 : decode cX7_howMany 121 = .ok (.getfield 12, 3) := by decide +kernel
theorem dX7_howMany_124 : decode cX7_howMany 124 = .ok (.getfield 203, 3) := by decide +kernel
theorem dX7_howMany_127 : decode cX7_howMany 127 = .ok (.getfield 50, 3) := by decide +kernel
theorem dX7_howMany_130 : decode cX7_howMany 130 = .ok (.ireturn, 1) := by decide +kernel
theorem dX7_howMany_131 : decode cX7_howMany 131 = .ok (.aload_n 0, 1) := by decide +kernel
theorem dX7_howMany_132 : decode cX7_howMany 132 = .ok (.getfield 12, 3) := by decide +kernel
theorem dX7_howMany_135 : decode cX7_howMany 135 = .ok (.getfield 147, 3) := by decide +kernel
theorem dX7_howMany_138 : decode cX7_howMany 138 = .ok (.getfield 50, 3) := by decide +kernel
theorem dX7_howMany_141 : decode cX7_howMany 141 = .ok (.ireturn, 1) := by decide +kernel
theorem dX7_howMany_142 : decode cX7_howMany 142 = .ok (.aload_n 0, 1) := by decide +kernel
theorem dX7_howMany_143 : decode cX7_howMany 143 = .ok (.getfield 28, 3) := by decide +kernel
theorem dX7_howMany_146 : decode cX7_howMany 146 = .ok (.getfield 92, 3) := by decide +kernel
theorem dX7_howMany_149 : decode cX7_howMany 149 = .ok (.getfield 50, 3) := by decide +kernel
theorem dX7_howMany_152 : decode cX7_howMany 152 = .ok (.ireturn, 1) := by decide +kernel
theorem dX7_refuseBad_0 : decode cX7_refuseBad 0 = .ok (.aload_n 0, 1) := by decide +kernel
theorem dX7_refuseBad_1 : decode cX7_refuseBad 1 = .ok (.dup, 1) := by decide +kernel
theorem dX7_refuseBad_2 : decode cX7_refuseBad 2 = .ok (.getfield 245, 3) := by decide +kernel
theorem dX7_refuseBad_5 : decode cX7_refuseBad 5 = .ok (.iconst 1, 1) := by decide +kernel
theorem dX7_refuseBad_6 : decode cX7_refuseBad 6 = .ok (.iadd, 1) := by decide +kernel
theorem dX7_refuseBad_7 : decode cX7_refuseBad 7 = .ok (.putfield 245, 3) := by decide +kernel
theorem dX7_refuseBad_10 : decode cX7_refuseBad 10 = .ok (.bipush (-2), 2) := by decide +kernel
theorem dX7_refuseBad_12 : decode cX7_refuseBad 12 = .ok (.ireturn, 1) := by decide +kernel
theorem dX7_refuseNo_0 : decode cX7_refuseNo 0 = .ok (.aload_n 0, 1) := by decide +kernel
theorem dX7_refuseNo_1 : decode cX7_refuseNo 1 = .ok (.dup, 1) := by decide +kernel
theorem dX7_refuseNo_2 : decode cX7_refuseNo 2 = .ok (.getfield 248, 3) := by decide +kernel
theorem dX7_refuseNo_5 : decode cX7_refuseNo 5 = .ok (.iconst 1, 1) := by decide +kernel
theorem dX7_refuseNo_6 : decode cX7_refuseNo 6 = .ok (.iadd, 1) := by decide +kernel
theorem dX7_refuseNo_7 : decode cX7_refuseNo 7 = .ok (.putfield 248, 3) := by decide +kernel
theorem dX7_refuseNo_10 : decode cX7_refuseNo 10 = .ok (.bipush (-3), 2) := by decide +kernel
theorem dX7_refuseNo_12 : decode cX7_refuseNo 12 = .ok (.ireturn, 1) := by decide +kernel
theorem dX7_refuseFull_0 : decode cX7_refuseFull 0 = .ok (.aload_n 0, 1) := by decide +kernel
theorem dX7_refuseFull_1 : decode cX7_refuseFull 1 = .ok (.dup, 1) := by decide +kernel
theorem dX7_refuseFull_2 : decode cX7_refuseFull 2 = .ok (.getfield 251, 3) := by decide +kernel
theorem dX7_refuseFull_5 : decode cX7_refuseFull 5 = .ok (.iconst 1, 1) := by decide +kernel
theorem dX7_refuseFull_6 : decode cX7_refuseFull 6 = .ok (.iadd, 1) := by decide +kernel
theorem dX7_refuseFull_7 : decode cX7_refuseFull 7 = .ok (.putfield 251, 3) := by decide +kernel
theorem dX7_refuseFull_10 : decode cX7_refuseFull 10 = .ok (.bipush (-4), 2) := by decide +kernel
theorem dX7_refuseFull_12 : decode cX7_refuseFull 12 = .ok (.ireturn, 1) := by decide +kernel
theorem dX7_isSaying_0 : decode cX7_isSaying 0 = .ok (.iload_n 1, 1) := by decide +kernel
theorem dX7_isSaying_1 : decode cX7_isSaying 1 = .ok (.ifCond .lt 21, 3) := by decide +kernel
theorem dX7_isSaying_4 : decode cX7_isSaying 4 = .ok (.iload_n 1, 1) := by decide +kernel
theorem dX7_isSaying_5 : decode cX7_isSaying 5 = .ok (.aload_n 0, 1) := by decide +kernel
theorem dX7_isSaying_6 : decode cX7_isSaying 6 = .ok (.getfield 12, 3) := by decide +kernel
theorem dX7_isSaying_9 : decode cX7_isSaying 9 = .ok (.getfield 46, 3) := by decide +kernel
theorem dX7_isSaying_12 : decode cX7_isSaying 12 = .ok (.getfield 50, 3) := by decide +kernel
theorem dX7_isSaying_15 : decode cX7_isSaying 15 = .ok (.if_icmp .ge 7, 3) := by decide +kernel
theorem dX7_isSaying_18 : decode cX7_isSaying 18 = .ok (.iconst 1, 1) := by decide +kernel
theorem dX7_isSaying_19 : decode cX7_isSaying 19 = .ok (.goto 4, 3) := by decide +kernel
theorem dX7_isSaying_22 : decode cX7_isSaying 22 = .ok (.iconst 0, 1) := by decide +kernel
theorem dX7_isSaying_23 : decode cX7_isSaying 23 = .ok (.ireturn, 1) := by decide +kernel
theorem dX7_isListener_0 : decode cX7_isListener 0 = .ok (.iload_n 1, 1) := by decide +kernel
theorem dX7_isListener_1 : decode cX7_isListener 1 = .ok (.ifCond .lt 21, 3) := by decide +kernel
theorem dX7_isListener_4 : decode cX7_isListener 4 = .ok (.iload_n 1, 1) := by decide +kernel
theorem dX7_isListener_5 : decode cX7_isListener 5 = .ok (.aload_n 0, 1) := by decide +kernel
theorem dX7_isListener_6 : decode cX7_isListener 6 = .ok (.getfield 12, 3) := by decide +kernel
theorem dX7_isListener_9 : decode cX7_isListener 9 = .ok (.getfield 85, 3) := by decide +kernel
theorem dX7_isListener_12 : decode cX7_isListener 12 = .ok (.getfield 50, 3) := by decide +kernel
theorem dX7_isListener_15 : decode cX7_isListener 15 = .ok (.if_icmp .ge 7, 3) := by decide +kernel
theorem dX7_isListener_18 : decode cX7_isListener 18 = .ok (.iconst 1, 1) := by decide +kernel
theorem dX7_isListener_19 : decode cX7_isListener 19 = .ok (.goto 4, 3) := by decide +kernel
theorem dX7_isListener_22 : decode cX7_isListener 22 = .ok (.iconst 0, 1) := by decide +kernel
theorem dX7_isListener_23 : decode cX7_isListener 23 = .ok (.ireturn, 1) := by decide +kernel
theorem dX7_areBrothers_0 : decode cX7_areBrothers 0 = .ok (.aload_n 0, 1) := by decide +kernel
theorem dX7_areBrothers_1 : decode cX7_areBrothers 1 = .ok (.getfield 12, 3) := by decide +kernel
theorem dX7_areBrothers_4 : decode cX7_areBrothers 4 = .ok (.getfield 85, 3) := by decide +kernel
theorem dX7_areBrothers_7 : decode cX7_areBrothers 7 = .ok (.getfield 50, 3) := by decide +kernel
theorem dX7_areBrothers_10 : decode cX7_areBrothers 10 = .ok (.iconst 2, 1) := by decide +kernel
theorem dX7_areBrothers_11 : decode cX7_areBrothers 11 = .ok (.if_icmp .lt 7, 3) := by decide +kernel
theorem dX7_areBrothers_14 : decode cX7_areBrothers 14 = .ok (.iconst 1, 1) := by decide +kernel
theorem dX7_areBrothers_15 : decode cX7_areBrothers 15 = .ok (.goto 4, 3) := by decide +kernel
theorem dX7_areBrothers_18 : decode cX7_areBrothers 18 = .ok (.iconst 0, 1) := by decide +kernel
theorem dX7_areBrothers_19 : decode cX7_areBrothers 19 = .ok (.ireturn, 1) := by decide +kernel
theorem dX7_isSet_0 : decode cX7_isSet 0 = .ok (.iload_n 1, 1) := by decide +kernel
theorem dX7_isSet_1 : decode cX7_isSet 1 = .ok (.ifCond .lt 23, 3) := by decide +kernel
theorem dX7_isSet_4 : decode cX7_isSet 4 = .ok (.iload_n 1, 1) := by decide +kernel
theorem dX7_isSet_5 : decode cX7_isSet 5 = .ok (.iconst 1, 1) := by decide +kernel
theorem dX7_isSet_6 : decode cX7_isSet 6 = .ok (.aload_n 0, 1) := by decide +kernel
theorem dX7_isSet_7 : decode cX7_isSet 7 = .ok (.getfield 12, 3) := by decide +kernel
theorem dX7_isSet_10 : decode cX7_isSet 10 = .ok (.getfield 46, 3) := by decide +kernel
theorem dX7_isSet_13 : decode cX7_isSet 13 = .ok (.getfield 50, 3) := by decide +kernel
theorem dX7_isSet_16 : decode cX7_isSet 16 = .ok (.ishl, 1) := by decide +kernel
theorem dX7_isSet_17 : decode cX7_isSet 17 = .ok (.if_icmp .ge 7, 3) := by decide +kernel
theorem dX7_isSet_20 : decode cX7_isSet 20 = .ok (.iconst 1, 1) := by decide +kernel
theorem dX7_isSet_21 : decode cX7_isSet 21 = .ok (.goto 4, 3) := by decide +kernel
theorem dX7_isSet_24 : decode cX7_isSet 24 = .ok (.iconst 0, 1) := by decide +kernel
theorem dX7_isSet_25 : decode cX7_isSet 25 = .ok (.ireturn, 1) := by decide +kernel
theorem dX7_isKind_0 : decode cX7_isKind 0 = .ok (.iload_n 0, 1) := by decide +kernel
theorem dX7_isKind_1 : decode cX7_isKind 1 = .ok (.ifCond .lt 13, 3) := by decide +kernel
theorem dX7_isKind_4 : decode cX7_isKind 4 = .ok (.iload_n 0, 1) := by decide +kernel
theorem dX7_isKind_5 : decode cX7_isKind 5 = .ok (.bipush 6, 2) := by decide +kernel
theorem dX7_isKind_7 : decode cX7_isKind 7 = .ok (.if_icmp .ge 7, 3) := by decide +kernel
theorem dX7_isKind_10 : decode cX7_isKind 10 = .ok (.iconst 1, 1) := by decide +kernel
theorem dX7_isKind_11 : decode cX7_isKind 11 = .ok (.goto 4, 3) := by decide +kernel
theorem dX7_isKind_14 : decode cX7_isKind 14 = .ok (.iconst 0, 1) := by decide +kernel
theorem dX7_isKind_15 : decode cX7_isKind 15 = .ok (.ireturn, 1) := by decide +kernel
theorem dX7_isRoom_0 : decode cX7_isRoom 0 = .ok (.iload_n 0, 1) := by decide +kernel
theorem dX7_isRoom_1 : decode cX7_isRoom 1 = .ok (.ifCond .lt 12, 3) := by decide +kernel
theorem dX7_isRoom_4 : decode cX7_isRoom 4 = .ok (.iload_n 0, 1) := by decide +kernel
theorem dX7_isRoom_5 : decode cX7_isRoom 5 = .ok (.iconst 4, 1) := by decide +kernel
theorem dX7_isRoom_6 : decode cX7_isRoom 6 = .ok (.if_icmp .ge 7, 3) := by decide +kernel
theorem dX7_isRoom_9 : decode cX7_isRoom 9 = .ok (.iconst 1, 1) := by decide +kernel
theorem dX7_isRoom_10 : decode cX7_isRoom 10 = .ok (.goto 4, 3) := by decide +kernel
theorem dX7_isRoom_13 : decode cX7_isRoom 13 = .ok (.iconst 0, 1) := by decide +kernel
theorem dX7_isRoom_14 : decode cX7_isRoom 14 = .ok (.ireturn, 1) := by decide +kernel
theorem dX7_isSpeakingMinute_0 : decode cX7_isSpeakingMinute 0 = .ok (.iload_n 0, 1) := by decide +kernel
theorem dX7_isSpeakingMinute_1 : decode cX7_isSpeakingMinute 1 = .ok (.ifCond .lt 13, 3) := by decide +kernel
theorem dX7_isSpeakingMinute_4 : decode cX7_isSpeakingMinute 4 = .ok (.iload_n 0, 1) := by decide +kernel
theorem dX7_isSpeakingMinute_5 : decode cX7_isSpeakingMinute 5 = .ok (.bipush 30, 2) := by decide +kernel
theorem dX7_isSpeakingMinute_7 : decode cX7_isSpeakingMinute 7 = .ok (.if_icmp .ge 7, 3) := by decide +kernel
theorem dX7_isSpeakingMinute_10 : decode cX7_isSpeakingMinute 10 = .ok (.iconst 1, 1) := by decide +kernel
theorem dX7_isSpeakingMinute_11 : decode cX7_isSpeakingMinute 11 = .ok (.goto 4, 3) := by decide +kernel
theorem dX7_isSpeakingMinute_14 : decode cX7_isSpeakingMinute 14 = .ok (.iconst 0, 1) := by decide +kernel
theorem dX7_isSpeakingMinute_15 : decode cX7_isSpeakingMinute 15 = .ok (.ireturn, 1) := by decide +kernel
theorem dX7_isIn_0 : decode cX7_isIn 0 = .ok (.iload_n 0, 1) := by decide +kernel
theorem dX7_isIn_1 : decode cX7_isIn 1 = .ok (.iload_n 1, 1) := by decide +kernel
theorem dX7_isIn_2 : decode cX7_isIn 2 = .ok (.ishr, 1) := by decide +kernel
theorem dX7_isIn_3 : decode cX7_isIn 3 = .ok (.iconst 1, 1) := by decide +kernel
theorem dX7_isIn_4 : decode cX7_isIn 4 = .ok (.iand, 1) := by decide +kernel
theorem dX7_isIn_5 : decode cX7_isIn 5 = .ok (.iconst 1, 1) := by decide +kernel
theorem dX7_isIn_6 : decode cX7_isIn 6 = .ok (.if_icmp .ne 7, 3) := by decide +kernel
theorem dX7_isIn_9 : decode cX7_isIn 9 = .ok (.iconst 1, 1) := by decide +kernel
theorem dX7_isIn_10 : decode cX7_isIn 10 = .ok (.goto 4, 3) := by decide +kernel
theorem dX7_isIn_13 : decode cX7_isIn 13 = .ok (.iconst 0, 1) := by decide +kernel
theorem dX7_isIn_14 : decode cX7_isIn 14 = .ok (.ireturn, 1) := by decide +kernel
theorem dX7_within_0 : decode cX7_within 0 = .ok (.iload_n 0, 1) := by decide +kernel
theorem dX7_within_1 : decode cX7_within 1 = .ok (.iload_n 1, 1) := by decide +kernel
theorem dX7_within_2 : decode cX7_within 2 = .ok (.if_icmp .lt 12, 3) := by decide +kernel
theorem dX7_within_5 : decode cX7_within 5 = .ok (.iload_n 0, 1) := by decide +kernel
theorem dX7_within_6 : decode cX7_within 6 = .ok (.iload_n 2, 1) := by decide +kernel
theorem dX7_within_7 : decode cX7_within 7 = .ok (.if_icmp .gt 7, 3) := by decide +kernel
theorem dX7_within_10 : decode cX7_within 10 = .ok (.iconst 1, 1) := by decide +kernel
theorem dX7_within_11 : decode cX7_within 11 = .ok (.goto 4, 3) := by decide +kernel
theorem dX7_within_14 : decode cX7_within 14 = .ok (.iconst 0, 1) := by decide +kernel
theorem dX7_within_15 : decode cX7_within 15 = .ok (.ireturn, 1) := by decide +kernel
theorem dX8_in_0 : decode cX8_in 0 = .ok (.lload_n 0, 1) := by decide +kernel
theorem dX8_in_1 : decode cX8_in 1 = .ok (.lload_n 2, 1) := by decide +kernel
theorem dX8_in_2 : decode cX8_in 2 = .ok (.lcmp, 1) := by decide +kernel
theorem dX8_in_3 : decode cX8_in 3 = .ok (.ifCond .lt 14, 3) := by decide +kernel
theorem dX8_in_6 : decode cX8_in 6 = .ok (.lload_n 0, 1) := by decide +kernel
theorem dX8_in_7 : decode cX8_in 7 = .ok (.lload 4, 2) := by decide +kernel
theorem dX8_in_9 : decode cX8_in 9 = .ok (.lcmp, 1) := by decide +kernel
theorem dX8_in_10 : decode cX8_in 10 = .ok (.ifCond .gt 7, 3) := by decide +kernel
theorem dX8_in_13 : decode cX8_in 13 = .ok (.iconst 1, 1) := by decide +kernel
theorem dX8_in_14 : decode cX8_in 14 = .ok (.goto 4, 3) := by decide +kernel
theorem dX8_in_17 : decode cX8_in 17 = .ok (.iconst 0, 1) := by decide +kernel
theorem dX8_in_18 : decode cX8_in 18 = .ok (.ireturn, 1) := by decide +kernel
theorem dX8_init_0 : decode cX8_init 0 = .ok (.aload_n 0, 1) := by decide +kernel
theorem dX8_init_1 : decode cX8_init 1 = .ok (.invokespecial 1, 3) := by decide +kernel
theorem dX8_init_4 : decode cX8_init 4 = .ok (.aload_n 0, 1) := by decide +kernel
theorem dX8_init_5 : decode cX8_init 5 = .ok (.iconst 3, 1) := by decide +kernel
theorem dX8_init_6 : decode cX8_init 6 = .ok (.newarray .int, 2) := by decide +kernel
theorem dX8_init_8 : decode cX8_init 8 = .ok (.putfield 7, 3) := by decide +kernel
theorem dX8_init_11 : decode cX8_init 11 = .ok (.aload_n 0, 1) := by decide +kernel
theorem dX8_init_12 : decode cX8_init 12 = .ok (.bipush 8, 2) := by decide +kernel
theorem dX8_init_14 : decode cX8_init 14 = .ok (.newarray .int, 2) := by decide +kernel
theorem dX8_init_16 : decode cX8_init 16 = .ok (.putfield 13, 3) := by decide +kernel
theorem dX8_init_19 : decode cX8_init 19 = .ok (.aload_n 0, 1) := by decide +kernel
theorem dX8_init_20 : decode cX8_init 20 = .ok (.bipush 8, 2) := by decide +kernel
theorem dX8_init_22 : decode cX8_init 22 = .ok (.newarray .int, 2) := by decide +kernel
theorem dX8_init_24 : decode cX8_init 24 = .ok (.putfield 16, 3) := by decide +kernel
theorem dX8_init_27 : decode cX8_init 27 = .ok (.aload_n 0, 1) := by decide +kernel
theorem dX8_init_28 : decode cX8_init 28 = .ok (.bipush 8, 2) := by decide +kernel
theorem dX8_init_30 : decode cX8_init 30 = .ok (.newarray .int, 2) := by decide +kernel
theorem dX8_init_32 : decode cX8_init 32 = .ok (.putfield 19, 3) := by decide +kernel
theorem dX8_init_35 : decode cX8_init 35 = .ok (.aload_n 0, 1) := by decide +kernel
theorem dX8_init_36 : decode cX8_init 36 = .ok (.iconst 3, 1) := by decide +kernel
theorem dX8_init_37 : decode cX8_init 37 = .ok (.newarray .int, 2) := by decide +kernel
theorem dX8_init_39 : decode cX8_init 39 = .ok (.putfield 22, 3) := by decide +kernel
theorem dX8_init_42 : decode cX8_init 42 = .ok (.aload_n 0, 1) := by decide +kernel
theorem dX8_init_43 : decode cX8_init 43 = .ok (.bipush 11, 2) := by decide +kernel
theorem dX8_init_45 : decode cX8_init 45 = .ok (.newarray .int, 2) := by decide +kernel
theorem dX8_init_47 : decode cX8_init 47 = .ok (.putfield 25, 3) := by decide +kernel
theorem dX8_init_50 : decode cX8_init 50 = .ok (.aload_n 0, 1) := by decide +kernel
theorem dX8_init_51 : decode cX8_init 51 = .ok (.sipush 150, 3) := by decide +kernel
theorem dX8_init_54 : decode cX8_init 54 = .ok (.newarray .int, 2) := by decide +kernel
theorem dX8_init_56 : decode cX8_init 56 = .ok (.putfield 28, 3) := by decide +kernel
theorem dX8_init_59 : decode cX8_init 59 = .ok (.aload_n 0, 1) := by decide +kernel
theorem dX8_init_60 : decode cX8_init 60 = .ok (.sipush 152, 3) := by decide +kernel
theorem dX8_init_63 : decode cX8_init 63 = .ok (.newarray .int, 2) := by decide +kernel
theorem dX8_init_65 : decode cX8_init 65 = .ok (.putfield 31, 3) := by decide +kernel
theorem dX8_init_68 : decode cX8_init 68 = .ok (.aload_n 0, 1) := by decide +kernel
theorem dX8_init_69 : decode cX8_init 69 = .ok (.bipush 88, 2) := by decide +kernel
theorem dX8_init_71 : decode cX8_init 71 = .ok (.newarray .int, 2) := by decide +kernel
theorem dX8_init_73 : decode cX8_init 73 = .ok (.putfield 34, 3) := by decide +kernel
theorem dX8_init_76 : decode cX8_init 76 = .ok (.aload_n 0, 1) := by decide +kernel
theorem dX8_init_77 : decode cX8_init 77 = .ok (.bipush 15, 2) := by decide +kernel
theorem dX8_init_79 : decode cX8_init 79 = .ok (.newarray .int, 2) := by decide +kernel
theorem dX8_init_81 : decode cX8_init 81 = .ok (.putfield 37, 3) := by decide +kernel
theorem dX8_init_84 : decode cX8_init 84 = .ok (.aload_n 0, 1) := by decide +kernel
theorem dX8_init_85 : decode cX8_init 85 = .ok (.bipush 24, 2) := by decide +kernel
theorem dX8_init_87 : decode cX8_init 87 = .ok (.newarray .int, 2) := by decide +kernel
theorem dX8_init_89 : decode cX8_init 89 = .ok (.putfield 40, 3) := by decide +kernel
theorem dX8_init_92 : decode cX8_init 92 = .ok (.aload_n 0, 1) := by decide +kernel
theorem dX8_init_93 : decode cX8_init 93 = .ok (.bipush 24, 2) := by decide +kernel
theorem dX8_init_95 : decode cX8_init 95 = .ok (.newarray .int, 2) := by decide +kernel
theorem dX8_init_97 : decode cX8_init 97 = .ok (.putfield 43, 3) := by decide +kernel
theorem dX8_init_100 : decode cX8_init 100 = .ok (.aload_n 0, 1) := by decide +kernel
theorem dX8_init_101 : decode cX8_init 101 = .ok (.bipush 8, 2) := by decide +kernel
theorem dX8_init_103 : decode cX8_init 103 = .ok (.newarray .int, 2) := by decide +kernel
theorem dX8_init_105 : decode cX8_init 105 = .ok (.putfield 46, 3) := by decide +kernel
theorem dX8_init_108 : decode cX8_init 108 = .ok (.aload_n 0, 1) := by decide +kernel
theorem dX8_init_109 : decode cX8_init 109 = .ok (.bipush 11, 2) := by decide +kernel
theorem dX8_init_111 : decode cX8_init 111 = .ok (.newarray .int, 2) := by decide +kernel
theorem dX8_init_113 : decode cX8_init 113 = .ok (.putfield 49, 3) := by decide +kernel
theorem dX8_init_116 : decode cX8_init 116 = .ok (.aload_n 0, 1) := by decide +kernel
theorem dX8_init_117 : decode cX8_init 117 = .ok (.sipush 392, 3) := by decide +kernel
theorem dX8_init_120 : decode cX8_init 120 = .ok (.newarray .int, 2) := by decide +kernel
theorem dX8_init_122 : decode cX8_init 122 = .ok (.putfield 52, 3) := by decide +kernel
theorem dX8_init_125 : decode cX8_init 125 = .ok (.aload_n 0, 1) := by decide +kernel
theorem dX8_init_126 : decode cX8_init 126 = .ok (.iconst 2, 1) := by decide +kernel
theorem dX8_init_127 : decode cX8_init 127 = .ok (.newarray .boolean, 2) := by decide +kernel
theorem dX8_init_129 : decode cX8_init 129 = .ok (.putfield 55, 3) := by decide +kernel
theorem dX8_init_132 : decode cX8_init 132 = .ok (.aload_n 0, 1) := by decide +kernel
theorem dX8_init_133 : decode cX8_init 133 = .ok (.invokevirtual 59, 3) := by decide +kernel
theorem dX8_init_136 : decode cX8_init 136 = .ok (.aload_n 0, 1) := by decide +kernel
theorem dX8_init_137 : decode cX8_init 137 = .ok (.lconst 1, 1) := by decide +kernel
theorem dX8_init_138 : decode cX8_init 138 = .ok (.putfield 62, 3) := by decide +kernel
theorem dX8_init_141 : decode cX8_init 141 = .ok (.return_, 1) := by decide +kernel
theorem dX8_bad_0 : decode cX8_bad 0 = .ok (.aload_n 0, 1) := by decide +kernel
theorem dX8_bad_1 : decode cX8_bad 1 = .ok (.getfield 7, 3) := by decide +kernel
theorem dX8_bad_4 : decode cX8_bad 4 = .ok (.iconst 0, 1) := by decide +kernel
theorem dX8_bad_5 : decode cX8_bad 5 = .ok (.dup2, 1) := by decide +kernel
theorem dX8_bad_6 : decode cX8_bad 6 = .ok (.iaload, 1) := by decide +kernel
theorem dX8_bad_7 : decode cX8_bad 7 = .ok (.iconst 1, 1) := by decide +kernel
theorem dX8_bad_8 : decode cX8_bad 8 = .ok (.iadd, 1) := by decide +kernel
theorem dX8_bad_9 : decode cX8_bad 9 = .ok (.iastore, 1) := by decide +kernel
theorem dX8_bad_10 : decode cX8_bad 10 = .ok (.bipush (-2), 2) := by decide +kernel
theorem dX8_bad_12 : decode cX8_bad 12 = .ok (.ireturn, 1) := by decide +kernel
theorem dX8_no_0 : decode cX8_no 0 = .ok (.aload_n 0, 1) := by decide +kernel
theorem dX8_no_1 : decode cX8_no 1 = .ok (.getfield 7, 3) := by decide +kernel
theorem dX8_no_4 : decode cX8_no 4 = .ok (.iconst 1, 1) := by decide +kernel
theorem dX8_no_5 : decode cX8_no 5 = .ok (.dup2, 1) := by decide +kernel
theorem dX8_no_6 : decode cX8_no 6 = .ok (.iaload, 1) := by decide +kernel
theorem dX8_no_7 : decode cX8_no 7 = .ok (.iconst 1, 1) := by decide +kernel
theorem dX8_no_8 : decode cX8_no 8 = .ok (.iadd, 1) := by decide +kernel
theorem dX8_no_9 : decode cX8_no 9 = .ok (.iastore, 1) := by decide +kernel
theorem dX8_no_10 : decode cX8_no 10 = .ok (.bipush (-3), 2) := by decide +kernel
theorem dX8_no_12 : decode cX8_no 12 = .ok (.ireturn, 1) := by decide +kernel
theorem dX8_full_0 : decode cX8_full 0 = .ok (.aload_n 0, 1) := by decide +kernel
theorem dX8_full_1 : decode cX8_full 1 = .ok (.getfield 7, 3) := by decide +kernel
theorem dX8_full_4 : decode cX8_full 4 = .ok (.iconst 2, 1) := by decide +kernel
theorem dX8_full_5 : decode cX8_full 5 = .ok (.dup2, 1) := by decide +kernel
theorem dX8_full_6 : decode cX8_full 6 = .ok (.iaload, 1) := by decide +kernel
theorem dX8_full_7 : decode cX8_full 7 = .ok (.iconst 1, 1) := by decide +kernel
theorem dX8_full_8 : decode cX8_full 8 = .ok (.iadd, 1) := by decide +kernel
theorem dX8_full_9 : decode cX8_full 9 = .ok (.iastore, 1) := by decide +kernel
theorem dX8_full_10 : decode cX8_full 10 = .ok (.bipush (-4), 2) := by decide +kernel
theorem dX8_full_12 : decode cX8_full 12 = .ok (.ireturn, 1) := by decide +kernel
theorem dX8_status_0 : decode cX8_status 0 = .ok (.iload_n 1, 1) := by decide +kernel
theorem dX8_status_1 : decode cX8_status 1 = .ok (.i2l, 1) := by decide +kernel
theorem dX8_status_2 : decode cX8_status 2 = .ok (.lconst 0, 1) := by decide +kernel
theorem dX8_status_3 : decode cX8_status 3 = .ok (.ldc2_w 66, 3) := by decide +kernel
theorem dX8_status_6 : decode cX8_status 6 = .ok (.invokestatic 68, 3) := by decide +kernel
theorem dX8_status_9 : decode cX8_status 9 = .ok (.ifCond .ne 15, 3) := by decide +kernel
theorem dX8_status_12 : decode cX8_status 12 = .ok (.aload_n 0, 1) := by decide +kernel
theorem dX8_status_13 : decode cX8_status 13 = .ok (.getfield 7, 3) := by decide +kernel
theorem dX8_status_16 : decode cX8_status 16 = .ok (.iconst 0, 1) := by decide +kernel
theorem dX8_status_17 : decode cX8_status 17 = .ok (.dup2, 1) := by decide +kernel
theorem dX8_status_18 : decode cX8_status 18 = .ok (.iaload, 1) := by decide +kernel
theorem dX8_status_19 : decode cX8_status 19 = .ok (.iconst 1, 1) := by decide +kernel
theorem dX8_status_20 : decode cX8_status 20 = .ok (.iadd, 1) := by decide +kernel
theorem dX8_status_21 : decode cX8_status 21 = .ok (.iastore, 1) := by decide +kernel
theorem dX8_status_22 : decode cX8_status 22 = .ok (.iconst (-1), 1) := by decide +kernel
theorem dX8_status_23 : decode cX8_status 23 = .ok (.ireturn, 1) := by decide +kernel
theorem dX8_status_24 : decode cX8_status 24 = .ok (.aload_n 0, 1) := by decide +kernel
theorem dX8_status_25 : decode cX8_status 25 = .ok (.getfield 7, 3) := by decide +kernel
theorem dX8_status_28 : decode cX8_status 28 = .ok (.iload_n 1, 1) := by decide +kernel
theorem dX8_status_29 : decode cX8_status 29 = .ok (.iaload, 1) := by decide +kernel
theorem dX8_status_30 : decode cX8_status 30 = .ok (.ireturn, 1) := by decide +kernel
theorem dX8_isSaying_0 : decode cX8_isSaying 0 = .ok (.iload_n 1, 1) := by decide +kernel
theorem dX8_isSaying_1 : decode cX8_isSaying 1 = .ok (.i2l, 1) := by decide +kernel
theorem dX8_isSaying_2 : decode cX8_isSaying 2 = .ok (.lconst 0, 1) := by decide +kernel
theorem dX8_isSaying_3 : decode cX8_isSaying 3 = .ok (.aload_n 0, 1) := by decide +kernel
theorem dX8_isSaying_4 : decode cX8_isSaying 4 = .ok (.getfield 72, 3) := by decide +kernel
theorem dX8_isSaying_7 : decode cX8_isSaying 7 = .ok (.iconst 1, 1) := by decide +kernel
theorem dX8_isSaying_8 : decode cX8_isSaying 8 = .ok (.isub, 1) := by decide +kernel
theorem dX8_isSaying_9 : decode cX8_isSaying 9 = .ok (.i2l, 1) := by decide +kernel
theorem dX8_isSaying_10 : decode cX8_isSaying 10 = .ok (.invokestatic 68, 3) := by decide +kernel
theorem dX8_isSaying_13 : decode cX8_isSaying 13 = .ok (.ireturn, 1) := by decide +kernel
theorem dX8_isEar_0 : decode cX8_isEar 0 = .ok (.iload_n 1, 1) := by decide +kernel
theorem dX8_isEar_1 : decode cX8_isEar 1 = .ok (.i2l, 1) := by decide +kernel
theorem dX8_isEar_2 : decode cX8_isEar 2 = .ok (.lconst 0, 1) := by decide +kernel
theorem dX8_isEar_3 : decode cX8_isEar 3 = .ok (.aload_n 0, 1) := by decide +kernel
theorem dX8_isEar_4 : decode cX8_isEar 4 = .ok (.getfield 76, 3) := by decide +kernel
theorem dX8_isEar_7 : decode cX8_isEar 7 = .ok (.iconst 1, 1) := by decide +kernel
theorem dX8_isEar_8 : decode cX8_isEar 8 = .ok (.isub, 1) := by decide +kernel
theorem dX8_isEar_9 : decode cX8_isEar 9 = .ok (.i2l, 1) := by decide +kernel
theorem dX8_isEar_10 : decode cX8_isEar 10 = .ok (.invokestatic 68, 3) := by decide +kernel
theorem dX8_isEar_13 : decode cX8_isEar 13 = .ok (.ireturn, 1) := by decide +kernel
theorem dX8_isRoom_0 : decode cX8_isRoom 0 = .ok (.iload_n 0, 1) := by decide +kernel
theorem dX8_isRoom_1 : decode cX8_isRoom 1 = .ok (.i2l, 1) := by decide +kernel
theorem dX8_isRoom_2 : decode cX8_isRoom 2 = .ok (.lconst 0, 1) := by decide +kernel
theorem dX8_isRoom_3 : decode cX8_isRoom 3 = .ok (.ldc2_w 79, 3) := by decide +kernel
theorem dX8_isRoom_6 : decode cX8_isRoom 6 = .ok (.invokestatic 68, 3) := by decide +kernel
theorem dX8_isRoom_9 : decode cX8_isRoom 9 = .ok (.ireturn, 1) := by decide +kernel
theorem dX8_empties_0 : decode cX8_empties 0 = .ok (.aload_n 0, 1) := by decide +kernel
theorem dX8_empties_1 : decode cX8_empties 1 = .ok (.iconst 0, 1) := by decide +kernel
theorem dX8_empties_2 : decode cX8_empties 2 = .ok (.putfield 72, 3) := by decide +kernel
theorem dX8_empties_5 : decode cX8_empties 5 = .ok (.aload_n 0, 1) := by decide +kernel
theorem dX8_empties_6 : decode cX8_empties 6 = .ok (.iconst 0, 1) := by decide +kernel
theorem dX8_empties_7 : decode cX8_empties 7 = .ok (.putfield 76, 3) := by decide +kernel
theorem dX8_empties_10 : decode cX8_empties 10 = .ok (.iconst 0, 1) := by decide +kernel
theorem dX8_empties_11 : decode cX8_empties 11 = .ok (.istore_n 1, 1) := by decide +kernel
theorem dX8_empties_12 : decode cX8_empties 12 = .ok (.iload_n 1, 1) := by decide +kernel
theorem dX8_empties_13 : decode cX8_empties 13 = .ok (.bipush 11, 2) := by decide +kernel
theorem dX8_empties_15 : decode cX8_empties 15 = .ok (.if_icmp .ge 16, 3) := by decide +kernel
theorem dX8_empties_18 : decode cX8_empties 18 = .ok (.aload_n 0, 1) := by decide +kernel
theorem dX8_empties_19 : decode cX8_empties 19 = .ok (.getfield 25, 3) := by decide +kernel
theorem dX8_empties_22 : decode cX8_empties 22 = .ok (.iload_n 1, 1) := by decide +kernel
theorem dX8_empties_23 : decode cX8_empties 23 = .ok (.iconst 0, 1) := by decide +kernel
theorem dX8_empties_24 : decode cX8_empties 24 = .ok (.iastore, 1) := by decide +kernel
theorem dX8_empties_25 : decode cX8_empties 25 = .ok (.iinc 1 1, 3) := by decide +kernel
theorem dX8_empties_28 : decode cX8_empties 28 = .ok (.goto (-16), 3) := by decide +kernel
theorem dX8_empties_31 : decode cX8_empties 31 = .ok (.iconst 0, 1) := by decide +kernel
theorem dX8_empties_32 : decode cX8_empties 32 = .ok (.istore_n 1, 1) := by decide +kernel
theorem dX8_empties_33 : decode cX8_empties 33 = .ok (.iload_n 1, 1) := by decide +kernel
theorem dX8_empties_34 : decode cX8_empties 34 = .ok (.iconst 4, 1) := by decide +kernel
theorem dX8_empties_35 : decode cX8_empties 35 = .ok (.if_icmp .ge 18, 3) := by decide +kernel
theorem dX8_empties_38 : decode cX8_empties 38 = .ok (.aload_n 0, 1) := by decide +kernel
theorem dX8_empties_39 : decode cX8_empties 39 = .ok (.getfield 25, 3) := by decide +kernel
theorem dX8_empties_42 : decode cX8_empties 42 = .ok (.iconst 1, 1) := by decide +kernel
theorem dX8_empties_43 : decode cX8_empties 43 = .ok (.iload_n 1, 1) := by decide +kernel
theorem dX8_empties_44 : decode cX8_empties 44 = .ok (.iadd, 1) := by decide +kernel
theorem dX8_empties_45 : decode cX8_empties 45 = .ok (.iconst (-1), 1) := by decide +kernel
theorem dX8_empties_46 : decode cX8_empties 46 = .ok (.iastore, 1) := by decide +kernel
theorem dX8_empties_47 : decode cX8_empties 47 = .ok (.iinc 1 1, 3) := by decide +kernel
theorem dX8_empties_50 : decode cX8_empties 50 = .ok (.goto (-17), 3) := by decide +kernel
theorem dX8_empties_53 : decode cX8_empties 53 = .ok (.aload_n 0, 1) := by decide +kernel
theorem dX8_empties_54 : decode cX8_empties 54 = .ok (.iconst 0, 1) := by decide +kernel
theorem dX8_empties_55 : decode cX8_empties 55 = .ok (.putfield 81, 3) := by decide +kernel
theorem dX8_empties_58 : decode cX8_empties 58 = .ok (.aload_n 0, 1) := by decide +kernel
theorem dX8_empties_59 : decode cX8_empties 59 = .ok (.iconst 0, 1) := by decide +kernel
theorem dX8_empties_60 : decode cX8_empties 60 = .ok (.putfield 84, 3) := by decide +kernel
theorem dX8_empties_63 : decode cX8_empties 63 = .ok (.aload_n 0, 1) := by decide +kernel
theorem dX8_empties_64 : decode cX8_empties 64 = .ok (.iconst 0, 1) := by decide +kernel
theorem dX8_empties_65 : decode cX8_empties 65 = .ok (.putfield 87, 3) := by decide +kernel
theorem dX8_empties_68 : decode cX8_empties 68 = .ok (.aload_n 0, 1) := by decide +kernel
theorem dX8_empties_69 : decode cX8_empties 69 = .ok (.iconst 0, 1) := by decide +kernel
theorem dX8_empties_70 : decode cX8_empties 70 = .ok (.putfield 90, 3) := by decide +kernel
theorem dX8_empties_73 : decode cX8_empties 73 = .ok (.return_, 1) := by decide +kernel
theorem dX8_house_0 : decode cX8_house 0 = .ok (.aload_n 0, 1) := by decide +kernel
theorem dX8_house_1 : decode cX8_house 1 = .ok (.getfield 72, 3) := by decide +kernel
theorem dX8_house_4 : decode cX8_house 4 = .ok (.istore_n 1, 1) := by decide +kernel
theorem dX8_house_5 : decode cX8_house 5 = .ok (.aload_n 0, 1) := by decide +kernel
theorem dX8_house_6 : decode cX8_house 6 = .ok (.invokevirtual 59, 3) := by decide +kernel
theorem dX8_house_9 : decode cX8_house 9 = .ok (.iload_n 1, 1) := by decide +kernel
theorem dX8_house_10 : decode cX8_house 10 = .ok (.ireturn, 1) := by decide +kernel
theorem dX8_sayingComes_0 : decode cX8_sayingComes 0 = .ok (.aload_n 0, 1) := by decide +kernel
theorem dX8_sayingComes_1 : decode cX8_sayingComes 1 = .ok (.getfield 13, 3) := by decide +kernel
theorem dX8_sayingComes_4 : decode cX8_sayingComes 4 = .ok (.aload_n 0, 1) := by decide +kernel
theorem dX8_sayingComes_5 : decode cX8_sayingComes 5 = .ok (.getfield 72, 3) := by decide +kernel
theorem dX8_sayingComes_8 : decode cX8_sayingComes 8 = .ok (.iload_n 1, 1) := by decide +kernel
theorem dX8_sayingComes_9 : decode cX8_sayingComes 9 = .ok (.iastore, 1) := by decide +kernel
theorem dX8_sayingComes_10 : decode cX8_sayingComes 10 = .ok (.aload_n 0, 1) := by decide +kernel
theorem dX8_sayingComes_11 : decode cX8_sayingComes 11 = .ok (.getfield 16, 3) := by decide +kernel
theorem dX8_sayingComes_14 : decode cX8_sayingComes 14 = .ok (.aload_n 0, 1) := by decide +kernel
theorem dX8_sayingComes_15 : decode cX8_sayingComes 15 = .ok (.getfield 72, 3) := by decide +kernel
theorem dX8_sayingComes_18 : decode cX8_sayingComes 18 = .ok (.iload_n 2, 1) := by decide +kernel
theorem dX8_sayingComes_19 : decode cX8_sayingComes 19 = .ok (.iastore, 1) := by decide +kernel
theorem dX8_sayingComes_20 : decode cX8_sayingComes 20 = .ok (.aload_n 0, 1) := by decide +kernel
theorem dX8_sayingComes_21 : decode cX8_sayingComes 21 = .ok (.getfield 19, 3) := by decide +kernel
theorem dX8_sayingComes_24 : decode cX8_sayingComes 24 = .ok (.aload_n 0, 1) := by decide +kernel
theorem dX8_sayingComes_25 : decode cX8_sayingComes 25 = .ok (.getfield 72, 3) := by decide +kernel
theorem dX8_sayingComes_28 : decode cX8_sayingComes 28 = .ok (.iload_n 3, 1) := by decide +kernel
theorem dX8_sayingComes_29 : decode cX8_sayingComes 29 = .ok (.iastore, 1) := by decide +kernel
theorem dX8_sayingComes_30 : decode cX8_sayingComes 30 = .ok (.aload_n 0, 1) := by decide +kernel
theorem dX8_sayingComes_31 : decode cX8_sayingComes 31 = .ok (.dup, 1) := by decide +kernel
theorem dX8_sayingComes_32 : decode cX8_sayingComes 32 = .ok (.getfield 72, 3) := by decide +kernel
theorem dX8_sayingComes_35 : decode cX8_sayingComes 35 = .ok (.iconst 1, 1) := by decide +kernel
theorem dX8_sayingComes_36 : decode cX8_sayingComes 36 = .ok (.iadd, 1) := by decide +kernel
theorem dX8_sayingComes_37 : decode cX8_sayingComes 37 = .ok (.putfield 72, 3) := by decide +kernel
theorem dX8_sayingComes_40 : decode cX8_sayingComes 40 = .ok (.aload_n 0, 1) := by decide +kernel
theorem dX8_sayingComes_41 : decode cX8_sayingComes 41 = .ok (.iconst 0, 1) := by decide +kernel
theorem dX8_sayingComes_42 : decode cX8_sayingComes 42 = .ok (.putfield 90, 3) := by decide +kernel
theorem dX8_sayingComes_45 : decode cX8_sayingComes 45 = .ok (.return_, 1) := by decide +kernel
theorem dX8_earComes_0 : decode cX8_earComes 0 = .ok (.aload_n 0, 1) := by decide +kernel
theorem dX8_earComes_1 : decode cX8_earComes 1 = .ok (.getfield 22, 3) := by decide +kernel
theorem dX8_earComes_4 : decode cX8_earComes 4 = .ok (.aload_n 0, 1) := by decide +kernel
theorem dX8_earComes_5 : decode cX8_earComes 5 = .ok (.getfield 76, 3) := by decide +kernel
theorem dX8_earComes_8 : decode cX8_earComes 8 = .ok (.iload_n 1, 1) := by decide +kernel
theorem dX8_earComes_9 : decode cX8_earComes 9 = .ok (.iastore, 1) := by decide +kernel
theorem dX8_earComes_10 : decode cX8_earComes 10 = .ok (.aload_n 0, 1) := by decide +kernel
theorem dX8_earComes_11 : decode cX8_earComes 11 = .ok (.getfield 25, 3) := by decide +kernel
theorem dX8_earComes_14 : decode cX8_earComes 14 = .ok (.iconst 5, 1) := by decide +kernel
theorem dX8_earComes_15 : decode cX8_earComes 15 = .ok (.aload_n 0, 1) := by decide +kernel
theorem dX8_earComes_16 : decode cX8_earComes 16 = .ok (.getfield 76, 3) := by decide +kernel
theorem dX8_earComes_19 : decode cX8_earComes 19 = .ok (.iadd, 1) := by decide +kernel
theorem dX8_earComes_20 : decode cX8_earComes 20 = .ok (.iload_n 2, 1) := by decide +kernel
theorem dX8_earComes_21 : decode cX8_earComes 21 = .ok (.iastore, 1) := by decide +kernel
theorem dX8_earComes_22 : decode cX8_earComes 22 = .ok (.aload_n 0, 1) := by decide +kernel
theorem dX8_earComes_23 : decode cX8_earComes 23 = .ok (.getfield 25, 3) := by decide +kernel
theorem dX8_earComes_26 : decode cX8_earComes 26 = .ok (.bipush 8, 2) := by decide +kernel
theorem dX8_earComes_28 : decode cX8_earComes 28 = .ok (.aload_n 0, 1) := by decide +kernel
theorem dX8_earComes_29 : decode cX8_earComes 29 = .ok (.getfield 76, 3) := by decide +kernel
theorem dX8_earComes_32 : decode cX8_earComes 32 = .ok (.iadd, 1) := by decide +kernel
theorem dX8_earComes_33 : decode cX8_earComes 33 = .ok (.iconst 0, 1) := by decide +kernel
theorem dX8_earComes_34 : decode cX8_earComes 34 = .ok (.iastore, 1) := by decide +kernel
theorem dX8_earComes_35 : decode cX8_earComes 35 = .ok (.aload_n 0, 1) := by decide +kernel
theorem dX8_earComes_36 : decode cX8_earComes 36 = .ok (.dup, 1) := by decide +kernel
theorem dX8_earComes_37 : decode cX8_earComes 37 = .ok (.getfield 76, 3) := by decide +kernel
theorem dX8_earComes_40 : decode cX8_earComes 40 = .ok (.iconst 1, 1) := by decide +kernel
theorem dX8_earComes_41 : decode cX8_earComes 41 = .ok (.iadd, 1) := by decide +kernel
theorem dX8_earComes_42 : decode cX8_earComes 42 = .ok (.putfield 76, 3) := by decide +kernel
theorem dX8_earComes_45 : decode cX8_earComes 45 = .ok (.aload_n 0, 1) := by decide +kernel
theorem dX8_earComes_46 : decode cX8_earComes 46 = .ok (.iconst 0, 1) := by decide +kernel
theorem dX8_earComes_47 : decode cX8_earComes 47 = .ok (.putfield 90, 3) := by decide +kernel
theorem dX8_earComes_50 : decode cX8_earComes 50 = .ok (.return_, 1) := by decide +kernel
theorem dX8_say_0 : decode cX8_say 0 = .ok (.iload_n 1, 1) := by decide +kernel
theorem dX8_say_1 : decode cX8_say 1 = .ok (.i2l, 1) := by decide +kernel
theorem dX8_say_2 : decode cX8_say 2 = .ok (.lconst 0, 1) := by decide +kernel
theorem dX8_say_3 : decode cX8_say 3 = .ok (.ldc2_w 93, 3) := by decide +kernel
theorem dX8_say_6 : decode cX8_say 6 = .ok (.invokestatic 68, 3) := by decide +kernel
theorem dX8_say_9 : decode cX8_say 9 = .ok (.ifCond .eq 22, 3) := by decide +kernel
theorem dX8_say_12 : decode cX8_say 12 = .ok (.iload_n 2, 1) := by decide +kernel
theorem dX8_say_13 : decode cX8_say 13 = .ok (.invokestatic 95, 3) := by decide +kernel
theorem dX8_say_16 : decode cX8_say 16 = .ok (.ifCond .eq 15, 3) := by decide +kernel
theorem dX8_say_19 : decode cX8_say 19 = .ok (.iload_n 3, 1) := by decide +kernel
theorem dX8_say_20 : decode cX8_say 20 = .ok (.i2l, 1) := by decide +kernel
theorem dX8_say_21 : decode cX8_say 21 = .ok (.lconst 1, 1) := by decide +kernel
theorem dX8_say_22 : decode cX8_say 22 = .ok (.ldc2_w 99, 3) := by decide +kernel
theorem dX8_say_25 : decode cX8_say 25 = .ok (.invokestatic 68, 3) := by decide +kernel
theorem dX8_say_28 : decode cX8_say 28 = .ok (.ifCond .ne 8, 3) := by decide +kernel
theorem dX8_say_31 : decode cX8_say 31 = .ok (.aload_n 0, 1) := by decide +kernel
theorem dX8_say_32 : decode cX8_say 32 = .ok (.invokevirtual 101, 3) := by decide +kernel
theorem dX8_say_35 : decode cX8_say 35 = .ok (.ireturn, 1) := by decide +kernel
theorem dX8_say_36 : decode cX8_say 36 = .ok (.aload_n 0, 1) := by decide +kernel
theorem dX8_say_37 : decode cX8_say 37 = .ok (.getfield 72, 3) := by decide +kernel
theorem dX8_say_40 : decode cX8_say 40 = .ok (.bipush 8, 2) := by decide +kernel
theorem dX8_say_42 : decode cX8_say 42 = .ok (.if_icmp .ne 8, 3) := by decide +kernel
theorem dX8_say_45 : decode cX8_say 45 = .ok (.aload_n 0, 1) := by decide +kernel
theorem dX8_say_46 : decode cX8_say 46 = .ok (.invokevirtual 105, 3) := by decide +kernel
theorem dX8_say_49 : decode cX8_say 49 = .ok (.ireturn, 1) := by decide +kernel
theorem dX8_say_50 : decode cX8_say 50 = .ok (.aload_n 0, 1) := by decide +kernel
theorem dX8_say_51 : decode cX8_say 51 = .ok (.iload_n 1, 1) := by decide +kernel
theorem dX8_say_52 : decode cX8_say 52 = .ok (.iload_n 2, 1) := by decide +kernel
theorem dX8_say_53 : decode cX8_say 53 = .ok (.iload_n 3, 1) := by decide +kernel
theorem dX8_say_54 : decode cX8_say 54 = .ok (.invokevirtual 108, 3) := by decide +kernel
theorem dX8_say_57 : decode cX8_say 57 = .ok (.aload_n 0, 1) := by decide +kernel
theorem dX8_say_58 : decode cX8_say 58 = .ok (.getfield 72, 3) := by decide +kernel
theorem dX8_say_61 : decode cX8_say 61 = .ok (.iconst 1, 1) := by decide +kernel
theorem dX8_say_62 : decode cX8_say 62 = .ok (.isub, 1) := by decide +kernel
theorem dX8_say_63 : decode cX8_say 63 = .ok (.ireturn, 1) := by decide +kernel
theorem dX8_ear_0 : decode cX8_ear 0 = .ok (.iload_n 1, 1) := by decide +kernel
theorem dX8_ear_1 : decode cX8_ear 1 = .ok (.i2l, 1) := by decide +kernel
theorem dX8_ear_2 : decode cX8_ear 2 = .ok (.lconst 0, 1) := by decide +kernel
theorem dX8_ear_3 : decode cX8_ear 3 = .ok (.ldc2_w 93, 3) := by decide +kernel
theorem dX8_ear_6 : decode cX8_ear 6 = .ok (.invokestatic 68, 3) := by decide +kernel
theorem dX8_ear_9 : decode cX8_ear 9 = .ok (.ifCond .ne 8, 3) := by decide +kernel
theorem dX8_ear_12 : decode cX8_ear 12 = .ok (.aload_n 0, 1) := by decide +kernel
theorem dX8_ear_13 : decode cX8_ear 13 = .ok (.invokevirtual 101, 3) := by decide +kernel
theorem dX8_ear_16 : decode cX8_ear 16 = .ok (.ireturn, 1) := by decide +kernel
theorem dX8_ear_17 : decode cX8_ear 17 = .ok (.aload_n 0, 1) := by decide +kernel
theorem dX8_ear_18 : decode cX8_ear 18 = .ok (.getfield 76, 3) := by decide +kernel
theorem dX8_ear_21 : decode cX8_ear 21 = .ok (.iconst 3, 1) := by decide +kernel
theorem dX8_ear_22 : decode cX8_ear 22 = .ok (.if_icmp .ne 8, 3) := by decide +kernel
theorem dX8_ear_25 : decode cX8_ear 25 = .ok (.aload_n 0, 1) := by decide +kernel
theorem dX8_ear_26 : decode cX8_ear 26 = .ok (.invokevirtual 105, 3) := by decide +kernel
theorem dX8_ear_29 : decode cX8_ear 29 = .ok (.ireturn, 1) := by decide +kernel
theorem dX8_ear_30 : decode cX8_ear 30 = .ok (.aload_n 0, 1) := by decide +kernel
theorem dX8_ear_31 : decode cX8_ear 31 = .ok (.iload_n 1, 1) := by decide +kernel
theorem dX8_ear_32 : decode cX8_ear 32 = .ok (.iconst 0, 1) := by decide +kernel
theorem dX8_ear_33 : decode cX8_ear 33 = .ok (.invokevirtual 112, 3) := by decide +kernel
theorem dX8_ear_36 : decode cX8_ear 36 = .ok (.aload_n 0, 1) := by decide +kernel
theorem dX8_ear_37 : decode cX8_ear 37 = .ok (.getfield 76, 3) := by decide +kernel
theorem dX8_ear_40 : decode cX8_ear 40 = .ok (.iconst 1, 1) := by decide +kernel
theorem dX8_ear_41 : decode cX8_ear 41 = .ok (.isub, 1) := by decide +kernel
theorem dX8_ear_42 : decode cX8_ear 42 = .ok (.ireturn, 1) := by decide +kernel
theorem dX8_loudBy_0 : decode cX8_loudBy 0 = .ok (.iload_n 1, 1) := by decide +kernel
theorem dX8_loudBy_1 : decode cX8_loudBy 1 = .ok (.iload_n 2, 1) := by decide +kernel
theorem dX8_loudBy_2 : decode cX8_loudBy 2 = .ok (.iconst 4, 1) := by decide +kernel
theorem dX8_loudBy_3 : decode cX8_loudBy 3 = .ok (.idiv, 1) := by decide +kernel
theorem dX8_loudBy_4 : decode cX8_loudBy 4 = .ok (.isub, 1) := by decide +kernel
theorem dX8_loudBy_5 : decode cX8_loudBy 5 = .ok (.ifCond .ge 7, 3) := by decide +kernel
theorem dX8_loudBy_8 : decode cX8_loudBy 8 = .ok (.iconst 0, 1) := by decide +kernel
theorem dX8_loudBy_9 : decode cX8_loudBy 9 = .ok (.goto 8, 3) := by decide +kernel
theorem dX8_loudBy_12 : decode cX8_loudBy 12 = .ok (.iload_n 1, 1) := by decide +kernel
theorem dX8_loudBy_13 : decode cX8_loudBy 13 = .ok (.iload_n 2, 1) := by decide +kernel
theorem dX8_loudBy_14 : decode cX8_loudBy 14 = .ok (.iconst 4, 1) := by decide +kernel
theorem dX8_loudBy_15 : decode cX8_loudBy 15 = .ok (.idiv, 1) := by decide +kernel
theorem dX8_loudBy_16 : decode cX8_loudBy 16 = .ok (.isub, 1) := by decide +kernel
theorem dX8_loudBy_17 : decode cX8_loudBy 17 = .ok (.istore_n 3, 1) := by decide +kernel
theorem dX8_loudBy_18 : decode cX8_loudBy 18 = .ok (.iload_n 3, 1) := by decide +kernel
theorem dX8_loudBy_19 : decode cX8_loudBy 19 = .ok (.iconst 1, 1) := by decide +kernel
theorem dX8_loudBy_20 : decode cX8_loudBy 20 = .ok (.iadd, 1) := by decide +kernel
theorem dX8_loudBy_21 : decode cX8_loudBy 21 = .ok (.iconst 2, 1) := by decide +kernel
theorem dX8_loudBy_22 : decode cX8_loudBy 22 = .ok (.idiv, 1) := by decide +kernel
theorem dX8_loudBy_23 : decode cX8_loudBy 23 = .ok (.istore 4, 2) := by decide +kernel
theorem dX8_loudBy_25 : decode cX8_loudBy 25 = .ok (.iload_n 3, 1) := by decide +kernel
theorem dX8_loudBy_26 : decode cX8_loudBy 26 = .ok (.iload_n 2, 1) := by decide +kernel
theorem dX8_loudBy_27 : decode cX8_loudBy 27 = .ok (.iconst 2, 1) := by decide +kernel
theorem dX8_loudBy_28 : decode cX8_loudBy 28 = .ok (.if_icmp .gt 7, 3) := by decide +kernel
theorem dX8_loudBy_31 : decode cX8_loudBy 31 = .ok (.iconst 4, 1) := by decide +kernel
theorem dX8_loudBy_32 : decode cX8_loudBy 32 = .ok (.goto 4, 3) := by decide +kernel
theorem dX8_loudBy_35 : decode cX8_loudBy 35 = .ok (.iconst 0, 1) := by decide +kernel
theorem dX8_loudBy_36 : decode cX8_loudBy 36 = .ok (.iadd, 1) := by decide +kernel
theorem dX8_loudBy_37 : decode cX8_loudBy 37 = .ok (.istore 5, 2) := by decide +kernel
theorem dX8_loudBy_39 : decode cX8_loudBy 39 = .ok (.iload_n 0, 1) := by decide +kernel
theorem dX8_loudBy_40 : decode cX8_loudBy 40 = .ok (.tableswitch 71 0 4 #[36, 38, 41, 44, 59], 36) := by decide +kernel
theorem dX8_loudBy_76 : decode cX8_loudBy 76 = .ok (.iload_n 3, 1) := by decide +kernel
theorem dX8_loudBy_77 : decode cX8_loudBy 77 = .ok (.ireturn, 1) := by decide +kernel
theorem dX8_loudBy_78 : decode cX8_loudBy 78 = .ok (.iload 4, 2) := by decide +kernel
theorem dX8_loudBy_80 : decode cX8_loudBy 80 = .ok (.ireturn, 1) := by decide +kernel
theorem dX8_loudBy_81 : decode cX8_loudBy 81 = .ok (.iload 5, 2) := by decide +kernel
theorem dX8_loudBy_83 : decode cX8_loudBy 83 = .ok (.ireturn, 1) := by decide +kernel
theorem dX8_loudBy_84 : decode cX8_loudBy 84 = .ok (.iload 4, 2) := by decide +kernel
theorem dX8_loudBy_86 : decode cX8_loudBy 86 = .ok (.iload_n 2, 1) := by decide +kernel
theorem dX8_loudBy_87 : decode cX8_loudBy 87 = .ok (.bipush 20, 2) := by decide +kernel
theorem dX8_loudBy_89 : decode cX8_loudBy 89 = .ok (.if_icmp .lt 7, 3) := by decide +kernel
theorem dX8_loudBy_92 : decode cX8_loudBy 92 = .ok (.iconst 3, 1) := by decide +kernel
theorem dX8_loudBy_93 : decode cX8_loudBy 93 = .ok (.goto 4, 3) := by decide +kernel
theorem dX8_loudBy_96 : decode cX8_loudBy 96 = .ok (.iconst 0, 1) := by decide +kernel
theorem dX8_loudBy_97 : decode cX8_loudBy 97 = .ok (.iadd, 1) := by decide +kernel
theorem dX8_loudBy_98 : decode cX8_loudBy 98 = .ok (.ireturn, 1) := by decide +kernel
theorem dX8_loudBy_99 : decode cX8_loudBy 99 = .ok (.iload_n 2, 1) := by decide +kernel
theorem dX8_loudBy_100 : decode cX8_loudBy 100 = .ok (.iconst 5, 1) := by decide +kernel
theorem dX8_loudBy_101 : decode cX8_loudBy 101 = .ok (.irem, 1) := by decide +kernel
theorem dX8_loudBy_102 : decode cX8_loudBy 102 = .ok (.ifCond .ne 7, 3) := by decide +kernel
theorem dX8_loudBy_105 : decode cX8_loudBy 105 = .ok (.iload_n 3, 1) := by decide +kernel
theorem dX8_loudBy_106 : decode cX8_loudBy 106 = .ok (.goto 4, 3) := by decide +kernel
theorem dX8_loudBy_109 : decode cX8_loudBy 109 = .ok (.iconst 0, 1) := by decide +kernel
theorem dX8_loudBy_110 : decode cX8_loudBy 110 = .ok (.ireturn, 1) := by decide +kernel
theorem dX8_loudBy_111 : decode cX8_loudBy 111 = .ok (.iload_n 2, 1) := by decide +kernel
theorem dX8_loudBy_112 : decode cX8_loudBy 112 = .ok (.iconst 2, 1) := by decide +kernel
theorem dX8_loudBy_113 : decode cX8_loudBy 113 = .ok (.irem, 1) := by decide +kernel
theorem dX8_loudBy_114 : decode cX8_loudBy 114 = .ok (.ifCond .ne 8, 3) := by decide +kernel
theorem dX8_loudBy_117 : decode cX8_loudBy 117 = .ok (.iload 5, 2) := by decide +kernel
theorem dX8_loudBy_119 : decode cX8_loudBy 119 = .ok (.goto 4, 3) := by decide +kernel
theorem dX8_loudBy_122 : decode cX8_loudBy 122 = .ok (.iconst 0, 1) := by decide +kernel
theorem dX8_loudBy_123 : decode cX8_loudBy 123 = .ok (.ireturn, 1) := by decide +kernel
theorem dX8_youngBy_0 : decode cX8_youngBy 0 = .ok (.iload_n 0, 1) := by decide +kernel
theorem dX8_youngBy_1 : decode cX8_youngBy 1 = .ok (.iload_n 1, 1) := by decide +kernel
theorem dX8_youngBy_2 : decode cX8_youngBy 2 = .ok (.iconst 4, 1) := by decide +kernel
theorem dX8_youngBy_3 : decode cX8_youngBy 3 = .ok (.idiv, 1) := by decide +kernel
theorem dX8_youngBy_4 : decode cX8_youngBy 4 = .ok (.isub, 1) := by decide +kernel
theorem dX8_youngBy_5 : decode cX8_youngBy 5 = .ok (.iload_n 0, 1) := by decide +kernel
theorem dX8_youngBy_6 : decode cX8_youngBy 6 = .ok (.iconst 1, 1) := by decide +kernel
theorem dX8_youngBy_7 : decode cX8_youngBy 7 = .ok (.if_icmp .lt 7, 3) := by decide +kernel
theorem dX8_youngBy_10 : decode cX8_youngBy 10 = .ok (.iconst 2, 1) := by decide +kernel
theorem dX8_youngBy_11 : decode cX8_youngBy 11 = .ok (.goto 4, 3) := by decide +kernel
theorem dX8_youngBy_14 : decode cX8_youngBy 14 = .ok (.iconst 0, 1) := by decide +kernel
theorem dX8_youngBy_15 : decode cX8_youngBy 15 = .ok (.iadd, 1) := by decide +kernel
theorem dX8_youngBy_16 : decode cX8_youngBy 16 = .ok (.ireturn, 1) := by decide +kernel
theorem dX8_hearsBy_0 : decode cX8_hearsBy 0 = .ok (.iload_n 1, 1) := by decide +kernel
theorem dX8_hearsBy_1 : decode cX8_hearsBy 1 = .ok (.iload_n 2, 1) := by decide +kernel
theorem dX8_hearsBy_2 : decode cX8_hearsBy 2 = .ok (.iconst 4, 1) := by decide +kernel
theorem dX8_hearsBy_3 : decode cX8_hearsBy 3 = .ok (.idiv, 1) := by decide +kernel
theorem dX8_hearsBy_4 : decode cX8_hearsBy 4 = .ok (.isub, 1) := by decide +kernel
theorem dX8_hearsBy_5 : decode cX8_hearsBy 5 = .ok (.istore_n 3, 1) := by decide +kernel
theorem dX8_hearsBy_6 : decode cX8_hearsBy 6 = .ok (.iload_n 1, 1) := by decide +kernel
theorem dX8_hearsBy_7 : decode cX8_hearsBy 7 = .ok (.iload_n 2, 1) := by decide +kernel
theorem dX8_hearsBy_8 : decode cX8_hearsBy 8 = .ok (.invokestatic 116, 3) := by decide +kernel
theorem dX8_hearsBy_11 : decode cX8_hearsBy 11 = .ok (.istore 4, 2) := by decide +kernel
theorem dX8_hearsBy_13 : decode cX8_hearsBy 13 = .ok (.iload_n 0, 1) := by decide +kernel
theorem dX8_hearsBy_14 : decode cX8_hearsBy 14 = .ok (.tableswitch 117 0 4 #[34, 45, 58, 70, 95], 34) := by decide +kernel
theorem dX8_hearsBy_48 : decode cX8_hearsBy 48 = .ok (.iload_n 3, 1) := by decide +kernel
theorem dX8_hearsBy_49 : decode cX8_hearsBy 49 = .ok (.iconst 1, 1) := by decide +kernel
theorem dX8_hearsBy_50 : decode cX8_hearsBy 50 = .ok (.if_icmp .lt 7, 3) := by decide +kernel
theorem dX8_hearsBy_53 : decode cX8_hearsBy 53 = .ok (.iconst 1, 1) := by decide +kernel
theorem dX8_hearsBy_54 : decode cX8_hearsBy 54 = .ok (.goto 4, 3) := by decide +kernel
theorem dX8_hearsBy_57 : decode cX8_hearsBy 57 = .ok (.iconst 0, 1) := by decide +kernel
theorem dX8_hearsBy_58 : decode cX8_hearsBy 58 = .ok (.ireturn, 1) := by decide +kernel
theorem dX8_hearsBy_59 : decode cX8_hearsBy 59 = .ok (.iload_n 3, 1) := by decide +kernel
theorem dX8_hearsBy_60 : decode cX8_hearsBy 60 = .ok (.iconst 3, 1) := by decide +kernel
theorem dX8_hearsBy_61 : decode cX8_hearsBy 61 = .ok (.isub, 1) := by decide +kernel
theorem dX8_hearsBy_62 : decode cX8_hearsBy 62 = .ok (.iconst 1, 1) := by decide +kernel
theorem dX8_hearsBy_63 : decode cX8_hearsBy 63 = .ok (.if_icmp .lt 7, 3) := by decide +kernel
theorem dX8_hearsBy_66 : decode cX8_hearsBy 66 = .ok (.iconst 1, 1) := by decide +kernel
theorem dX8_hearsBy_67 : decode cX8_hearsBy 67 = .ok (.goto 4, 3) := by decide +kernel
theorem dX8_hearsBy_70 : decode cX8_hearsBy 70 = .ok (.iconst 0, 1) := by decide +kernel
theorem dX8_hearsBy_71 : decode cX8_hearsBy 71 = .ok (.ireturn, 1) := by decide +kernel
theorem dX8_hearsBy_72 : decode cX8_hearsBy 72 = .ok (.iload 4, 2) := by decide +kernel
theorem dX8_hearsBy_74 : decode cX8_hearsBy 74 = .ok (.iconst 1, 1) := by decide +kernel
theorem dX8_hearsBy_75 : decode cX8_hearsBy 75 = .ok (.if_icmp .lt 7, 3) := by decide +kernel
theorem dX8_hearsBy_78 : decode cX8_hearsBy 78 = .ok (.iconst 1, 1) := by decide +kernel
theorem dX8_hearsBy_79 : decode cX8_hearsBy 79 = .ok (.goto 4, 3) := by decide +kernel
theorem dX8_hearsBy_82 : decode cX8_hearsBy 82 = .ok (.iconst 0, 1) := by decide +kernel
theorem dX8_hearsBy_83 : decode cX8_hearsBy 83 = .ok (.ireturn, 1) := by decide +kernel
theorem dX8_hearsBy_84 : decode cX8_hearsBy 84 = .ok (.iload_n 3, 1) := by decide +kernel
theorem dX8_hearsBy_85 : decode cX8_hearsBy 85 = .ok (.iconst 3, 1) := by decide +kernel
theorem dX8_hearsBy_86 : decode cX8_hearsBy 86 = .ok (.isub, 1) := by decide +kernel
theorem dX8_hearsBy_87 : decode cX8_hearsBy 87 = .ok (.iload_n 2, 1) := by decide +kernel
theorem dX8_hearsBy_88 : decode cX8_hearsBy 88 = .ok (.bipush 12, 2) := by decide +kernel
theorem dX8_hearsBy_90 : decode cX8_hearsBy 90 = .ok (.if_icmp .le 7, 3) := by decide +kernel
theorem dX8_hearsBy_93 : decode cX8_hearsBy 93 = .ok (.iconst 2, 1) := by decide +kernel
theorem dX8_hearsBy_94 : decode cX8_hearsBy 94 = .ok (.goto 4, 3) := by decide +kernel
theorem dX8_hearsBy_97 : decode cX8_hearsBy 97 = .ok (.iconst 0, 1) := by decide +kernel
theorem dX8_hearsBy_98 : decode cX8_hearsBy 98 = .ok (.iadd, 1) := by decide +kernel
theorem dX8_hearsBy_99 : decode cX8_hearsBy 99 = .ok (.iconst 1, 1) := by decide +kernel
theorem dX8_hearsBy_100 : decode cX8_hearsBy 100 = .ok (.if_icmp .lt 7, 3) := by decide +kernel
theorem dX8_hearsBy_103 : decode cX8_hearsBy 103 = .ok (.iconst 1, 1) := by decide +kernel
theorem dX8_hearsBy_104 : decode cX8_hearsBy 104 = .ok (.goto 4, 3) := by decide +kernel
theorem dX8_hearsBy_107 : decode cX8_hearsBy 107 = .ok (.iconst 0, 1) := by decide +kernel
theorem dX8_hearsBy_108 : decode cX8_hearsBy 108 = .ok (.ireturn, 1) := by decide +kernel
theorem dX8_hearsBy_109 : decode cX8_hearsBy 109 = .ok (.iload 4, 2) := by decide +kernel
theorem dX8_hearsBy_111 : decode cX8_hearsBy 111 = .ok (.iconst 4, 1) := by decide +kernel
theorem dX8_hearsBy_112 : decode cX8_hearsBy 112 = .ok (.if_icmp .le 7, 3) := by decide +kernel
theorem dX8_hearsBy_115 : decode cX8_hearsBy 115 = .ok (.iconst 4, 1) := by decide +kernel
theorem dX8_hearsBy_116 : decode cX8_hearsBy 116 = .ok (.goto 5, 3) := by decide +kernel
theorem dX8_hearsBy_119 : decode cX8_hearsBy 119 = .ok (.iload 4, 2) := by decide +kernel
theorem dX8_hearsBy_121 : decode cX8_hearsBy 121 = .ok (.iconst 1, 1) := by decide +kernel
theorem dX8_hearsBy_122 : decode cX8_hearsBy 122 = .ok (.if_icmp .lt 7, 3) := by decide +kernel
theorem dX8_hearsBy_125 : decode cX8_hearsBy 125 = .ok (.iconst 1, 1) := by decide +kernel
theorem dX8_hearsBy_126 : decode cX8_hearsBy 126 = .ok (.goto 4, 3) := by decide +kernel
theorem dX8_hearsBy_129 : decode cX8_hearsBy 129 = .ok (.iconst 0, 1) := by decide +kernel
theorem dX8_hearsBy_130 : decode cX8_hearsBy 130 = .ok (.ireturn, 1) := by decide +kernel
theorem dX8_hearsBy_131 : decode cX8_hearsBy 131 = .ok (.iload_n 1, 1) := by decide +kernel
theorem dX8_hearsBy_132 : decode cX8_hearsBy 132 = .ok (.iload_n 2, 1) := by decide +kernel
theorem dX8_hearsBy_133 : decode cX8_hearsBy 133 = .ok (.iconst 2, 1) := by decide +kernel
theorem dX8_hearsBy_134 : decode cX8_hearsBy 134 = .ok (.idiv, 1) := by decide +kernel
theorem dX8_hearsBy_135 : decode cX8_hearsBy 135 = .ok (.invokestatic 116, 3) := by decide +kernel
theorem dX8_hearsBy_138 : decode cX8_hearsBy 138 = .ok (.iconst 1, 1) := by decide +kernel
theorem dX8_hearsBy_139 : decode cX8_hearsBy 139 = .ok (.if_icmp .lt 7, 3) := by decide +kernel
theorem dX8_hearsBy_142 : decode cX8_hearsBy 142 = .ok (.iconst 1, 1) := by decide +kernel
theorem dX8_hearsBy_143 : decode cX8_hearsBy 143 = .ok (.goto 4, 3) := by decide +kernel
theorem dX8_hearsBy_146 : decode cX8_hearsBy 146 = .ok (.iconst 0, 1) := by decide +kernel
theorem dX8_hearsBy_147 : decode cX8_hearsBy 147 = .ok (.ireturn, 1) := by decide +kernel
theorem dX8_minuteOf_0 : decode cX8_minuteOf 0 = .ok (.aload_n 0, 1) := by decide +kernel
theorem dX8_minuteOf_1 : decode cX8_minuteOf 1 = .ok (.getfield 25, 3) := by decide +kernel
theorem dX8_minuteOf_4 : decode cX8_minuteOf 4 = .ok (.iconst 0, 1) := by decide +kernel
theorem dX8_minuteOf_5 : decode cX8_minuteOf 5 = .ok (.iaload, 1) := by decide +kernel
theorem dX8_minuteOf_6 : decode cX8_minuteOf 6 = .ok (.aload_n 0, 1) := by decide +kernel
theorem dX8_minuteOf_7 : decode cX8_minuteOf 7 = .ok (.getfield 25, 3) := by decide +kernel
theorem dX8_minuteOf_10 : decode cX8_minuteOf 10 = .ok (.iconst 1, 1) := by decide +kernel
theorem dX8_minuteOf_11 : decode cX8_minuteOf 11 = .ok (.iload_n 1, 1) := by decide +kernel
theorem dX8_minuteOf_12 : decode cX8_minuteOf 12 = .ok (.iadd, 1) := by decide +kernel
theorem dX8_minuteOf_13 : decode cX8_minuteOf 13 = .ok (.iaload, 1) := by decide +kernel
theorem dX8_minuteOf_14 : decode cX8_minuteOf 14 = .ok (.isub, 1) := by decide +kernel
theorem dX8_minuteOf_15 : decode cX8_minuteOf 15 = .ok (.istore_n 2, 1) := by decide +kernel
theorem dX8_minuteOf_16 : decode cX8_minuteOf 16 = .ok (.aload_n 0, 1) := by decide +kernel
theorem dX8_minuteOf_17 : decode cX8_minuteOf 17 = .ok (.getfield 25, 3) := by decide +kernel
theorem dX8_minuteOf_20 : decode cX8_minuteOf 20 = .ok (.iconst 1, 1) := by decide +kernel
theorem dX8_minuteOf_21 : decode cX8_minuteOf 21 = .ok (.iload_n 1, 1) := by decide +kernel
theorem dX8_minuteOf_22 : decode cX8_minuteOf 22 = .ok (.iadd, 1) := by decide +kernel
theorem dX8_minuteOf_23 : decode cX8_minuteOf 23 = .ok (.iaload, 1) := by decide +kernel
theorem dX8_minuteOf_24 : decode cX8_minuteOf 24 = .ok (.ifCond .lt 13, 3) := by decide +kernel
theorem dX8_minuteOf_27 : decode cX8_minuteOf 27 = .ok (.iload_n 2, 1) := by decide +kernel
theorem dX8_minuteOf_28 : decode cX8_minuteOf 28 = .ok (.bipush 30, 2) := by decide +kernel
theorem dX8_minuteOf_30 : decode cX8_minuteOf 30 = .ok (.if_icmp .ge 7, 3) := by decide +kernel
theorem dX8_minuteOf_33 : decode cX8_minuteOf 33 = .ok (.iload_n 2, 1) := by decide +kernel
theorem dX8_minuteOf_34 : decode cX8_minuteOf 34 = .ok (.goto 4, 3) := by decide +kernel
theorem dX8_minuteOf_37 : decode cX8_minuteOf 37 = .ok (.iconst (-1), 1) := by decide +kernel
theorem dX8_minuteOf_38 : decode cX8_minuteOf 38 = .ok (.ireturn, 1) := by decide +kernel
theorem dX8_loudIn_0 : decode cX8_loudIn 0 = .ok (.aload_n 0, 1) := by decide +kernel
theorem dX8_loudIn_1 : decode cX8_loudIn 1 = .ok (.getfield 13, 3) := by decide +kernel
theorem dX8_loudIn_4 : decode cX8_loudIn 4 = .ok (.iload_n 1, 1) := by decide +kernel
theorem dX8_loudIn_5 : decode cX8_loudIn 5 = .ok (.iaload, 1) := by decide +kernel
theorem dX8_loudIn_6 : decode cX8_loudIn 6 = .ok (.aload_n 0, 1) := by decide +kernel
theorem dX8_loudIn_7 : decode cX8_loudIn 7 = .ok (.getfield 19, 3) := by decide +kernel
theorem dX8_loudIn_10 : decode cX8_loudIn 10 = .ok (.iload_n 1, 1) := by decide +kernel
theorem dX8_loudIn_11 : decode cX8_loudIn 11 = .ok (.iaload, 1) := by decide +kernel
theorem dX8_loudIn_12 : decode cX8_loudIn 12 = .ok (.iload_n 2, 1) := by decide +kernel
theorem dX8_loudIn_13 : decode cX8_loudIn 13 = .ok (.invokestatic 120, 3) := by decide +kernel
theorem dX8_loudIn_16 : decode cX8_loudIn 16 = .ok (.ireturn, 1) := by decide +kernel
theorem dX8_together_0 : decode cX8_together 0 = .ok (.iconst 0, 1) := by decide +kernel
theorem dX8_together_1 : decode cX8_together 1 = .ok (.istore 4, 2) := by decide +kernel
theorem dX8_together_3 : decode cX8_together 3 = .ok (.iconst 0, 1) := by decide +kernel
theorem dX8_together_4 : decode cX8_together 4 = .ok (.istore 5, 2) := by decide +kernel
theorem dX8_together_6 : decode cX8_together 6 = .ok (.iload 5, 2) := by decide +kernel
theorem dX8_together_8 : decode cX8_together 8 = .ok (.aload_n 0, 1) := by decide +kernel
theorem dX8_together_9 : decode cX8_together 9 = .ok (.getfield 72, 3) := by decide +kernel
theorem dX8_together_12 : decode cX8_together 12 = .ok (.if_icmp .ge 50, 3) := by decide +kernel
theorem dX8_together_15 : decode cX8_together 15 = .ok (.iload 4, 2) := by decide +kernel
theorem dX8_together_17 : decode cX8_together 17 = .ok (.iload_n 3, 1) := by decide +kernel
theorem dX8_together_18 : decode cX8_together 18 = .ok (.ifCond .lt 34, 3) := by decide +kernel
theorem dX8_together_21 : decode cX8_together 21 = .ok (.aload_n 0, 1) := by decide +kernel
theorem dX8_together_22 : decode cX8_together 22 = .ok (.getfield 16, 3) := by decide +kernel
theorem dX8_together_25 : decode cX8_together 25 = .ok (.iload 5, 2) := by decide +kernel
theorem dX8_together_27 : decode cX8_together 27 = .ok (.iaload, 1) := by decide +kernel
theorem dX8_together_28 : decode cX8_together 28 = .ok (.iload_n 2, 1) := by decide +kernel
theorem dX8_together_29 : decode cX8_together 29 = .ok (.if_icmp .ne 23, 3) := by decide +kernel
theorem dX8_together_32 : decode cX8_together 32 = .ok (.iload_n 1, 1) := by decide +kernel
theorem dX8_together_33 : decode cX8_together 33 = .ok (.iload 5, 2) := by decide +kernel
theorem dX8_together_35 : decode cX8_together 35 = .ok (.ishr, 1) := by decide +kernel
theorem dX8_together_36 : decode cX8_together 36 = .ok (.iconst 1, 1) := by decide +kernel
theorem dX8_together_37 : decode cX8_together 37 = .ok (.iand, 1) := by decide +kernel
theorem dX8_together_38 : decode cX8_together 38 = .ok (.iconst 1, 1) := by decide +kernel
theorem dX8_together_39 : decode cX8_together 39 = .ok (.if_icmp .ne 13, 3) := by decide +kernel
theorem dX8_together_42 : decode cX8_together 42 = .ok (.aload_n 0, 1) := by decide +kernel
theorem dX8_together_43 : decode cX8_together 43 = .ok (.iload 5, 2) := by decide +kernel
theorem dX8_together_45 : decode cX8_together 45 = .ok (.iload_n 3, 1) := by decide +kernel
theorem dX8_together_46 : decode cX8_together 46 = .ok (.invokevirtual 124, 3) := by decide +kernel
theorem dX8_together_49 : decode cX8_together 49 = .ok (.goto 4, 3) := by decide +kernel
theorem dX8_together_52 : decode cX8_together 52 = .ok (.iconst 0, 1) := by decide +kernel
theorem dX8_together_53 : decode cX8_together 53 = .ok (.iadd, 1) := by decide +kernel
theorem dX8_together_54 : decode cX8_together 54 = .ok (.istore 4, 2) := by decide +kernel
theorem dX8_together_56 : decode cX8_together 56 = .ok (.iinc 5 1, 3) := by decide +kernel
theorem dX8_together_59 : decode cX8_together 59 = .ok (.goto (-53), 3) := by decide +kernel
theorem dX8_together_62 : decode cX8_together 62 = .ok (.iload 4, 2) := by decide +kernel
theorem dX8_together_64 : decode cX8_together 64 = .ok (.ireturn, 1) := by decide +kernel
theorem dX8_heardOf_0 : decode cX8_heardOf 0 = .ok (.aload_n 0, 1) := by decide +kernel
theorem dX8_heardOf_1 : decode cX8_heardOf 1 = .ok (.iload_n 2, 1) := by decide +kernel
theorem dX8_heardOf_2 : decode cX8_heardOf 2 = .ok (.iload_n 3, 1) := by decide +kernel
theorem dX8_heardOf_3 : decode cX8_heardOf 3 = .ok (.iload 4, 2) := by decide +kernel
theorem dX8_heardOf_5 : decode cX8_heardOf 5 = .ok (.invokevirtual 127, 3) := by decide +kernel
theorem dX8_heardOf_8 : decode cX8_heardOf 8 = .ok (.istore 5, 2) := by decide +kernel
theorem dX8_heardOf_10 : decode cX8_heardOf 10 = .ok (.iconst 0, 1) := by decide +kernel
theorem dX8_heardOf_11 : decode cX8_heardOf 11 = .ok (.istore 6, 2) := by decide +kernel
theorem dX8_heardOf_13 : decode cX8_heardOf 13 = .ok (.iconst 0, 1) := by decide +kernel
theorem dX8_heardOf_14 : decode cX8_heardOf 14 = .ok (.istore 7, 2) := by decide +kernel
theorem dX8_heardOf_16 : decode cX8_heardOf 16 = .ok (.iload 7, 2) := by decide +kernel
theorem dX8_heardOf_18 : decode cX8_heardOf 18 = .ok (.aload_n 0, 1) := by decide +kernel
theorem dX8_heardOf_19 : decode cX8_heardOf 19 = .ok (.getfield 72, 3) := by decide +kernel
theorem dX8_heardOf_22 : decode cX8_heardOf 22 = .ok (.if_icmp .ge 72, 3) := by decide +kernel
theorem dX8_heardOf_25 : decode cX8_heardOf 25 = .ok (.iload 4, 2) := by decide +kernel
theorem dX8_heardOf_27 : decode cX8_heardOf 27 = .ok (.ifCond .lt 61, 3) := by decide +kernel
theorem dX8_heardOf_30 : decode cX8_heardOf 30 = .ok (.aload_n 0, 1) := by decide +kernel
theorem dX8_heardOf_31 : decode cX8_heardOf 31 = .ok (.getfield 16, 3) := by decide +kernel
theorem dX8_heardOf_34 : decode cX8_heardOf 34 = .ok (.iload 7, 2) := by decide +kernel
theorem dX8_heardOf_36 : decode cX8_heardOf 36 = .ok (.iaload, 1) := by decide +kernel
theorem dX8_heardOf_37 : decode cX8_heardOf 37 = .ok (.iload_n 3, 1) := by decide +kernel
theorem dX8_heardOf_38 : decode cX8_heardOf 38 = .ok (.if_icmp .ne 50, 3) := by decide +kernel
theorem dX8_heardOf_41 : decode cX8_heardOf 41 = .ok (.iload_n 2, 1) := by decide +kernel
theorem dX8_heardOf_42 : decode cX8_heardOf 42 = .ok (.iload 7, 2) := by decide +kernel
theorem dX8_heardOf_44 : decode cX8_heardOf 44 = .ok (.ishr, 1) := by decide +kernel
theorem dX8_heardOf_45 : decode cX8_heardOf 45 = .ok (.iconst 1, 1) := by decide +kernel
theorem dX8_heardOf_46 : decode cX8_heardOf 46 = .ok (.iand, 1) := by decide +kernel
theorem dX8_heardOf_47 : decode cX8_heardOf 47 = .ok (.iconst 1, 1) := by decide +kernel
theorem dX8_heardOf_48 : decode cX8_heardOf 48 = .ok (.if_icmp .ne 40, 3) := by decide +kernel
theorem dX8_heardOf_51 : decode cX8_heardOf 51 = .ok (.aload_n 0, 1) := by decide +kernel
theorem dX8_heardOf_52 : decode cX8_heardOf 52 = .ok (.iload 7, 2) := by decide +kernel
theorem dX8_heardOf_54 : decode cX8_heardOf 54 = .ok (.iload 4, 2) := by decide +kernel
theorem dX8_heardOf_56 : decode cX8_heardOf 56 = .ok (.invokevirtual 124, 3) := by decide +kernel
theorem dX8_heardOf_59 : decode cX8_heardOf 59 = .ok (.istore 8, 2) := by decide +kernel
theorem dX8_heardOf_61 : decode cX8_heardOf 61 = .ok (.iload 6, 2) := by decide +kernel
theorem dX8_heardOf_63 : decode cX8_heardOf 63 = .ok (.iload_n 1, 1) := by decide +kernel
theorem dX8_heardOf_64 : decode cX8_heardOf 64 = .ok (.iload 8, 2) := by decide +kernel
theorem dX8_heardOf_66 : decode cX8_heardOf 66 = .ok (.iload 5, 2) := by decide +kernel
theorem dX8_heardOf_68 : decode cX8_heardOf 68 = .ok (.iload 8, 2) := by decide +kernel
theorem dX8_heardOf_70 : decode cX8_heardOf 70 = .ok (.isub, 1) := by decide +kernel
theorem dX8_heardOf_71 : decode cX8_heardOf 71 = .ok (.invokestatic 130, 3) := by decide +kernel
theorem dX8_heardOf_74 : decode cX8_heardOf 74 = .ok (.ifCond .eq 10, 3) := by decide +kernel
theorem dX8_heardOf_77 : decode cX8_heardOf 77 = .ok (.iconst 1, 1) := by decide +kernel
theorem dX8_heardOf_78 : decode cX8_heardOf 78 = .ok (.iload 7, 2) := by decide +kernel
theorem dX8_heardOf_80 : decode cX8_heardOf 80 = .ok (.ishl, 1) := by decide +kernel
theorem dX8_heardOf_81 : decode cX8_heardOf 81 = .ok (.goto 4, 3) := by decide +kernel
theorem dX8_heardOf_84 : decode cX8_heardOf 84 = .ok (.iconst 0, 1) := by decide +kernel
theorem dX8_heardOf_85 : decode cX8_heardOf 85 = .ok (.ior, 1) := by decide +kernel
theorem dX8_heardOf_86 : decode cX8_heardOf 86 = .ok (.istore 6, 2) := by decide +kernel
theorem dX8_heardOf_88 : decode cX8_heardOf 88 = .ok (.iinc 7 1, 3) := by decide +kernel
theorem dX8_heardOf_91 : decode cX8_heardOf 91 = .ok (.goto (-75), 3) := by decide +kernel
theorem dX8_heardOf_94 : decode cX8_heardOf 94 = .ok (.iload 6, 2) := by decide +kernel
theorem dX8_heardOf_96 : decode cX8_heardOf 96 = .ok (.ireturn, 1) := by decide +kernel
theorem dX8_heardIn_0 : decode cX8_heardIn 0 = .ok (.aload_n 0, 1) := by decide +kernel
theorem dX8_heardIn_1 : decode cX8_heardIn 1 = .ok (.aload_n 0, 1) := by decide +kernel
theorem dX8_heardIn_2 : decode cX8_heardIn 2 = .ok (.getfield 22, 3) := by decide +kernel
theorem dX8_heardIn_5 : decode cX8_heardIn 5 = .ok (.iload_n 1, 1) := by decide +kernel
theorem dX8_heardIn_6 : decode cX8_heardIn 6 = .ok (.iaload, 1) := by decide +kernel
theorem dX8_heardIn_7 : decode cX8_heardIn 7 = .ok (.sipush 255, 3) := by decide +kernel
theorem dX8_heardIn_10 : decode cX8_heardIn 10 = .ok (.iload_n 2, 1) := by decide +kernel
theorem dX8_heardIn_11 : decode cX8_heardIn 11 = .ok (.iload_n 3, 1) := by decide +kernel
theorem dX8_heardIn_12 : decode cX8_heardIn 12 = .ok (.invokevirtual 134, 3) := by decide +kernel
theorem dX8_heardIn_15 : decode cX8_heardIn 15 = .ok (.ireturn, 1) := by decide +kernel
theorem dX8_heardNow_0 : decode cX8_heardNow 0 = .ok (.aload_n 0, 1) := by decide +kernel
theorem dX8_heardNow_1 : decode cX8_heardNow 1 = .ok (.iload_n 1, 1) := by decide +kernel
theorem dX8_heardNow_2 : decode cX8_heardNow 2 = .ok (.aload_n 0, 1) := by decide +kernel
theorem dX8_heardNow_3 : decode cX8_heardNow 3 = .ok (.getfield 25, 3) := by decide +kernel
theorem dX8_heardNow_6 : decode cX8_heardNow 6 = .ok (.iconst 5, 1) := by decide +kernel
theorem dX8_heardNow_7 : decode cX8_heardNow 7 = .ok (.iload_n 1, 1) := by decide +kernel
theorem dX8_heardNow_8 : decode cX8_heardNow 8 = .ok (.iadd, 1) := by decide +kernel
theorem dX8_heardNow_9 : decode cX8_heardNow 9 = .ok (.iaload, 1) := by decide +kernel
theorem dX8_heardNow_10 : decode cX8_heardNow 10 = .ok (.aload_n 0, 1) := by decide +kernel
theorem dX8_heardNow_11 : decode cX8_heardNow 11 = .ok (.aload_n 0, 1) := by decide +kernel
theorem dX8_heardNow_12 : decode cX8_heardNow 12 = .ok (.getfield 25, 3) := by decide +kernel
theorem dX8_heardNow_15 : decode cX8_heardNow 15 = .ok (.iconst 5, 1) := by decide +kernel
theorem dX8_heardNow_16 : decode cX8_heardNow 16 = .ok (.iload_n 1, 1) := by decide +kernel
theorem dX8_heardNow_17 : decode cX8_heardNow 17 = .ok (.iadd, 1) := by decide +kernel
theorem dX8_heardNow_18 : decode cX8_heardNow 18 = .ok (.iaload, 1) := by decide +kernel
theorem dX8_heardNow_19 : decode cX8_heardNow 19 = .ok (.invokevirtual 138, 3) := by decide +kernel
theorem dX8_heardNow_22 : decode cX8_heardNow 22 = .ok (.invokevirtual 142, 3) := by decide +kernel
theorem dX8_heardNow_25 : decode cX8_heardNow 25 = .ok (.ireturn, 1) := by decide +kernel
theorem dX8_many_0 : decode cX8_many 0 = .ok (.iconst 0, 1) := by decide +kernel
theorem dX8_many_1 : decode cX8_many 1 = .ok (.istore_n 1, 1) := by decide +kernel
theorem dX8_many_2 : decode cX8_many 2 = .ok (.iload_n 0, 1) := by decide +kernel
theorem dX8_many_3 : decode cX8_many 3 = .ok (.istore_n 2, 1) := by decide +kernel
theorem dX8_many_4 : decode cX8_many 4 = .ok (.iload_n 2, 1) := by decide +kernel
theorem dX8_many_5 : decode cX8_many 5 = .ok (.ifCond .eq 15, 3) := by decide +kernel
theorem dX8_many_8 : decode cX8_many 8 = .ok (.iinc 1 1, 3) := by decide +kernel
theorem dX8_many_11 : decode cX8_many 11 = .ok (.iload_n 2, 1) := by decide +kernel
theorem dX8_many_12 : decode cX8_many 12 = .ok (.iload_n 2, 1) := by decide +kernel
theorem dX8_many_13 : decode cX8_many 13 = .ok (.iconst 1, 1) := by decide +kernel
theorem dX8_many_14 : decode cX8_many 14 = .ok (.isub, 1) := by decide +kernel
theorem dX8_many_15 : decode cX8_many 15 = .ok (.iand, 1) := by decide +kernel
theorem dX8_many_16 : decode cX8_many 16 = .ok (.istore_n 2, 1) := by decide +kernel
theorem dX8_many_17 : decode cX8_many 17 = .ok (.goto (-13), 3) := by decide +kernel
theorem dX8_many_20 : decode cX8_many 20 = .ok (.iload_n 1, 1) := by decide +kernel
theorem dX8_many_21 : decode cX8_many 21 = .ok (.ireturn, 1) := by decide +kernel
theorem dX8_knownByAll_0 : decode cX8_knownByAll 0 = .ok (.aload_n 0, 1) := by decide +kernel
theorem dX8_knownByAll_1 : decode cX8_knownByAll 1 = .ok (.getfield 25, 3) := by decide +kernel
theorem dX8_knownByAll_4 : decode cX8_knownByAll 4 = .ok (.bipush 8, 2) := by decide +kernel
theorem dX8_knownByAll_6 : decode cX8_knownByAll 6 = .ok (.iaload, 1) := by decide +kernel
theorem dX8_knownByAll_7 : decode cX8_knownByAll 7 = .ok (.aload_n 0, 1) := by decide +kernel
theorem dX8_knownByAll_8 : decode cX8_knownByAll 8 = .ok (.getfield 25, 3) := by decide +kernel
theorem dX8_knownByAll_11 : decode cX8_knownByAll 11 = .ok (.bipush 9, 2) := by decide +kernel
theorem dX8_knownByAll_13 : decode cX8_knownByAll 13 = .ok (.iaload, 1) := by decide +kernel
theorem dX8_knownByAll_14 : decode cX8_knownByAll 14 = .ok (.ior, 1) := by decide +kernel
theorem dX8_knownByAll_15 : decode cX8_knownByAll 15 = .ok (.aload_n 0, 1) := by decide +kernel
theorem dX8_knownByAll_16 : decode cX8_knownByAll 16 = .ok (.getfield 25, 3) := by decide +kernel
theorem dX8_knownByAll_19 : decode cX8_knownByAll 19 = .ok (.bipush 10, 2) := by decide +kernel
theorem dX8_knownByAll_21 : decode cX8_knownByAll 21 = .ok (.iaload, 1) := by decide +kernel
theorem dX8_knownByAll_22 : decode cX8_knownByAll 22 = .ok (.ior, 1) := by decide +kernel
theorem dX8_knownByAll_23 : decode cX8_knownByAll 23 = .ok (.invokestatic 145, 3) := by decide +kernel
theorem dX8_knownByAll_26 : decode cX8_knownByAll 26 = .ok (.ireturn, 1) := by decide +kernel
theorem dX8_goesBy_0 : decode cX8_goesBy 0 = .ok (.iconst 0, 1) := by decide +kernel
theorem dX8_goesBy_1 : decode cX8_goesBy 1 = .ok (.istore_n 1, 1) := by decide +kernel
theorem dX8_goesBy_2 : decode cX8_goesBy 2 = .ok (.iload_n 1, 1) := by decide +kernel
theorem dX8_goesBy_3 : decode cX8_goesBy 3 = .ok (.aload_n 0, 1) := by decide +kernel
theorem dX8_goesBy_4 : decode cX8_goesBy 4 = .ok (.getfield 76, 3) := by decide +kernel
theorem dX8_goesBy_7 : decode cX8_goesBy 7 = .ok (.if_icmp .ge 26, 3) := by decide +kernel
theorem dX8_goesBy_10 : decode cX8_goesBy 10 = .ok (.aload_n 0, 1) := by decide +kernel
theorem dX8_goesBy_11 : decode cX8_goesBy 11 = .ok (.getfield 25, 3) := by decide +kernel
theorem dX8_goesBy_14 : decode cX8_goesBy 14 = .ok (.bipush 8, 2) := by decide +kernel
theorem dX8_goesBy_16 : decode cX8_goesBy 16 = .ok (.iload_n 1, 1) := by decide +kernel
theorem dX8_goesBy_17 : decode cX8_goesBy 17 = .ok (.iadd, 1) := by decide +kernel
theorem dX8_goesBy_18 : decode cX8_goesBy 18 = .ok (.dup2, 1) := by decide +kernel
theorem dX8_goesBy_19 : decode cX8_goesBy 19 = .ok (.iaload, 1) := by decide +kernel
theorem dX8_goesBy_20 : decode cX8_goesBy 20 = .ok (.aload_n 0, 1) := by decide +kernel
theorem dX8_goesBy_21 : decode cX8_goesBy 21 = .ok (.iload_n 1, 1) := by decide +kernel
theorem dX8_goesBy_22 : decode cX8_goesBy 22 = .ok (.invokevirtual 148, 3) := by decide +kernel
theorem dX8_goesBy_25 : decode cX8_goesBy 25 = .ok (.ior, 1) := by decide +kernel
theorem dX8_goesBy_26 : decode cX8_goesBy 26 = .ok (.iastore, 1) := by decide +kernel
theorem dX8_goesBy_27 : decode cX8_goesBy 27 = .ok (.iinc 1 1, 3) := by decide +kernel
theorem dX8_goesBy_30 : decode cX8_goesBy 30 = .ok (.goto (-28), 3) := by decide +kernel
theorem dX8_goesBy_33 : decode cX8_goesBy 33 = .ok (.aload_n 0, 1) := by decide +kernel
theorem dX8_goesBy_34 : decode cX8_goesBy 34 = .ok (.getfield 25, 3) := by decide +kernel
theorem dX8_goesBy_37 : decode cX8_goesBy 37 = .ok (.iconst 0, 1) := by decide +kernel
theorem dX8_goesBy_38 : decode cX8_goesBy 38 = .ok (.dup2, 1) := by decide +kernel
theorem dX8_goesBy_39 : decode cX8_goesBy 39 = .ok (.iaload, 1) := by decide +kernel
theorem dX8_goesBy_40 : decode cX8_goesBy 40 = .ok (.iconst 1, 1) := by decide +kernel
theorem dX8_goesBy_41 : decode cX8_goesBy 41 = .ok (.iadd, 1) := by decide +kernel
theorem dX8_goesBy_42 : decode cX8_goesBy 42 = .ok (.iastore, 1) := by decide +kernel
theorem dX8_goesBy_43 : decode cX8_goesBy 43 = .ok (.return_, 1) := by decide +kernel
theorem dX8_goMinutes_0 : decode cX8_goMinutes 0 = .ok (.iconst 0, 1) := by decide +kernel
theorem dX8_goMinutes_1 : decode cX8_goMinutes 1 = .ok (.istore_n 2, 1) := by decide +kernel
theorem dX8_goMinutes_2 : decode cX8_goMinutes 2 = .ok (.iload_n 2, 1) := by decide +kernel
theorem dX8_goMinutes_3 : decode cX8_goMinutes 3 = .ok (.iload_n 1, 1) := by decide +kernel
theorem dX8_goMinutes_4 : decode cX8_goMinutes 4 = .ok (.if_icmp .ge 25, 3) := by decide +kernel
theorem dX8_goMinutes_7 : decode cX8_goMinutes 7 = .ok (.aload_n 0, 1) := by decide +kernel
theorem dX8_goMinutes_8 : decode cX8_goMinutes 8 = .ok (.getfield 25, 3) := by decide +kernel
theorem dX8_goMinutes_11 : decode cX8_goMinutes 11 = .ok (.iconst 0, 1) := by decide +kernel
theorem dX8_goMinutes_12 : decode cX8_goMinutes 12 = .ok (.iaload, 1) := by decide +kernel
theorem dX8_goMinutes_13 : decode cX8_goMinutes 13 = .ok (.sipush 9999, 3) := by decide +kernel
theorem dX8_goMinutes_16 : decode cX8_goMinutes 16 = .ok (.if_icmp .ge 13, 3) := by decide +kernel
theorem dX8_goMinutes_19 : decode cX8_goMinutes 19 = .ok (.aload_n 0, 1) := by decide +kernel
theorem dX8_goMinutes_20 : decode cX8_goMinutes 20 = .ok (.invokevirtual 151, 3) := by decide +kernel
theorem dX8_goMinutes_23 : decode cX8_goMinutes 23 = .ok (.iinc 2 1, 3) := by decide +kernel
theorem dX8_goMinutes_26 : decode cX8_goMinutes 26 = .ok (.goto (-24), 3) := by decide +kernel
theorem dX8_goMinutes_29 : decode cX8_goMinutes 29 = .ok (.return_, 1) := by decide +kernel
theorem dX8_type_0 : decode cX8_type 0 = .ok (.iload_n 1, 1) := by decide +kernel
theorem dX8_type_1 : decode cX8_type 1 = .ok (.i2l, 1) := by decide +kernel
theorem dX8_type_2 : decode cX8_type 2 = .ok (.lconst 0, 1) := by decide +kernel
theorem dX8_type_3 : decode cX8_type 3 = .ok (.ldc2_w 154, 3) := by decide +kernel
theorem dX8_type_6 : decode cX8_type 6 = .ok (.invokestatic 68, 3) := by decide +kernel
theorem dX8_type_9 : decode cX8_type 9 = .ok (.ifCond .ne 8, 3) := by decide +kernel
theorem dX8_type_12 : decode cX8_type 12 = .ok (.aload_n 0, 1) := by decide +kernel
theorem dX8_type_13 : decode cX8_type 13 = .ok (.invokevirtual 101, 3) := by decide +kernel
theorem dX8_type_16 : decode cX8_type 16 = .ok (.ireturn, 1) := by decide +kernel
theorem dX8_type_17 : decode cX8_type 17 = .ok (.aload_n 0, 1) := by decide +kernel
theorem dX8_type_18 : decode cX8_type 18 = .ok (.getfield 156, 3) := by decide +kernel
theorem dX8_type_21 : decode cX8_type 21 = .ok (.sipush 150, 3) := by decide +kernel
theorem dX8_type_24 : decode cX8_type 24 = .ok (.if_icmp .ne 8, 3) := by decide +kernel
theorem dX8_type_27 : decode cX8_type 27 = .ok (.aload_n 0, 1) := by decide +kernel
theorem dX8_type_28 : decode cX8_type 28 = .ok (.invokevirtual 105, 3) := by decide +kernel
theorem dX8_type_31 : decode cX8_type 31 = .ok (.ireturn, 1) := by decide +kernel
theorem dX8_type_32 : decode cX8_type 32 = .ok (.aload_n 0, 1) := by decide +kernel
theorem dX8_type_33 : decode cX8_type 33 = .ok (.getfield 28, 3) := by decide +kernel
theorem dX8_type_36 : decode cX8_type 36 = .ok (.aload_n 0, 1) := by decide +kernel
theorem dX8_type_37 : decode cX8_type 37 = .ok (.getfield 156, 3) := by decide +kernel
theorem dX8_type_40 : decode cX8_type 40 = .ok (.iload_n 1, 1) := by decide +kernel
theorem dX8_type_41 : decode cX8_type 41 = .ok (.iastore, 1) := by decide +kernel
theorem dX8_type_42 : decode cX8_type 42 = .ok (.aload_n 0, 1) := by decide +kernel
theorem dX8_type_43 : decode cX8_type 43 = .ok (.dup, 1) := by decide +kernel
theorem dX8_type_44 : decode cX8_type 44 = .ok (.getfield 156, 3) := by decide +kernel
theorem dX8_type_47 : decode cX8_type 47 = .ok (.iconst 1, 1) := by decide +kernel
theorem dX8_type_48 : decode cX8_type 48 = .ok (.iadd, 1) := by decide +kernel
theorem dX8_type_49 : decode cX8_type 49 = .ok (.putfield 156, 3) := by decide +kernel
theorem dX8_type_52 : decode cX8_type 52 = .ok (.aload_n 0, 1) := by decide +kernel
theorem dX8_type_53 : decode cX8_type 53 = .ok (.getfield 156, 3) := by decide +kernel
theorem dX8_type_56 : decode cX8_type 56 = .ok (.ireturn, 1) := by decide +kernel
theorem dX8_clear_0 : decode cX8_clear 0 = .ok (.aload_n 0, 1) := by decide +kernel
theorem dX8_clear_1 : decode cX8_clear 1 = .ok (.getfield 156, 3) := by decide +kernel
theorem dX8_clear_4 : decode cX8_clear 4 = .ok (.istore_n 1, 1) := by decide +kernel
theorem dX8_clear_5 : decode cX8_clear 5 = .ok (.aload_n 0, 1) := by decide +kernel
theorem dX8_clear_6 : decode cX8_clear 6 = .ok (.iconst 0, 1) := by decide +kernel
theorem dX8_clear_7 : decode cX8_clear 7 = .ok (.putfield 156, 3) := by decide +kernel
theorem dX8_clear_10 : decode cX8_clear 10 = .ok (.iload_n 1, 1) := by decide +kernel
theorem dX8_clear_11 : decode cX8_clear 11 = .ok (.ireturn, 1) := by decide +kernel
theorem dX8_byteAt_0 : decode cX8_byteAt 0 = .ok (.iload_n 1, 1) := by decide +kernel
theorem dX8_byteAt_1 : decode cX8_byteAt 1 = .ok (.aload_n 0, 1) := by decide +kernel
theorem dX8_byteAt_2 : decode cX8_byteAt 2 = .ok (.getfield 156, 3) := by decide +kernel
theorem dX8_byteAt_5 : decode cX8_byteAt 5 = .ok (.if_icmp .ge 12, 3) := by decide +kernel
theorem dX8_byteAt_8 : decode cX8_byteAt 8 = .ok (.aload_n 0, 1) := by decide +kernel
theorem dX8_byteAt_9 : decode cX8_byteAt 9 = .ok (.getfield 28, 3) := by decide +kernel
theorem dX8_byteAt_12 : decode cX8_byteAt 12 = .ok (.iload_n 1, 1) := by decide +kernel
theorem dX8_byteAt_13 : decode cX8_byteAt 13 = .ok (.iaload, 1) := by decide +kernel
theorem dX8_byteAt_14 : decode cX8_byteAt 14 = .ok (.goto 4, 3) := by decide +kernel
theorem dX8_byteAt_17 : decode cX8_byteAt 17 = .ok (.iconst (-1), 1) := by decide +kernel
theorem dX8_byteAt_18 : decode cX8_byteAt 18 = .ok (.ireturn, 1) := by decide +kernel
theorem dX8_skips_0 : decode cX8_skips 0 = .ok (.aload_n 0, 1) := by decide +kernel
theorem dX8_skips_1 : decode cX8_skips 1 = .ok (.aload_n 0, 1) := by decide +kernel
theorem dX8_skips_2 : decode cX8_skips 2 = .ok (.getfield 159, 3) := by decide +kernel
theorem dX8_skips_5 : decode cX8_skips 5 = .ok (.invokevirtual 162, 3) := by decide +kernel
theorem dX8_skips_8 : decode cX8_skips 8 = .ok (.bipush 32, 2) := by decide +kernel
theorem dX8_skips_10 : decode cX8_skips 10 = .ok (.if_icmp .ne 16, 3) := by decide +kernel
theorem dX8_skips_13 : decode cX8_skips 13 = .ok (.aload_n 0, 1) := by decide +kernel
theorem dX8_skips_14 : decode cX8_skips 14 = .ok (.dup, 1) := by decide +kernel
theorem dX8_skips_15 : decode cX8_skips 15 = .ok (.getfield 159, 3) := by decide +kernel
theorem dX8_skips_18 : decode cX8_skips 18 = .ok (.iconst 1, 1) := by decide +kernel
theorem dX8_skips_19 : decode cX8_skips 19 = .ok (.iadd, 1) := by decide +kernel
theorem dX8_skips_20 : decode cX8_skips 20 = .ok (.putfield 159, 3) := by decide +kernel
theorem dX8_skips_23 : decode cX8_skips 23 = .ok (.goto (-23), 3) := by decide +kernel
theorem dX8_skips_26 : decode cX8_skips 26 = .ok (.return_, 1) := by decide +kernel
theorem dX8_faults_0 : decode cX8_faults 0 = .ok (.aload_n 0, 1) := by decide +kernel
theorem dX8_faults_1 : decode cX8_faults 1 = .ok (.aload_n 0, 1) := by decide +kernel
theorem dX8_faults_2 : decode cX8_faults 2 = .ok (.getfield 165, 3) := by decide +kernel
theorem dX8_faults_5 : decode cX8_faults 5 = .ok (.ifCond .ge 7, 3) := by decide +kernel
theorem dX8_faults_8 : decode cX8_faults 8 = .ok (.iload_n 1, 1) := by decide +kernel
theorem dX8_faults_9 : decode cX8_faults 9 = .ok (.goto 7, 3) := by decide +kernel
theorem dX8_faults_12 : decode cX8_faults 12 = .ok (.aload_n 0, 1) := by decide +kernel
theorem dX8_faults_13 : decode cX8_faults 13 = .ok (.getfield 165, 3) := by decide +kernel
theorem dX8_faults_16 : decode cX8_faults 16 = .ok (.putfield 165, 3) := by decide +kernel
theorem dX8_faults_19 : decode cX8_faults 19 = .ok (.return_, 1) := by decide +kernel
theorem dX8_isLetter_0 : decode cX8_isLetter 0 = .ok (.iload_n 0, 1) := by decide +kernel
theorem dX8_isLetter_1 : decode cX8_isLetter 1 = .ok (.i2l, 1) := by decide +kernel
theorem dX8_isLetter_2 : decode cX8_isLetter 2 = .ok (.ldc2_w 168, 3) := by decide +kernel
theorem dX8_isLetter_5 : decode cX8_isLetter 5 = .ok (.ldc2_w 170, 3) := by decide +kernel
theorem dX8_isLetter_8 : decode cX8_isLetter 8 = .ok (.invokestatic 68, 3) := by decide +kernel
theorem dX8_isLetter_11 : decode cX8_isLetter 11 = .ok (.ireturn, 1) := by decide +kernel
theorem dX8_isFigure_0 : decode cX8_isFigure 0 = .ok (.iload_n 0, 1) := by decide +kernel
theorem dX8_isFigure_1 : decode cX8_isFigure 1 = .ok (.i2l, 1) := by decide +kernel
theorem dX8_isFigure_2 : decode cX8_isFigure 2 = .ok (.ldc2_w 172, 3) := by decide +kernel
theorem dX8_isFigure_5 : decode cX8_isFigure 5 = .ok (.ldc2_w 174, 3) := by decide +kernel
theorem dX8_isFigure_8 : decode cX8_isFigure 8 = .ok (.invokestatic 68, 3) := by decide +kernel
theorem dX8_isFigure_11 : decode cX8_isFigure 11 = .ok (.ireturn, 1) := by decide +kernel
theorem dX8_word_0 : decode cX8_word 0 = .ok (.lconst 0, 1) := by decide +kernel
theorem dX8_word_1 : decode cX8_word 1 = .ok (.lstore_n 1, 1) := by decide +kernel
theorem dX8_word_2 : decode cX8_word 2 = .ok (.aload_n 0, 1) := by decide +kernel
theorem dX8_word_3 : decode cX8_word 3 = .ok (.aload_n 0, 1) := by decide +kernel
theorem dX8_word_4 : decode cX8_word 4 = .ok (.getfield 159, 3) := by decide +kernel
theorem dX8_word_7 : decode cX8_word 7 = .ok (.invokevirtual 162, 3) := by decide +kernel
theorem dX8_word_10 : decode cX8_word 10 = .ok (.invokestatic 176, 3) := by decide +kernel
theorem dX8_word_13 : decode cX8_word 13 = .ok (.ifCond .eq 48, 3) := by decide +kernel
theorem dX8_word_16 : decode cX8_word 16 = .ok (.lload_n 1, 1) := by decide +kernel
theorem dX8_word_17 : decode cX8_word 17 = .ok (.ldc2_w 179, 3) := by decide +kernel
theorem dX8_word_20 : decode cX8_word 20 = .ok (.lcmp, 1) := by decide +kernel
theorem dX8_word_21 : decode cX8_word 21 = .ok (.ifCond .ge 25, 3) := by decide +kernel
theorem dX8_word_24 : decode cX8_word 24 = .ok (.ldc2_w 181, 3) := by decide +kernel
theorem dX8_word_27 : decode cX8_word 27 = .ok (.lload_n 1, 1) := by decide +kernel
theorem dX8_word_28 : decode cX8_word 28 = .ok (.lmul, 1) := by decide +kernel
theorem dX8_word_29 : decode cX8_word 29 = .ok (.aload_n 0, 1) := by decide +kernel
theorem dX8_word_30 : decode cX8_word 30 = .ok (.aload_n 0, 1) := by decide +kernel
theorem dX8_word_31 : decode cX8_word 31 = .ok (.getfield 159, 3) := by decide +kernel
theorem dX8_word_34 : decode cX8_word 34 = .ok (.invokevirtual 162, 3) := by decide +kernel
theorem dX8_word_37 : decode cX8_word 37 = .ok (.i2l, 1) := by decide +kernel
theorem dX8_word_38 : decode cX8_word 38 = .ok (.ladd, 1) := by decide +kernel
theorem dX8_word_39 : decode cX8_word 39 = .ok (.ldc2_w 183, 3) := by decide +kernel
theorem dX8_word_42 : decode cX8_word 42 = .ok (.lsub, 1) := by decide +kernel
theorem dX8_word_43 : decode cX8_word 43 = .ok (.goto 4, 3) := by decide +kernel
theorem dX8_word_46 : decode cX8_word 46 = .ok (.lload_n 1, 1) := by decide +kernel
theorem dX8_word_47 : decode cX8_word 47 = .ok (.lstore_n 1, 1) := by decide +kernel
theorem dX8_word_48 : decode cX8_word 48 = .ok (.aload_n 0, 1) := by decide +kernel
theorem dX8_word_49 : decode cX8_word 49 = .ok (.dup, 1) := by decide +kernel
theorem dX8_word_50 : decode cX8_word 50 = .ok (.getfield 159, 3) := by decide +kernel
theorem dX8_word_53 : decode cX8_word 53 = .ok (.iconst 1, 1) := by decide +kernel
theorem dX8_word_54 : decode cX8_word 54 = .ok (.iadd, 1) := by decide +kernel
theorem dX8_word_55 : decode cX8_word 55 = .ok (.putfield 159, 3) := by decide +kernel
theorem dX8_word_58 : decode cX8_word 58 = .ok (.goto (-56), 3) := by decide +kernel
theorem dX8_word_61 : decode cX8_word 61 = .ok (.lload_n 1, 1) := by decide +kernel
theorem dX8_word_62 : decode cX8_word 62 = .ok (.lreturn, 1) := by decide +kernel
theorem dX8_letters_0 : decode cX8_letters 0 = .ok (.iload_n 0, 1) := by decide +kernel
theorem dX8_letters_1 : decode cX8_letters 1 = .ok (.i2l, 1) := by decide +kernel
theorem dX8_letters_2 : decode cX8_letters 2 = .ok (.lstore 5, 2) := by decide +kernel
theorem dX8_letters_4 : decode cX8_letters 4 = .ok (.iload_n 1, 1) := by decide +kernel
theorem dX8_letters_5 : decode cX8_letters 5 = .ok (.ifCond .le 15, 3) := by decide +kernel
theorem dX8_letters_8 : decode cX8_letters 8 = .ok (.ldc2_w 181, 3) := by decide +kernel
theorem dX8_letters_11 : decode cX8_letters 11 = .ok (.lload 5, 2) := by decide +kernel
theorem dX8_letters_13 : decode cX8_letters 13 = .ok (.lmul, 1) := by decide +kernel
theorem dX8_letters_14 : decode cX8_letters 14 = .ok (.iload_n 1, 1) := by decide +kernel
theorem dX8_letters_15 : decode cX8_letters 15 = .ok (.i2l, 1) := by decide +kernel
theorem dX8_letters_16 : decode cX8_letters 16 = .ok (.ladd, 1) := by decide +kernel
theorem dX8_letters_17 : decode cX8_letters 17 = .ok (.goto 5, 3) := by decide +kernel
theorem dX8_letters_20 : decode cX8_letters 20 = .ok (.lload 5, 2) := by decide +kernel
theorem dX8_letters_22 : decode cX8_letters 22 = .ok (.lstore 5, 2) := by decide +kernel
theorem dX8_letters_24 : decode cX8_letters 24 = .ok (.iload_n 2, 1) := by decide +kernel
theorem dX8_letters_25 : decode cX8_letters 25 = .ok (.ifCond .le 15, 3) := by decide +kernel
theorem dX8_letters_28 : decode cX8_letters 28 = .ok (.ldc2_w 181, 3) := by decide +kernel
theorem dX8_letters_31 : decode cX8_letters 31 = .ok (.lload 5, 2) := by decide +kernel
theorem dX8_letters_33 : decode cX8_letters 33 = .ok (.lmul, 1) := by decide +kernel
theorem dX8_letters_34 : decode cX8_letters 34 = .ok (.iload_n 2, 1) := by decide +kernel
theorem dX8_letters_35 : decode cX8_letters 35 = .ok (.i2l, 1) := by decide +kernel
theorem dX8_letters_36 : decode cX8_letters 36 = .ok (.ladd, 1) := by decide +kernel
theorem dX8_letters_37 : decode cX8_letters 37 = .ok (.goto 5, 3) := by decide +kernel
theorem dX8_letters_40 : decode cX8_letters 40 = .ok (.lload 5, 2) := by decide +kernel
theorem dX8_letters_42 : decode cX8_letters 42 = .ok (.lstore 5, 2) := by decide +kernel
theorem dX8_letters_44 : decode cX8_letters 44 = .ok (.iload_n 3, 1) := by decide +kernel
theorem dX8_letters_45 : decode cX8_letters 45 = .ok (.ifCond .le 15, 3) := by decide +kernel
theorem dX8_letters_48 : decode cX8_letters 48 = .ok (.ldc2_w 181, 3) := by decide +kernel
theorem dX8_letters_51 : decode cX8_letters 51 = .ok (.lload 5, 2) := by decide +kernel
theorem dX8_letters_53 : decode cX8_letters 53 = .ok (.lmul, 1) := by decide +kernel
theorem dX8_letters_54 : decode cX8_letters 54 = .ok (.iload_n 3, 1) := by decide +kernel
theorem dX8_letters_55 : decode cX8_letters 55 = .ok (.i2l, 1) := by decide +kernel
theorem dX8_letters_56 : decode cX8_letters 56 = .ok (.ladd, 1) := by decide +kernel
theorem dX8_letters_57 : decode cX8_letters 57 = .ok (.goto 5, 3) := by decide +kernel
theorem dX8_letters_60 : decode cX8_letters 60 = .ok (.lload 5, 2) := by decide +kernel
theorem dX8_letters_62 : decode cX8_letters 62 = .ok (.lstore 5, 2) := by decide +kernel
theorem dX8_letters_64 : decode cX8_letters 64 = .ok (.iload 4, 2) := by decide +kernel
theorem dX8_letters_66 : decode cX8_letters 66 = .ok (.ifCond .le 16, 3) := by decide +kernel
theorem dX8_letters_69 : decode cX8_letters 69 = .ok (.ldc2_w 181, 3) := by decide +kernel
theorem dX8_letters_72 : decode cX8_letters 72 = .ok (.lload 5, 2) := by decide +kernel
theorem dX8_letters_74 : decode cX8_letters 74 = .ok (.lmul, 1) := by decide +kernel
theorem dX8_letters_75 : decode cX8_letters 75 = .ok (.iload 4, 2) := by decide +kernel
theorem dX8_letters_77 : decode cX8_letters 77 = .ok (.i2l, 1) := by decide +kernel
theorem dX8_letters_78 : decode cX8_letters 78 = .ok (.ladd, 1) := by decide +kernel
theorem dX8_letters_79 : decode cX8_letters 79 = .ok (.goto 5, 3) := by decide +kernel
theorem dX8_letters_82 : decode cX8_letters 82 = .ok (.lload 5, 2) := by decide +kernel
theorem dX8_letters_84 : decode cX8_letters 84 = .ok (.lreturn, 1) := by decide +kernel
theorem dX8_itemBy_0 : decode cX8_itemBy 0 = .ok (.bipush 13, 2) := by decide +kernel
theorem dX8_itemBy_2 : decode cX8_itemBy 2 = .ok (.bipush 9, 2) := by decide +kernel
theorem dX8_itemBy_4 : decode cX8_itemBy 4 = .ok (.bipush 14, 2) := by decide +kernel
theorem dX8_itemBy_6 : decode cX8_itemBy 6 = .ok (.bipush 21, 2) := by decide +kernel
theorem dX8_itemBy_8 : decode cX8_itemBy 8 = .ok (.bipush 20, 2) := by decide +kernel
theorem dX8_itemBy_10 : decode cX8_itemBy 10 = .ok (.invokestatic 185, 3) := by decide +kernel
theorem dX8_itemBy_13 : decode cX8_itemBy 13 = .ok (.ldc2_w 181, 3) := by decide +kernel
theorem dX8_itemBy_16 : decode cX8_itemBy 16 = .ok (.lmul, 1) := by decide +kernel
theorem dX8_itemBy_17 : decode cX8_itemBy 17 = .ok (.ldc2_w 93, 3) := by decide +kernel
theorem dX8_itemBy_20 : decode cX8_itemBy 20 = .ok (.ladd, 1) := by decide +kernel
theorem dX8_itemBy_21 : decode cX8_itemBy 21 = .ok (.ldc2_w 181, 3) := by decide +kernel
theorem dX8_itemBy_24 : decode cX8_itemBy 24 = .ok (.lmul, 1) := by decide +kernel
theorem dX8_itemBy_25 : decode cX8_itemBy 25 = .ok (.ldc2_w 189, 3) := by decide +kernel
theorem dX8_itemBy_28 : decode cX8_itemBy 28 = .ok (.ladd, 1) := by decide +kernel
theorem dX8_itemBy_29 : decode cX8_itemBy 29 = .ok (.lstore_n 2, 1) := by decide +kernel
theorem dX8_itemBy_30 : decode cX8_itemBy 30 = .ok (.lload_n 0, 1) := by decide +kernel
theorem dX8_itemBy_31 : decode cX8_itemBy 31 = .ok (.bipush 8, 2) := by decide +kernel
theorem dX8_itemBy_33 : decode cX8_itemBy 33 = .ok (.bipush 15, 2) := by decide +kernel
theorem dX8_itemBy_35 : decode cX8_itemBy 35 = .ok (.bipush 21, 2) := by decide +kernel
theorem dX8_itemBy_37 : decode cX8_itemBy 37 = .ok (.bipush 19, 2) := by decide +kernel
theorem dX8_itemBy_39 : decode cX8_itemBy 39 = .ok (.iconst 5, 1) := by decide +kernel
theorem dX8_itemBy_40 : decode cX8_itemBy 40 = .ok (.invokestatic 185, 3) := by decide +kernel
theorem dX8_itemBy_43 : decode cX8_itemBy 43 = .ok (.lcmp, 1) := by decide +kernel
theorem dX8_itemBy_44 : decode cX8_itemBy 44 = .ok (.ifCond .ne 7, 3) := by decide +kernel
theorem dX8_itemBy_47 : decode cX8_itemBy 47 = .ok (.iconst 0, 1) := by decide +kernel
theorem dX8_itemBy_48 : decode cX8_itemBy 48 = .ok (.goto 93, 3) := by decide +kernel
theorem dX8_itemBy_51 : decode cX8_itemBy 51 = .ok (.lload_n 0, 1) := by decide +kernel
theorem dX8_itemBy_52 : decode cX8_itemBy 52 = .ok (.bipush 19, 2) := by decide +kernel
theorem dX8_itemBy_54 : decode cX8_itemBy 54 = .ok (.iconst 1, 1) := by decide +kernel
theorem dX8_itemBy_55 : decode cX8_itemBy 55 = .ok (.bipush 25, 2) := by decide +kernel
theorem dX8_itemBy_57 : decode cX8_itemBy 57 = .ok (.iconst 0, 1) := by decide +kernel
theorem dX8_itemBy_58 : decode cX8_itemBy 58 = .ok (.iconst 0, 1) := by decide +kernel
theorem dX8_itemBy_59 : decode cX8_itemBy 59 = .ok (.invokestatic 185, 3) := by decide +kernel
theorem dX8_itemBy_62 : decode cX8_itemBy 62 = .ok (.lcmp, 1) := by decide +kernel
theorem dX8_itemBy_63 : decode cX8_itemBy 63 = .ok (.ifCond .ne 7, 3) := by decide +kernel
theorem dX8_itemBy_66 : decode cX8_itemBy 66 = .ok (.iconst 1, 1) := by decide +kernel
theorem dX8_itemBy_67 : decode cX8_itemBy 67 = .ok (.goto 74, 3) := by decide +kernel
theorem dX8_itemBy_70 : decode cX8_itemBy 70 = .ok (.lload_n 0, 1) := by decide +kernel
theorem dX8_itemBy_71 : decode cX8_itemBy 71 = .ok (.iconst 5, 1) := by decide +kernel
theorem dX8_itemBy_72 : decode cX8_itemBy 72 = .ok (.iconst 1, 1) := by decide +kernel
theorem dX8_itemBy_73 : decode cX8_itemBy 73 = .ok (.bipush 18, 2) := by decide +kernel
theorem dX8_itemBy_75 : decode cX8_itemBy 75 = .ok (.iconst 0, 1) := by decide +kernel
theorem dX8_itemBy_76 : decode cX8_itemBy 76 = .ok (.iconst 0, 1) := by decide +kernel
theorem dX8_itemBy_77 : decode cX8_itemBy 77 = .ok (.invokestatic 185, 3) := by decide +kernel
theorem dX8_itemBy_80 : decode cX8_itemBy 80 = .ok (.lcmp, 1) := by decide +kernel
theorem dX8_itemBy_81 : decode cX8_itemBy 81 = .ok (.ifCond .ne 7, 3) := by decide +kernel
theorem dX8_itemBy_84 : decode cX8_itemBy 84 = .ok (.iconst 2, 1) := by decide +kernel
theorem dX8_itemBy_85 : decode cX8_itemBy 85 = .ok (.goto 56, 3) := by decide +kernel
theorem dX8_itemBy_88 : decode cX8_itemBy 88 = .ok (.lload_n 0, 1) := by decide +kernel
theorem dX8_itemBy_89 : decode cX8_itemBy 89 = .ok (.bipush 19, 2) := by decide +kernel
theorem dX8_itemBy_91 : decode cX8_itemBy 91 = .ok (.bipush 20, 2) := by decide +kernel
theorem dX8_itemBy_93 : decode cX8_itemBy 93 = .ok (.bipush 18, 2) := by decide +kernel
theorem dX8_itemBy_95 : decode cX8_itemBy 95 = .ok (.bipush 9, 2) := by decide +kernel
theorem dX8_itemBy_97 : decode cX8_itemBy 97 = .ok (.bipush 16, 2) := by decide +kernel
theorem dX8_itemBy_99 : decode cX8_itemBy 99 = .ok (.invokestatic 185, 3) := by decide +kernel
theorem dX8_itemBy_102 : decode cX8_itemBy 102 = .ok (.lcmp, 1) := by decide +kernel
theorem dX8_itemBy_103 : decode cX8_itemBy 103 = .ok (.ifCond .ne 7, 3) := by decide +kernel
theorem dX8_itemBy_106 : decode cX8_itemBy 106 = .ok (.iconst 3, 1) := by decide +kernel
theorem dX8_itemBy_107 : decode cX8_itemBy 107 = .ok (.goto 34, 3) := by decide +kernel
theorem dX8_itemBy_110 : decode cX8_itemBy 110 = .ok (.lload_n 0, 1) := by decide +kernel
theorem dX8_itemBy_111 : decode cX8_itemBy 111 = .ok (.bipush 16, 2) := by decide +kernel
theorem dX8_itemBy_113 : decode cX8_itemBy 113 = .ok (.iconst 1, 1) := by decide +kernel
theorem dX8_itemBy_114 : decode cX8_itemBy 114 = .ok (.bipush 16, 2) := by decide +kernel
theorem dX8_itemBy_116 : decode cX8_itemBy 116 = .ok (.iconst 5, 1) := by decide +kernel
theorem dX8_itemBy_117 : decode cX8_itemBy 117 = .ok (.bipush 18, 2) := by decide +kernel
theorem dX8_itemBy_119 : decode cX8_itemBy 119 = .ok (.invokestatic 185, 3) := by decide +kernel
theorem dX8_itemBy_122 : decode cX8_itemBy 122 = .ok (.lcmp, 1) := by decide +kernel
theorem dX8_itemBy_123 : decode cX8_itemBy 123 = .ok (.ifCond .ne 7, 3) := by decide +kernel
theorem dX8_itemBy_126 : decode cX8_itemBy 126 = .ok (.iconst 4, 1) := by decide +kernel
theorem dX8_itemBy_127 : decode cX8_itemBy 127 = .ok (.goto 14, 3) := by decide +kernel
theorem dX8_itemBy_130 : decode cX8_itemBy 130 = .ok (.lload_n 0, 1) := by decide +kernel
theorem dX8_itemBy_131 : decode cX8_itemBy 131 = .ok (.lload_n 2, 1) := by decide +kernel
theorem dX8_itemBy_132 : decode cX8_itemBy 132 = .ok (.lcmp, 1) := by decide +kernel
theorem dX8_itemBy_133 : decode cX8_itemBy 133 = .ok (.ifCond .ne 7, 3) := by decide +kernel
theorem dX8_itemBy_136 : decode cX8_itemBy 136 = .ok (.iconst 5, 1) := by decide +kernel
theorem dX8_itemBy_137 : decode cX8_itemBy 137 = .ok (.goto 4, 3) := by decide +kernel
theorem dX8_itemBy_140 : decode cX8_itemBy 140 = .ok (.iconst (-1), 1) := by decide +kernel
theorem dX8_itemBy_141 : decode cX8_itemBy 141 = .ok (.ireturn, 1) := by decide +kernel
theorem dX8_number_0 : decode cX8_number 0 = .ok (.aload_n 0, 1) := by decide +kernel
theorem dX8_number_1 : decode cX8_number 1 = .ok (.invokevirtual 191, 3) := by decide +kernel
theorem dX8_number_4 : decode cX8_number 4 = .ok (.aload_n 0, 1) := by decide +kernel
theorem dX8_number_5 : decode cX8_number 5 = .ok (.getfield 159, 3) := by decide +kernel
theorem dX8_number_8 : decode cX8_number 8 = .ok (.istore_n 3, 1) := by decide +kernel
theorem dX8_number_9 : decode cX8_number 9 = .ok (.iconst 0, 1) := by decide +kernel
theorem dX8_number_10 : decode cX8_number 10 = .ok (.istore 4, 2) := by decide +kernel
theorem dX8_number_12 : decode cX8_number 12 = .ok (.aload_n 0, 1) := by decide +kernel
theorem dX8_number_13 : decode cX8_number 13 = .ok (.aload_n 0, 1) := by decide +kernel
theorem dX8_number_14 : decode cX8_number 14 = .ok (.getfield 159, 3) := by decide +kernel
theorem dX8_number_17 : decode cX8_number 17 = .ok (.invokevirtual 162, 3) := by decide +kernel
theorem dX8_number_20 : decode cX8_number 20 = .ok (.invokestatic 194, 3) := by decide +kernel
theorem dX8_number_23 : decode cX8_number 23 = .ok (.ifCond .eq 50, 3) := by decide +kernel
theorem dX8_number_26 : decode cX8_number 26 = .ok (.aload_n 0, 1) := by decide +kernel
theorem dX8_number_27 : decode cX8_number 27 = .ok (.getfield 159, 3) := by decide +kernel
theorem dX8_number_30 : decode cX8_number 30 = .ok (.iload_n 3, 1) := by decide +kernel
theorem dX8_number_31 : decode cX8_number 31 = .ok (.isub, 1) := by decide +kernel
theorem dX8_number_32 : decode cX8_number 32 = .ok (.iconst 3, 1) := by decide +kernel
theorem dX8_number_33 : decode cX8_number 33 = .ok (.if_icmp .ge 23, 3) := by decide +kernel
theorem dX8_number_36 : decode cX8_number 36 = .ok (.bipush 10, 2) := by decide +kernel
theorem dX8_number_38 : decode cX8_number 38 = .ok (.iload 4, 2) := by decide +kernel
theorem dX8_number_40 : decode cX8_number 40 = .ok (.imul, 1) := by decide +kernel
theorem dX8_number_41 : decode cX8_number 41 = .ok (.aload_n 0, 1) := by decide +kernel
theorem dX8_number_42 : decode cX8_number 42 = .ok (.aload_n 0, 1) := by decide +kernel
theorem dX8_number_43 : decode cX8_number 43 = .ok (.getfield 159, 3) := by decide +kernel
theorem dX8_number_46 : decode cX8_number 46 = .ok (.invokevirtual 162, 3) := by decide +kernel
theorem dX8_number_49 : decode cX8_number 49 = .ok (.iadd, 1) := by decide +kernel
theorem dX8_number_50 : decode cX8_number 50 = .ok (.bipush 48, 2) := by decide +kernel
theorem dX8_number_52 : decode cX8_number 52 = .ok (.isub, 1) := by decide +kernel
theorem dX8_number_53 : decode cX8_number 53 = .ok (.goto 5, 3) := by decide +kernel
theorem dX8_number_56 : decode cX8_number 56 = .ok (.iload 4, 2) := by decide +kernel
theorem dX8_number_58 : decode cX8_number 58 = .ok (.istore 4, 2) := by decide +kernel
theorem dX8_number_60 : decode cX8_number 60 = .ok (.aload_n 0, 1) := by decide +kernel
theorem dX8_number_61 : decode cX8_number 61 = .ok (.dup, 1) := by decide +kernel
theorem dX8_number_62 : decode cX8_number 62 = .ok (.getfield 159, 3) := by decide +kernel
theorem dX8_number_65 : decode cX8_number 65 = .ok (.iconst 1, 1) := by decide +kernel
theorem dX8_number_66 : decode cX8_number 66 = .ok (.iadd, 1) := by decide +kernel
theorem dX8_number_67 : decode cX8_number 67 = .ok (.putfield 159, 3) := by decide +kernel
theorem dX8_number_70 : decode cX8_number 70 = .ok (.goto (-58), 3) := by decide +kernel
theorem dX8_number_73 : decode cX8_number 73 = .ok (.aload_n 0, 1) := by decide +kernel
theorem dX8_number_74 : decode cX8_number 74 = .ok (.getfield 159, 3) := by decide +kernel
theorem dX8_number_77 : decode cX8_number 77 = .ok (.iload_n 3, 1) := by decide +kernel
theorem dX8_number_78 : decode cX8_number 78 = .ok (.isub, 1) := by decide +kernel
theorem dX8_number_79 : decode cX8_number 79 = .ok (.istore 5, 2) := by decide +kernel
theorem dX8_number_81 : decode cX8_number 81 = .ok (.iload 5, 2) := by decide +kernel
theorem dX8_number_83 : decode cX8_number 83 = .ok (.ifCond .eq 22, 3) := by decide +kernel
theorem dX8_number_86 : decode cX8_number 86 = .ok (.iload 5, 2) := by decide +kernel
theorem dX8_number_88 : decode cX8_number 88 = .ok (.iconst 2, 1) := by decide +kernel
theorem dX8_number_89 : decode cX8_number 89 = .ok (.if_icmp .gt 16, 3) := by decide +kernel
theorem dX8_number_92 : decode cX8_number 92 = .ok (.iload 4, 2) := by decide +kernel
theorem dX8_number_94 : decode cX8_number 94 = .ok (.i2l, 1) := by decide +kernel
theorem dX8_number_95 : decode cX8_number 95 = .ok (.iload_n 1, 1) := by decide +kernel
theorem dX8_number_96 : decode cX8_number 96 = .ok (.i2l, 1) := by decide +kernel
theorem dX8_number_97 : decode cX8_number 97 = .ok (.iload_n 2, 1) := by decide +kernel
theorem dX8_number_98 : decode cX8_number 98 = .ok (.i2l, 1) := by decide +kernel
theorem dX8_number_99 : decode cX8_number 99 = .ok (.invokestatic 68, 3) := by decide +kernel
theorem dX8_number_102 : decode cX8_number 102 = .ok (.ifCond .ne 8, 3) := by decide +kernel
theorem dX8_number_105 : decode cX8_number 105 = .ok (.aload_n 0, 1) := by decide +kernel
theorem dX8_number_106 : decode cX8_number 106 = .ok (.iload_n 3, 1) := by decide +kernel
theorem dX8_number_107 : decode cX8_number 107 = .ok (.invokevirtual 197, 3) := by decide +kernel
theorem dX8_number_110 : decode cX8_number 110 = .ok (.iload 4, 2) := by decide +kernel
theorem dX8_number_112 : decode cX8_number 112 = .ok (.ireturn, 1) := by decide +kernel
theorem dX8_ends_0 : decode cX8_ends 0 = .ok (.aload_n 0, 1) := by decide +kernel
theorem dX8_ends_1 : decode cX8_ends 1 = .ok (.invokevirtual 191, 3) := by decide +kernel
theorem dX8_ends_4 : decode cX8_ends 4 = .ok (.aload_n 0, 1) := by decide +kernel
theorem dX8_ends_5 : decode cX8_ends 5 = .ok (.aload_n 0, 1) := by decide +kernel
theorem dX8_ends_6 : decode cX8_ends 6 = .ok (.getfield 159, 3) := by decide +kernel
theorem dX8_ends_9 : decode cX8_ends 9 = .ok (.invokevirtual 162, 3) := by decide +kernel
theorem dX8_ends_12 : decode cX8_ends 12 = .ok (.bipush 59, 2) := by decide +kernel
theorem dX8_ends_14 : decode cX8_ends 14 = .ok (.if_icmp .eq 11, 3) := by decide +kernel
theorem dX8_ends_17 : decode cX8_ends 17 = .ok (.aload_n 0, 1) := by decide +kernel
theorem dX8_ends_18 : decode cX8_ends 18 = .ok (.aload_n 0, 1) := by decide +kernel
theorem dX8_ends_19 : decode cX8_ends 19 = .ok (.getfield 159, 3) := by decide +kernel
theorem dX8_ends_22 : decode cX8_ends 22 = .ok (.invokevirtual 197, 3) := by decide +kernel
theorem dX8_ends_25 : decode cX8_ends 25 = .ok (.aload_n 0, 1) := by decide +kernel
theorem dX8_ends_26 : decode cX8_ends 26 = .ok (.dup, 1) := by decide +kernel
theorem dX8_ends_27 : decode cX8_ends 27 = .ok (.getfield 159, 3) := by decide +kernel
theorem dX8_ends_30 : decode cX8_ends 30 = .ok (.iconst 1, 1) := by decide +kernel
theorem dX8_ends_31 : decode cX8_ends 31 = .ok (.iadd, 1) := by decide +kernel
theorem dX8_ends_32 : decode cX8_ends 32 = .ok (.putfield 159, 3) := by decide +kernel
theorem dX8_ends_35 : decode cX8_ends 35 = .ok (.return_, 1) := by decide +kernel
theorem dX8_readItem_0 : decode cX8_readItem 0 = .ok (.aload_n 0, 1) := by decide +kernel
theorem dX8_readItem_1 : decode cX8_readItem 1 = .ok (.getfield 31, 3) := by decide +kernel
theorem dX8_readItem_4 : decode cX8_readItem 4 = .ok (.iload_n 2, 1) := by decide +kernel
theorem dX8_readItem_5 : decode cX8_readItem 5 = .ok (.iload_n 1, 1) := by decide +kernel
theorem dX8_readItem_6 : decode cX8_readItem 6 = .ok (.iastore, 1) := by decide +kernel
theorem dX8_readItem_7 : decode cX8_readItem 7 = .ok (.iload_n 1, 1) := by decide +kernel
theorem dX8_readItem_8 : decode cX8_readItem 8 = .ok (.iconst 1, 1) := by decide +kernel
theorem dX8_readItem_9 : decode cX8_readItem 9 = .ok (.if_icmp .ne 49, 3) := by decide +kernel
theorem dX8_readItem_12 : decode cX8_readItem 12 = .ok (.aload_n 0, 1) := by decide +kernel
theorem dX8_readItem_13 : decode cX8_readItem 13 = .ok (.getfield 31, 3) := by decide +kernel
theorem dX8_readItem_16 : decode cX8_readItem 16 = .ok (.iload_n 2, 1) := by decide +kernel
theorem dX8_readItem_17 : decode cX8_readItem 17 = .ok (.iconst 1, 1) := by decide +kernel
theorem dX8_readItem_18 : decode cX8_readItem 18 = .ok (.iadd, 1) := by decide +kernel
theorem dX8_readItem_19 : decode cX8_readItem 19 = .ok (.aload_n 0, 1) := by decide +kernel
theorem dX8_readItem_20 : decode cX8_readItem 20 = .ok (.iconst 0, 1) := by decide +kernel
theorem dX8_readItem_21 : decode cX8_readItem 21 = .ok (.iconst 5, 1) := by decide +kernel
theorem dX8_readItem_22 : decode cX8_readItem 22 = .ok (.invokevirtual 201, 3) := by decide +kernel
theorem dX8_readItem_25 : decode cX8_readItem 25 = .ok (.iastore, 1) := by decide +kernel
theorem dX8_readItem_26 : decode cX8_readItem 26 = .ok (.aload_n 0, 1) := by decide +kernel
theorem dX8_readItem_27 : decode cX8_readItem 27 = .ok (.getfield 31, 3) := by decide +kernel
theorem dX8_readItem_30 : decode cX8_readItem 30 = .ok (.iload_n 2, 1) := by decide +kernel
theorem dX8_readItem_31 : decode cX8_readItem 31 = .ok (.iconst 2, 1) := by decide +kernel
theorem dX8_readItem_32 : decode cX8_readItem 32 = .ok (.iadd, 1) := by decide +kernel
theorem dX8_readItem_33 : decode cX8_readItem 33 = .ok (.aload_n 0, 1) := by decide +kernel
theorem dX8_readItem_34 : decode cX8_readItem 34 = .ok (.iconst 0, 1) := by decide +kernel
theorem dX8_readItem_35 : decode cX8_readItem 35 = .ok (.iconst 3, 1) := by decide +kernel
theorem dX8_readItem_36 : decode cX8_readItem 36 = .ok (.invokevirtual 201, 3) := by decide +kernel
theorem dX8_readItem_39 : decode cX8_readItem 39 = .ok (.iastore, 1) := by decide +kernel
theorem dX8_readItem_40 : decode cX8_readItem 40 = .ok (.aload_n 0, 1) := by decide +kernel
theorem dX8_readItem_41 : decode cX8_readItem 41 = .ok (.getfield 31, 3) := by decide +kernel
theorem dX8_readItem_44 : decode cX8_readItem 44 = .ok (.iload_n 2, 1) := by decide +kernel
theorem dX8_readItem_45 : decode cX8_readItem 45 = .ok (.iconst 3, 1) := by decide +kernel
theorem dX8_readItem_46 : decode cX8_readItem 46 = .ok (.iadd, 1) := by decide +kernel
theorem dX8_readItem_47 : decode cX8_readItem 47 = .ok (.aload_n 0, 1) := by decide +kernel
theorem dX8_readItem_48 : decode cX8_readItem 48 = .ok (.iconst 1, 1) := by decide +kernel
theorem dX8_readItem_49 : decode cX8_readItem 49 = .ok (.bipush 9, 2) := by decide +kernel
theorem dX8_readItem_51 : decode cX8_readItem 51 = .ok (.invokevirtual 201, 3) := by decide +kernel
theorem dX8_readItem_54 : decode cX8_readItem 54 = .ok (.iastore, 1) := by decide +kernel
theorem dX8_readItem_55 : decode cX8_readItem 55 = .ok (.goto 81, 3) := by decide +kernel
theorem dX8_readItem_58 : decode cX8_readItem 58 = .ok (.iload_n 1, 1) := by decide +kernel
theorem dX8_readItem_59 : decode cX8_readItem 59 = .ok (.iconst 2, 1) := by decide +kernel
theorem dX8_readItem_60 : decode cX8_readItem 60 = .ok (.if_icmp .ne 34, 3) := by decide +kernel
theorem dX8_readItem_63 : decode cX8_readItem 63 = .ok (.aload_n 0, 1) := by decide +kernel
theorem dX8_readItem_64 : decode cX8_readItem 64 = .ok (.getfield 31, 3) := by decide +kernel
theorem dX8_readItem_67 : decode cX8_readItem 67 = .ok (.iload_n 2, 1) := by decide +kernel
theorem dX8_readItem_68 : decode cX8_readItem 68 = .ok (.iconst 1, 1) := by decide +kernel
theorem dX8_readItem_69 : decode cX8_readItem 69 = .ok (.iadd, 1) := by decide +kernel
theorem dX8_readItem_70 : decode cX8_readItem 70 = .ok (.aload_n 0, 1) := by decide +kernel
theorem dX8_readItem_71 : decode cX8_readItem 71 = .ok (.iconst 0, 1) := by decide +kernel
theorem dX8_readItem_72 : decode cX8_readItem 72 = .ok (.iconst 5, 1) := by decide +kernel
theorem dX8_readItem_73 : decode cX8_readItem 73 = .ok (.invokevirtual 201, 3) := by decide +kernel
theorem dX8_readItem_76 : decode cX8_readItem 76 = .ok (.iastore, 1) := by decide +kernel
theorem dX8_readItem_77 : decode cX8_readItem 77 = .ok (.aload_n 0, 1) := by decide +kernel
theorem dX8_readItem_78 : decode cX8_readItem 78 = .ok (.getfield 31, 3) := by decide +kernel
theorem dX8_readItem_81 : decode cX8_readItem 81 = .ok (.iload_n 2, 1) := by decide +kernel
theorem dX8_readItem_82 : decode cX8_readItem 82 = .ok (.iconst 2, 1) := by decide +kernel
theorem dX8_readItem_83 : decode cX8_readItem 83 = .ok (.iadd, 1) := by decide +kernel
theorem dX8_readItem_84 : decode cX8_readItem 84 = .ok (.aload_n 0, 1) := by decide +kernel
theorem dX8_readItem_85 : decode cX8_readItem 85 = .ok (.iconst 0, 1) := by decide +kernel
theorem dX8_readItem_86 : decode cX8_readItem 86 = .ok (.iconst 3, 1) := by decide +kernel
theorem dX8_readItem_87 : decode cX8_readItem 87 = .ok (.invokevirtual 201, 3) := by decide +kernel
theorem dX8_readItem_90 : decode cX8_readItem 90 = .ok (.iastore, 1) := by decide +kernel
theorem dX8_readItem_91 : decode cX8_readItem 91 = .ok (.goto 45, 3) := by decide +kernel
theorem dX8_readItem_94 : decode cX8_readItem 94 = .ok (.iload_n 1, 1) := by decide +kernel
theorem dX8_readItem_95 : decode cX8_readItem 95 = .ok (.iconst 5, 1) := by decide +kernel
theorem dX8_readItem_96 : decode cX8_readItem 96 = .ok (.if_icmp .ne 21, 3) := by decide +kernel
theorem dX8_readItem_99 : decode cX8_readItem 99 = .ok (.aload_n 0, 1) := by decide +kernel
theorem dX8_readItem_100 : decode cX8_readItem 100 = .ok (.getfield 31, 3) := by decide +kernel
theorem dX8_readItem_103 : decode cX8_readItem 103 = .ok (.iload_n 2, 1) := by decide +kernel
theorem dX8_readItem_104 : decode cX8_readItem 104 = .ok (.iconst 1, 1) := by decide +kernel
theorem dX8_readItem_105 : decode cX8_readItem 105 = .ok (.iadd, 1) := by decide +kernel
theorem dX8_readItem_106 : decode cX8_readItem 106 = .ok (.aload_n 0, 1) := by decide +kernel
theorem dX8_readItem_107 : decode cX8_readItem 107 = .ok (.iconst 1, 1) := by decide +kernel
theorem dX8_readItem_108 : decode cX8_readItem 108 = .ok (.bipush 99, 2) := by decide +kernel
theorem dX8_readItem_110 : decode cX8_readItem 110 = .ok (.invokevirtual 201, 3) := by decide +kernel
theorem dX8_readItem_113 : decode cX8_readItem 113 = .ok (.iastore, 1) := by decide +kernel
theorem dX8_readItem_114 : decode cX8_readItem 114 = .ok (.goto 22, 3) := by decide +kernel
theorem dX8_readItem_117 : decode cX8_readItem 117 = .ok (.iload_n 1, 1) := by decide +kernel
theorem dX8_readItem_118 : decode cX8_readItem 118 = .ok (.iconst 2, 1) := by decide +kernel
theorem dX8_readItem_119 : decode cX8_readItem 119 = .ok (.if_icmp .le 17, 3) := by decide +kernel
theorem dX8_readItem_122 : decode cX8_readItem 122 = .ok (.aload_n 0, 1) := by decide +kernel
theorem dX8_readItem_123 : decode cX8_readItem 123 = .ok (.getfield 31, 3) := by decide +kernel
theorem dX8_readItem_126 : decode cX8_readItem 126 = .ok (.iload_n 2, 1) := by decide +kernel
theorem dX8_readItem_127 : decode cX8_readItem 127 = .ok (.iconst 1, 1) := by decide +kernel
theorem dX8_readItem_128 : decode cX8_readItem 128 = .ok (.iadd, 1) := by decide +kernel
theorem dX8_readItem_129 : decode cX8_readItem 129 = .ok (.aload_n 0, 1) := by decide +kernel
theorem dX8_readItem_130 : decode cX8_readItem 130 = .ok (.iconst 0, 1) := by decide +kernel
theorem dX8_readItem_131 : decode cX8_readItem 131 = .ok (.iconst 3, 1) := by decide +kernel
theorem dX8_readItem_132 : decode cX8_readItem 132 = .ok (.invokevirtual 201, 3) := by decide +kernel
theorem dX8_readItem_135 : decode cX8_readItem 135 = .ok (.iastore, 1) := by decide +kernel
theorem dX8_readItem_136 : decode cX8_readItem 136 = .ok (.aload_n 0, 1) := by decide +kernel
theorem dX8_readItem_137 : decode cX8_readItem 137 = .ok (.invokevirtual 204, 3) := by decide +kernel
theorem dX8_readItem_140 : decode cX8_readItem 140 = .ok (.return_, 1) := by decide +kernel
theorem dX8_readAll_0 : decode cX8_readAll 0 = .ok (.iconst 0, 1) := by decide +kernel
theorem dX8_readAll_1 : decode cX8_readAll 1 = .ok (.istore_n 1, 1) := by decide +kernel
theorem dX8_readAll_2 : decode cX8_readAll 2 = .ok (.iconst 0, 1) := by decide +kernel
theorem dX8_readAll_3 : decode cX8_readAll 3 = .ok (.istore_n 2, 1) := by decide +kernel
theorem dX8_readAll_4 : decode cX8_readAll 4 = .ok (.iconst 0, 1) := by decide +kernel
theorem dX8_readAll_5 : decode cX8_readAll 5 = .ok (.istore_n 3, 1) := by decide +kernel
theorem dX8_readAll_6 : decode cX8_readAll 6 = .ok (.aload_n 0, 1) := by decide +kernel
theorem dX8_readAll_7 : decode cX8_readAll 7 = .ok (.iconst 0, 1) := by decide +kernel
theorem dX8_readAll_8 : decode cX8_readAll 8 = .ok (.putfield 159, 3) := by decide +kernel
theorem dX8_readAll_11 : decode cX8_readAll 11 = .ok (.aload_n 0, 1) := by decide +kernel
theorem dX8_readAll_12 : decode cX8_readAll 12 = .ok (.iconst (-1), 1) := by decide +kernel
theorem dX8_readAll_13 : decode cX8_readAll 13 = .ok (.putfield 165, 3) := by decide +kernel
theorem dX8_readAll_16 : decode cX8_readAll 16 = .ok (.aload_n 0, 1) := by decide +kernel
theorem dX8_readAll_17 : decode cX8_readAll 17 = .ok (.invokevirtual 191, 3) := by decide +kernel
theorem dX8_readAll_20 : decode cX8_readAll 20 = .ok (.aload_n 0, 1) := by decide +kernel
theorem dX8_readAll_21 : decode cX8_readAll 21 = .ok (.getfield 165, 3) := by decide +kernel
theorem dX8_readAll_24 : decode cX8_readAll 24 = .ok (.ifCond .ge 127, 3) := by decide +kernel
theorem dX8_readAll_27 : decode cX8_readAll 27 = .ok (.iload_n 1, 1) := by decide +kernel
theorem dX8_readAll_28 : decode cX8_readAll 28 = .ok (.ifCond .eq 14, 3) := by decide +kernel
theorem dX8_readAll_31 : decode cX8_readAll 31 = .ok (.aload_n 0, 1) := by decide +kernel
theorem dX8_readAll_32 : decode cX8_readAll 32 = .ok (.getfield 159, 3) := by decide +kernel
theorem dX8_readAll_35 : decode cX8_readAll 35 = .ok (.aload_n 0, 1) := by decide +kernel
theorem dX8_readAll_36 : decode cX8_readAll 36 = .ok (.getfield 156, 3) := by decide +kernel
theorem dX8_readAll_39 : decode cX8_readAll 39 = .ok (.if_icmp .ge 112, 3) := by decide +kernel
theorem dX8_readAll_42 : decode cX8_readAll 42 = .ok (.aload_n 0, 1) := by decide +kernel
theorem dX8_readAll_43 : decode cX8_readAll 43 = .ok (.getfield 159, 3) := by decide +kernel
theorem dX8_readAll_46 : decode cX8_readAll 46 = .ok (.istore 4, 2) := by decide +kernel
theorem dX8_readAll_48 : decode cX8_readAll 48 = .ok (.aload_n 0, 1) := by decide +kernel
theorem dX8_readAll_49 : decode cX8_readAll 49 = .ok (.invokevirtual 207, 3) := by decide +kernel
theorem dX8_readAll_52 : decode cX8_readAll 52 = .ok (.invokestatic 211, 3) := by decide +kernel
theorem dX8_readAll_55 : decode cX8_readAll 55 = .ok (.istore 5, 2) := by decide +kernel
theorem dX8_readAll_57 : decode cX8_readAll 57 = .ok (.iload_n 2, 1) := by decide +kernel
theorem dX8_readAll_58 : decode cX8_readAll 58 = .ok (.iload 5, 2) := by decide +kernel
theorem dX8_readAll_60 : decode cX8_readAll 60 = .ok (.iconst 1, 1) := by decide +kernel
theorem dX8_readAll_61 : decode cX8_readAll 61 = .ok (.if_icmp .ne 7, 3) := by decide +kernel
theorem dX8_readAll_64 : decode cX8_readAll 64 = .ok (.iconst 1, 1) := by decide +kernel
theorem dX8_readAll_65 : decode cX8_readAll 65 = .ok (.goto 4, 3) := by decide +kernel
theorem dX8_readAll_68 : decode cX8_readAll 68 = .ok (.iconst 0, 1) := by decide +kernel
theorem dX8_readAll_69 : decode cX8_readAll 69 = .ok (.iadd, 1) := by decide +kernel
theorem dX8_readAll_70 : decode cX8_readAll 70 = .ok (.istore_n 2, 1) := by decide +kernel
theorem dX8_readAll_71 : decode cX8_readAll 71 = .ok (.iload_n 3, 1) := by decide +kernel
theorem dX8_readAll_72 : decode cX8_readAll 72 = .ok (.iload 5, 2) := by decide +kernel
theorem dX8_readAll_74 : decode cX8_readAll 74 = .ok (.iconst 2, 1) := by decide +kernel
theorem dX8_readAll_75 : decode cX8_readAll 75 = .ok (.if_icmp .ne 7, 3) := by decide +kernel
theorem dX8_readAll_78 : decode cX8_readAll 78 = .ok (.iconst 1, 1) := by decide +kernel
theorem dX8_readAll_79 : decode cX8_readAll 79 = .ok (.goto 4, 3) := by decide +kernel
theorem dX8_readAll_82 : decode cX8_readAll 82 = .ok (.iconst 0, 1) := by decide +kernel
theorem dX8_readAll_83 : decode cX8_readAll 83 = .ok (.iadd, 1) := by decide +kernel
theorem dX8_readAll_84 : decode cX8_readAll 84 = .ok (.istore_n 3, 1) := by decide +kernel
theorem dX8_readAll_85 : decode cX8_readAll 85 = .ok (.iload 5, 2) := by decide +kernel
theorem dX8_readAll_87 : decode cX8_readAll 87 = .ok (.ifCond .lt 36, 3) := by decide +kernel
theorem dX8_readAll_90 : decode cX8_readAll 90 = .ok (.iload 5, 2) := by decide +kernel
theorem dX8_readAll_92 : decode cX8_readAll 92 = .ok (.ifCond .ne 7, 3) := by decide +kernel
theorem dX8_readAll_95 : decode cX8_readAll 95 = .ok (.iconst 1, 1) := by decide +kernel
theorem dX8_readAll_96 : decode cX8_readAll 96 = .ok (.goto 4, 3) := by decide +kernel
theorem dX8_readAll_99 : decode cX8_readAll 99 = .ok (.iconst 0, 1) := by decide +kernel
theorem dX8_readAll_100 : decode cX8_readAll 100 = .ok (.iload_n 1, 1) := by decide +kernel
theorem dX8_readAll_101 : decode cX8_readAll 101 = .ok (.ifCond .ne 7, 3) := by decide +kernel
theorem dX8_readAll_104 : decode cX8_readAll 104 = .ok (.iconst 1, 1) := by decide +kernel
theorem dX8_readAll_105 : decode cX8_readAll 105 = .ok (.goto 4, 3) := by decide +kernel
theorem dX8_readAll_108 : decode cX8_readAll 108 = .ok (.iconst 0, 1) := by decide +kernel
theorem dX8_readAll_109 : decode cX8_readAll 109 = .ok (.if_icmp .ne 14, 3) := by decide +kernel
theorem dX8_readAll_112 : decode cX8_readAll 112 = .ok (.iload_n 2, 1) := by decide +kernel
theorem dX8_readAll_113 : decode cX8_readAll 113 = .ok (.bipush 8, 2) := by decide +kernel
theorem dX8_readAll_115 : decode cX8_readAll 115 = .ok (.if_icmp .gt 8, 3) := by decide +kernel
theorem dX8_readAll_118 : decode cX8_readAll 118 = .ok (.iload_n 3, 1) := by decide +kernel
theorem dX8_readAll_119 : decode cX8_readAll 119 = .ok (.iconst 3, 1) := by decide +kernel
theorem dX8_readAll_120 : decode cX8_readAll 120 = .ok (.if_icmp .le 12, 3) := by decide +kernel
theorem dX8_readAll_123 : decode cX8_readAll 123 = .ok (.aload_n 0, 1) := by decide +kernel
theorem dX8_readAll_124 : decode cX8_readAll 124 = .ok (.iload 4, 2) := by decide +kernel
theorem dX8_readAll_126 : decode cX8_readAll 126 = .ok (.invokevirtual 197, 3) := by decide +kernel
theorem dX8_readAll_129 : decode cX8_readAll 129 = .ok (.goto 12, 3) := by decide +kernel
theorem dX8_readAll_132 : decode cX8_readAll 132 = .ok (.aload_n 0, 1) := by decide +kernel
theorem dX8_readAll_133 : decode cX8_readAll 133 = .ok (.iload 5, 2) := by decide +kernel
theorem dX8_readAll_135 : decode cX8_readAll 135 = .ok (.iconst 4, 1) := by decide +kernel
theorem dX8_readAll_136 : decode cX8_readAll 136 = .ok (.iload_n 1, 1) := by decide +kernel
theorem dX8_readAll_137 : decode cX8_readAll 137 = .ok (.imul, 1) := by decide +kernel
theorem dX8_readAll_138 : decode cX8_readAll 138 = .ok (.invokevirtual 215, 3) := by decide +kernel
theorem dX8_readAll_141 : decode cX8_readAll 141 = .ok (.iinc 1 1, 3) := by decide +kernel
theorem dX8_readAll_144 : decode cX8_readAll 144 = .ok (.aload_n 0, 1) := by decide +kernel
theorem dX8_readAll_145 : decode cX8_readAll 145 = .ok (.invokevirtual 191, 3) := by decide +kernel
theorem dX8_readAll_148 : decode cX8_readAll 148 = .ok (.goto (-128), 3) := by decide +kernel
theorem dX8_readAll_151 : decode cX8_readAll 151 = .ok (.iload_n 1, 1) := by decide +kernel
theorem dX8_readAll_152 : decode cX8_readAll 152 = .ok (.ireturn, 1) := by decide +kernel
theorem dX8_becomes_0 : decode cX8_becomes 0 = .ok (.aload_n 0, 1) := by decide +kernel
theorem dX8_becomes_1 : decode cX8_becomes 1 = .ok (.getfield 31, 3) := by decide +kernel
theorem dX8_becomes_4 : decode cX8_becomes 4 = .ok (.iload_n 1, 1) := by decide +kernel
theorem dX8_becomes_5 : decode cX8_becomes 5 = .ok (.iconst 1, 1) := by decide +kernel
theorem dX8_becomes_6 : decode cX8_becomes 6 = .ok (.iadd, 1) := by decide +kernel
theorem dX8_becomes_7 : decode cX8_becomes 7 = .ok (.iaload, 1) := by decide +kernel
theorem dX8_becomes_8 : decode cX8_becomes 8 = .ok (.istore_n 2, 1) := by decide +kernel
theorem dX8_becomes_9 : decode cX8_becomes 9 = .ok (.aload_n 0, 1) := by decide +kernel
theorem dX8_becomes_10 : decode cX8_becomes 10 = .ok (.getfield 31, 3) := by decide +kernel
theorem dX8_becomes_13 : decode cX8_becomes 13 = .ok (.iload_n 1, 1) := by decide +kernel
theorem dX8_becomes_14 : decode cX8_becomes 14 = .ok (.iaload, 1) := by decide +kernel
theorem dX8_becomes_15 : decode cX8_becomes 15 = .ok (.tableswitch 109 0 4 #[33, 40, 64, 80, 97], 33) := by decide +kernel
theorem dX8_becomes_48 : decode cX8_becomes 48 = .ok (.aload_n 0, 1) := by decide +kernel
theorem dX8_becomes_49 : decode cX8_becomes 49 = .ok (.invokevirtual 59, 3) := by decide +kernel
theorem dX8_becomes_52 : decode cX8_becomes 52 = .ok (.goto 77, 3) := by decide +kernel
theorem dX8_becomes_55 : decode cX8_becomes 55 = .ok (.aload_n 0, 1) := by decide +kernel
theorem dX8_becomes_56 : decode cX8_becomes 56 = .ok (.iload_n 2, 1) := by decide +kernel
theorem dX8_becomes_57 : decode cX8_becomes 57 = .ok (.aload_n 0, 1) := by decide +kernel
theorem dX8_becomes_58 : decode cX8_becomes 58 = .ok (.getfield 31, 3) := by decide +kernel
theorem dX8_becomes_61 : decode cX8_becomes 61 = .ok (.iload_n 1, 1) := by decide +kernel
theorem dX8_becomes_62 : decode cX8_becomes 62 = .ok (.iconst 2, 1) := by decide +kernel
theorem dX8_becomes_63 : decode cX8_becomes 63 = .ok (.iadd, 1) := by decide +kernel
theorem dX8_becomes_64 : decode cX8_becomes 64 = .ok (.iaload, 1) := by decide +kernel
theorem dX8_becomes_65 : decode cX8_becomes 65 = .ok (.aload_n 0, 1) := by decide +kernel
theorem dX8_becomes_66 : decode cX8_becomes 66 = .ok (.getfield 31, 3) := by decide +kernel
theorem dX8_becomes_69 : decode cX8_becomes 69 = .ok (.iload_n 1, 1) := by decide +kernel
theorem dX8_becomes_70 : decode cX8_becomes 70 = .ok (.iconst 3, 1) := by decide +kernel
theorem dX8_becomes_71 : decode cX8_becomes 71 = .ok (.iadd, 1) := by decide +kernel
theorem dX8_becomes_72 : decode cX8_becomes 72 = .ok (.iaload, 1) := by decide +kernel
theorem dX8_becomes_73 : decode cX8_becomes 73 = .ok (.invokevirtual 108, 3) := by decide +kernel
theorem dX8_becomes_76 : decode cX8_becomes 76 = .ok (.goto 53, 3) := by decide +kernel
theorem dX8_becomes_79 : decode cX8_becomes 79 = .ok (.aload_n 0, 1) := by decide +kernel
theorem dX8_becomes_80 : decode cX8_becomes 80 = .ok (.iload_n 2, 1) := by decide +kernel
theorem dX8_becomes_81 : decode cX8_becomes 81 = .ok (.aload_n 0, 1) := by decide +kernel
theorem dX8_becomes_82 : decode cX8_becomes 82 = .ok (.getfield 31, 3) := by decide +kernel
theorem dX8_becomes_85 : decode cX8_becomes 85 = .ok (.iload_n 1, 1) := by decide +kernel
theorem dX8_becomes_86 : decode cX8_becomes 86 = .ok (.iconst 2, 1) := by decide +kernel
theorem dX8_becomes_87 : decode cX8_becomes 87 = .ok (.iadd, 1) := by decide +kernel
theorem dX8_becomes_88 : decode cX8_becomes 88 = .ok (.iaload, 1) := by decide +kernel
theorem dX8_becomes_89 : decode cX8_becomes 89 = .ok (.invokevirtual 112, 3) := by decide +kernel
theorem dX8_becomes_92 : decode cX8_becomes 92 = .ok (.goto 37, 3) := by decide +kernel
theorem dX8_becomes_95 : decode cX8_becomes 95 = .ok (.aload_n 0, 1) := by decide +kernel
theorem dX8_becomes_96 : decode cX8_becomes 96 = .ok (.getfield 25, 3) := by decide +kernel
theorem dX8_becomes_99 : decode cX8_becomes 99 = .ok (.iconst 1, 1) := by decide +kernel
theorem dX8_becomes_100 : decode cX8_becomes 100 = .ok (.iload_n 2, 1) := by decide +kernel
theorem dX8_becomes_101 : decode cX8_becomes 101 = .ok (.iadd, 1) := by decide +kernel
theorem dX8_becomes_102 : decode cX8_becomes 102 = .ok (.aload_n 0, 1) := by decide +kernel
theorem dX8_becomes_103 : decode cX8_becomes 103 = .ok (.getfield 25, 3) := by decide +kernel
theorem dX8_becomes_106 : decode cX8_becomes 106 = .ok (.iconst 0, 1) := by decide +kernel
theorem dX8_becomes_107 : decode cX8_becomes 107 = .ok (.iaload, 1) := by decide +kernel
theorem dX8_becomes_108 : decode cX8_becomes 108 = .ok (.iastore, 1) := by decide +kernel
theorem dX8_becomes_109 : decode cX8_becomes 109 = .ok (.goto 20, 3) := by decide +kernel
theorem dX8_becomes_112 : decode cX8_becomes 112 = .ok (.aload_n 0, 1) := by decide +kernel
theorem dX8_becomes_113 : decode cX8_becomes 113 = .ok (.getfield 25, 3) := by decide +kernel
theorem dX8_becomes_116 : decode cX8_becomes 116 = .ok (.iconst 1, 1) := by decide +kernel
theorem dX8_becomes_117 : decode cX8_becomes 117 = .ok (.iload_n 2, 1) := by decide +kernel
theorem dX8_becomes_118 : decode cX8_becomes 118 = .ok (.iadd, 1) := by decide +kernel
theorem dX8_becomes_119 : decode cX8_becomes 119 = .ok (.iconst (-1), 1) := by decide +kernel
theorem dX8_becomes_120 : decode cX8_becomes 120 = .ok (.iastore, 1) := by decide +kernel
theorem dX8_becomes_121 : decode cX8_becomes 121 = .ok (.goto 8, 3) := by decide +kernel
theorem dX8_becomes_124 : decode cX8_becomes 124 = .ok (.aload_n 0, 1) := by decide +kernel
theorem dX8_becomes_125 : decode cX8_becomes 125 = .ok (.iload_n 2, 1) := by decide +kernel
theorem dX8_becomes_126 : decode cX8_becomes 126 = .ok (.invokevirtual 218, 3) := by decide +kernel
theorem dX8_becomes_129 : decode cX8_becomes 129 = .ok (.return_, 1) := by decide +kernel
theorem dX8_read_0 : decode cX8_read 0 = .ok (.aload_n 0, 1) := by decide +kernel
theorem dX8_read_1 : decode cX8_read 1 = .ok (.invokevirtual 221, 3) := by decide +kernel
theorem dX8_read_4 : decode cX8_read 4 = .ok (.istore_n 1, 1) := by decide +kernel
theorem dX8_read_5 : decode cX8_read 5 = .ok (.aload_n 0, 1) := by decide +kernel
theorem dX8_read_6 : decode cX8_read 6 = .ok (.getfield 165, 3) := by decide +kernel
theorem dX8_read_9 : decode cX8_read 9 = .ok (.ifCond .lt 29, 3) := by decide +kernel
theorem dX8_read_12 : decode cX8_read 12 = .ok (.bipush (-10), 2) := by decide +kernel
theorem dX8_read_14 : decode cX8_read 14 = .ok (.aload_n 0, 1) := by decide +kernel
theorem dX8_read_15 : decode cX8_read 15 = .ok (.getfield 165, 3) := by decide +kernel
theorem dX8_read_18 : decode cX8_read 18 = .ok (.aload_n 0, 1) := by decide +kernel
theorem dX8_read_19 : decode cX8_read 19 = .ok (.getfield 156, 3) := by decide +kernel
theorem dX8_read_22 : decode cX8_read 22 = .ok (.if_icmp .ge 10, 3) := by decide +kernel
theorem dX8_read_25 : decode cX8_read 25 = .ok (.aload_n 0, 1) := by decide +kernel
theorem dX8_read_26 : decode cX8_read 26 = .ok (.getfield 165, 3) := by decide +kernel
theorem dX8_read_29 : decode cX8_read 29 = .ok (.goto 7, 3) := by decide +kernel
theorem dX8_read_32 : decode cX8_read 32 = .ok (.aload_n 0, 1) := by decide +kernel
theorem dX8_read_33 : decode cX8_read 33 = .ok (.getfield 156, 3) := by decide +kernel
theorem dX8_read_36 : decode cX8_read 36 = .ok (.isub, 1) := by decide +kernel
theorem dX8_read_37 : decode cX8_read 37 = .ok (.ireturn, 1) := by decide +kernel
theorem dX8_read_38 : decode cX8_read 38 = .ok (.iconst 0, 1) := by decide +kernel
theorem dX8_read_39 : decode cX8_read 39 = .ok (.istore_n 2, 1) := by decide +kernel
theorem dX8_read_40 : decode cX8_read 40 = .ok (.iload_n 2, 1) := by decide +kernel
theorem dX8_read_41 : decode cX8_read 41 = .ok (.iload_n 1, 1) := by decide +kernel
theorem dX8_read_42 : decode cX8_read 42 = .ok (.if_icmp .ge 16, 3) := by decide +kernel
theorem dX8_read_45 : decode cX8_read 45 = .ok (.aload_n 0, 1) := by decide +kernel
theorem dX8_read_46 : decode cX8_read 46 = .ok (.iconst 4, 1) := by decide +kernel
theorem dX8_read_47 : decode cX8_read 47 = .ok (.iload_n 2, 1) := by decide +kernel
theorem dX8_read_48 : decode cX8_read 48 = .ok (.imul, 1) := by decide +kernel
theorem dX8_read_49 : decode cX8_read 49 = .ok (.invokevirtual 224, 3) := by decide +kernel
theorem dX8_read_52 : decode cX8_read 52 = .ok (.iinc 2 1, 3) := by decide +kernel
theorem dX8_read_55 : decode cX8_read 55 = .ok (.goto (-15), 3) := by decide +kernel
theorem dX8_read_58 : decode cX8_read 58 = .ok (.iload_n 1, 1) := by decide +kernel
theorem dX8_read_59 : decode cX8_read 59 = .ok (.ireturn, 1) := by decide +kernel
theorem dX8_keeps_0 : decode cX8_keeps 0 = .ok (.aload_n 0, 1) := by decide +kernel
theorem dX8_keeps_1 : decode cX8_keeps 1 = .ok (.getfield 90, 3) := by decide +kernel
theorem dX8_keeps_4 : decode cX8_keeps 4 = .ok (.bipush 8, 2) := by decide +kernel
theorem dX8_keeps_6 : decode cX8_keeps 6 = .ok (.if_icmp .ne 39, 3) := by decide +kernel
theorem dX8_keeps_9 : decode cX8_keeps 9 = .ok (.bipush 11, 2) := by decide +kernel
theorem dX8_keeps_11 : decode cX8_keeps 11 = .ok (.istore_n 1, 1) := by decide +kernel
theorem dX8_keeps_12 : decode cX8_keeps 12 = .ok (.iload_n 1, 1) := by decide +kernel
theorem dX8_keeps_13 : decode cX8_keeps 13 = .ok (.bipush 88, 2) := by decide +kernel
theorem dX8_keeps_15 : decode cX8_keeps 15 = .ok (.if_icmp .ge 24, 3) := by decide +kernel
theorem dX8_keeps_18 : decode cX8_keeps 18 = .ok (.aload_n 0, 1) := by decide +kernel
theorem dX8_keeps_19 : decode cX8_keeps 19 = .ok (.getfield 34, 3) := by decide +kernel
theorem dX8_keeps_22 : decode cX8_keeps 22 = .ok (.iload_n 1, 1) := by decide +kernel
theorem dX8_keeps_23 : decode cX8_keeps 23 = .ok (.bipush 11, 2) := by decide +kernel
theorem dX8_keeps_25 : decode cX8_keeps 25 = .ok (.isub, 1) := by decide +kernel
theorem dX8_keeps_26 : decode cX8_keeps 26 = .ok (.aload_n 0, 1) := by decide +kernel
theorem dX8_keeps_27 : decode cX8_keeps 27 = .ok (.getfield 34, 3) := by decide +kernel
theorem dX8_keeps_30 : decode cX8_keeps 30 = .ok (.iload_n 1, 1) := by decide +kernel
theorem dX8_keeps_31 : decode cX8_keeps 31 = .ok (.iaload, 1) := by decide +kernel
theorem dX8_keeps_32 : decode cX8_keeps 32 = .ok (.iastore, 1) := by decide +kernel
theorem dX8_keeps_33 : decode cX8_keeps 33 = .ok (.iinc 1 1, 3) := by decide +kernel
theorem dX8_keeps_36 : decode cX8_keeps 36 = .ok (.goto (-24), 3) := by decide +kernel
theorem dX8_keeps_39 : decode cX8_keeps 39 = .ok (.aload_n 0, 1) := by decide +kernel
theorem dX8_keeps_40 : decode cX8_keeps 40 = .ok (.bipush 7, 2) := by decide +kernel
theorem dX8_keeps_42 : decode cX8_keeps 42 = .ok (.putfield 90, 3) := by decide +kernel
theorem dX8_keeps_45 : decode cX8_keeps 45 = .ok (.iconst 0, 1) := by decide +kernel
theorem dX8_keeps_46 : decode cX8_keeps 46 = .ok (.istore_n 1, 1) := by decide +kernel
theorem dX8_keeps_47 : decode cX8_keeps 47 = .ok (.iload_n 1, 1) := by decide +kernel
theorem dX8_keeps_48 : decode cX8_keeps 48 = .ok (.bipush 11, 2) := by decide +kernel
theorem dX8_keeps_50 : decode cX8_keeps 50 = .ok (.if_icmp .ge 29, 3) := by decide +kernel
theorem dX8_keeps_53 : decode cX8_keeps 53 = .ok (.aload_n 0, 1) := by decide +kernel
theorem dX8_keeps_54 : decode cX8_keeps 54 = .ok (.getfield 34, 3) := by decide +kernel
theorem dX8_keeps_57 : decode cX8_keeps 57 = .ok (.bipush 11, 2) := by decide +kernel
theorem dX8_keeps_59 : decode cX8_keeps 59 = .ok (.aload_n 0, 1) := by decide +kernel
theorem dX8_keeps_60 : decode cX8_keeps 60 = .ok (.getfield 90, 3) := by decide +kernel
theorem dX8_keeps_63 : decode cX8_keeps 63 = .ok (.imul, 1) := by decide +kernel
theorem dX8_keeps_64 : decode cX8_keeps 64 = .ok (.iload_n 1, 1) := by decide +kernel
theorem dX8_keeps_65 : decode cX8_keeps 65 = .ok (.iadd, 1) := by decide +kernel
theorem dX8_keeps_66 : decode cX8_keeps 66 = .ok (.aload_n 0, 1) := by decide +kernel
theorem dX8_keeps_67 : decode cX8_keeps 67 = .ok (.getfield 25, 3) := by decide +kernel
theorem dX8_keeps_70 : decode cX8_keeps 70 = .ok (.iload_n 1, 1) := by decide +kernel
theorem dX8_keeps_71 : decode cX8_keeps 71 = .ok (.iaload, 1) := by decide +kernel
theorem dX8_keeps_72 : decode cX8_keeps 72 = .ok (.iastore, 1) := by decide +kernel
theorem dX8_keeps_73 : decode cX8_keeps 73 = .ok (.iinc 1 1, 3) := by decide +kernel
theorem dX8_keeps_76 : decode cX8_keeps 76 = .ok (.goto (-29), 3) := by decide +kernel
theorem dX8_keeps_79 : decode cX8_keeps 79 = .ok (.aload_n 0, 1) := by decide +kernel
theorem dX8_keeps_80 : decode cX8_keeps 80 = .ok (.dup, 1) := by decide +kernel
theorem dX8_keeps_81 : decode cX8_keeps 81 = .ok (.getfield 90, 3) := by decide +kernel
theorem dX8_keeps_84 : decode cX8_keeps 84 = .ok (.iconst 1, 1) := by decide +kernel
theorem dX8_keeps_85 : decode cX8_keeps 85 = .ok (.iadd, 1) := by decide +kernel
theorem dX8_keeps_86 : decode cX8_keeps 86 = .ok (.putfield 90, 3) := by decide +kernel
theorem dX8_keeps_89 : decode cX8_keeps 89 = .ok (.return_, 1) := by decide +kernel
theorem dX8_loudNow_0 : decode cX8_loudNow 0 = .ok (.aload_n 0, 1) := by decide +kernel
theorem dX8_loudNow_1 : decode cX8_loudNow 1 = .ok (.sipush 255, 3) := by decide +kernel
theorem dX8_loudNow_4 : decode cX8_loudNow 4 = .ok (.iload_n 1, 1) := by decide +kernel
theorem dX8_loudNow_5 : decode cX8_loudNow 5 = .ok (.aload_n 0, 1) := by decide +kernel
theorem dX8_loudNow_6 : decode cX8_loudNow 6 = .ok (.iload_n 1, 1) := by decide +kernel
theorem dX8_loudNow_7 : decode cX8_loudNow 7 = .ok (.invokevirtual 138, 3) := by decide +kernel
theorem dX8_loudNow_10 : decode cX8_loudNow 10 = .ok (.invokevirtual 127, 3) := by decide +kernel
theorem dX8_loudNow_13 : decode cX8_loudNow 13 = .ok (.ireturn, 1) := by decide +kernel
theorem dX8_strips_0 : decode cX8_strips 0 = .ok (.iload_n 1, 1) := by decide +kernel
theorem dX8_strips_1 : decode cX8_strips 1 = .ok (.invokestatic 95, 3) := by decide +kernel
theorem dX8_strips_4 : decode cX8_strips 4 = .ok (.ifCond .ne 8, 3) := by decide +kernel
theorem dX8_strips_7 : decode cX8_strips 7 = .ok (.aload_n 0, 1) := by decide +kernel
theorem dX8_strips_8 : decode cX8_strips 8 = .ok (.invokevirtual 101, 3) := by decide +kernel
theorem dX8_strips_11 : decode cX8_strips 11 = .ok (.ireturn, 1) := by decide +kernel
theorem dX8_strips_12 : decode cX8_strips 12 = .ok (.aload_n 0, 1) := by decide +kernel
theorem dX8_strips_13 : decode cX8_strips 13 = .ok (.invokevirtual 227, 3) := by decide +kernel
theorem dX8_strips_16 : decode cX8_strips 16 = .ok (.aload_n 0, 1) := by decide +kernel
theorem dX8_strips_17 : decode cX8_strips 17 = .ok (.getfield 25, 3) := by decide +kernel
theorem dX8_strips_20 : decode cX8_strips 20 = .ok (.iconst 1, 1) := by decide +kernel
theorem dX8_strips_21 : decode cX8_strips 21 = .ok (.iload_n 1, 1) := by decide +kernel
theorem dX8_strips_22 : decode cX8_strips 22 = .ok (.iadd, 1) := by decide +kernel
theorem dX8_strips_23 : decode cX8_strips 23 = .ok (.aload_n 0, 1) := by decide +kernel
theorem dX8_strips_24 : decode cX8_strips 24 = .ok (.getfield 25, 3) := by decide +kernel
theorem dX8_strips_27 : decode cX8_strips 27 = .ok (.iconst 0, 1) := by decide +kernel
theorem dX8_strips_28 : decode cX8_strips 28 = .ok (.iaload, 1) := by decide +kernel
theorem dX8_strips_29 : decode cX8_strips 29 = .ok (.iastore, 1) := by decide +kernel
theorem dX8_strips_30 : decode cX8_strips 30 = .ok (.aload_n 0, 1) := by decide +kernel
theorem dX8_strips_31 : decode cX8_strips 31 = .ok (.iload_n 1, 1) := by decide +kernel
theorem dX8_strips_32 : decode cX8_strips 32 = .ok (.invokevirtual 230, 3) := by decide +kernel
theorem dX8_strips_35 : decode cX8_strips 35 = .ok (.ireturn, 1) := by decide +kernel
theorem dX8_papers_0 : decode cX8_papers 0 = .ok (.iload_n 1, 1) := by decide +kernel
theorem dX8_papers_1 : decode cX8_papers 1 = .ok (.invokestatic 95, 3) := by decide +kernel
theorem dX8_papers_4 : decode cX8_papers 4 = .ok (.ifCond .ne 8, 3) := by decide +kernel
theorem dX8_papers_7 : decode cX8_papers 7 = .ok (.aload_n 0, 1) := by decide +kernel
theorem dX8_papers_8 : decode cX8_papers 8 = .ok (.invokevirtual 101, 3) := by decide +kernel
theorem dX8_papers_11 : decode cX8_papers 11 = .ok (.ireturn, 1) := by decide +kernel
theorem dX8_papers_12 : decode cX8_papers 12 = .ok (.aload_n 0, 1) := by decide +kernel
theorem dX8_papers_13 : decode cX8_papers 13 = .ok (.getfield 25, 3) := by decide +kernel
theorem dX8_papers_16 : decode cX8_papers 16 = .ok (.iconst 1, 1) := by decide +kernel
theorem dX8_papers_17 : decode cX8_papers 17 = .ok (.iload_n 1, 1) := by decide +kernel
theorem dX8_papers_18 : decode cX8_papers 18 = .ok (.iadd, 1) := by decide +kernel
theorem dX8_papers_19 : decode cX8_papers 19 = .ok (.iaload, 1) := by decide +kernel
theorem dX8_papers_20 : decode cX8_papers 20 = .ok (.ifCond .ge 8, 3) := by decide +kernel
theorem dX8_papers_23 : decode cX8_papers 23 = .ok (.aload_n 0, 1) := by decide +kernel
theorem dX8_papers_24 : decode cX8_papers 24 = .ok (.invokevirtual 233, 3) := by decide +kernel
theorem dX8_papers_27 : decode cX8_papers 27 = .ok (.ireturn, 1) := by decide +kernel
theorem dX8_papers_28 : decode cX8_papers 28 = .ok (.aload_n 0, 1) := by decide +kernel
theorem dX8_papers_29 : decode cX8_papers 29 = .ok (.invokevirtual 227, 3) := by decide +kernel
theorem dX8_papers_32 : decode cX8_papers 32 = .ok (.aload_n 0, 1) := by decide +kernel
theorem dX8_papers_33 : decode cX8_papers 33 = .ok (.getfield 25, 3) := by decide +kernel
theorem dX8_papers_36 : decode cX8_papers 36 = .ok (.iconst 1, 1) := by decide +kernel
theorem dX8_papers_37 : decode cX8_papers 37 = .ok (.iload_n 1, 1) := by decide +kernel
theorem dX8_papers_38 : decode cX8_papers 38 = .ok (.iadd, 1) := by decide +kernel
theorem dX8_papers_39 : decode cX8_papers 39 = .ok (.iconst (-1), 1) := by decide +kernel
theorem dX8_papers_40 : decode cX8_papers 40 = .ok (.iastore, 1) := by decide +kernel
theorem dX8_papers_41 : decode cX8_papers 41 = .ok (.iconst 1, 1) := by decide +kernel
theorem dX8_papers_42 : decode cX8_papers 42 = .ok (.ireturn, 1) := by decide +kernel
theorem dX8_goes_0 : decode cX8_goes 0 = .ok (.aload_n 0, 1) := by decide +kernel
theorem dX8_goes_1 : decode cX8_goes 1 = .ok (.iload_n 1, 1) := by decide +kernel
theorem dX8_goes_2 : decode cX8_goes 2 = .ok (.invokevirtual 236, 3) := by decide +kernel
theorem dX8_goes_5 : decode cX8_goes 5 = .ok (.ifCond .eq 10, 3) := by decide +kernel
theorem dX8_goes_8 : decode cX8_goes 8 = .ok (.iload_n 2, 1) := by decide +kernel
theorem dX8_goes_9 : decode cX8_goes 9 = .ok (.invokestatic 95, 3) := by decide +kernel
theorem dX8_goes_12 : decode cX8_goes 12 = .ok (.ifCond .ne 8, 3) := by decide +kernel
theorem dX8_goes_15 : decode cX8_goes 15 = .ok (.aload_n 0, 1) := by decide +kernel
theorem dX8_goes_16 : decode cX8_goes 16 = .ok (.invokevirtual 101, 3) := by decide +kernel
theorem dX8_goes_19 : decode cX8_goes 19 = .ok (.ireturn, 1) := by decide +kernel
theorem dX8_goes_20 : decode cX8_goes 20 = .ok (.aload_n 0, 1) := by decide +kernel
theorem dX8_goes_21 : decode cX8_goes 21 = .ok (.getfield 25, 3) := by decide +kernel
theorem dX8_goes_24 : decode cX8_goes 24 = .ok (.iconst 5, 1) := by decide +kernel
theorem dX8_goes_25 : decode cX8_goes 25 = .ok (.iload_n 1, 1) := by decide +kernel
theorem dX8_goes_26 : decode cX8_goes 26 = .ok (.iadd, 1) := by decide +kernel
theorem dX8_goes_27 : decode cX8_goes 27 = .ok (.iaload, 1) := by decide +kernel
theorem dX8_goes_28 : decode cX8_goes 28 = .ok (.istore_n 3, 1) := by decide +kernel
theorem dX8_goes_29 : decode cX8_goes 29 = .ok (.iload_n 3, 1) := by decide +kernel
theorem dX8_goes_30 : decode cX8_goes 30 = .ok (.iload_n 2, 1) := by decide +kernel
theorem dX8_goes_31 : decode cX8_goes 31 = .ok (.if_icmp .ne 8, 3) := by decide +kernel
theorem dX8_goes_34 : decode cX8_goes 34 = .ok (.aload_n 0, 1) := by decide +kernel
theorem dX8_goes_35 : decode cX8_goes 35 = .ok (.invokevirtual 233, 3) := by decide +kernel
theorem dX8_goes_38 : decode cX8_goes 38 = .ok (.ireturn, 1) := by decide +kernel
theorem dX8_goes_39 : decode cX8_goes 39 = .ok (.aload_n 0, 1) := by decide +kernel
theorem dX8_goes_40 : decode cX8_goes 40 = .ok (.invokevirtual 227, 3) := by decide +kernel
theorem dX8_goes_43 : decode cX8_goes 43 = .ok (.aload_n 0, 1) := by decide +kernel
theorem dX8_goes_44 : decode cX8_goes 44 = .ok (.getfield 25, 3) := by decide +kernel
theorem dX8_goes_47 : decode cX8_goes 47 = .ok (.iconst 5, 1) := by decide +kernel
theorem dX8_goes_48 : decode cX8_goes 48 = .ok (.iload_n 1, 1) := by decide +kernel
theorem dX8_goes_49 : decode cX8_goes 49 = .ok (.iadd, 1) := by decide +kernel
theorem dX8_goes_50 : decode cX8_goes 50 = .ok (.iload_n 2, 1) := by decide +kernel
theorem dX8_goes_51 : decode cX8_goes 51 = .ok (.iastore, 1) := by decide +kernel
theorem dX8_goes_52 : decode cX8_goes 52 = .ok (.iload_n 3, 1) := by decide +kernel
theorem dX8_goes_53 : decode cX8_goes 53 = .ok (.ireturn, 1) := by decide +kernel
theorem dX8_minutes_0 : decode cX8_minutes 0 = .ok (.iload_n 1, 1) := by decide +kernel
theorem dX8_minutes_1 : decode cX8_minutes 1 = .ok (.i2l, 1) := by decide +kernel
theorem dX8_minutes_2 : decode cX8_minutes 2 = .ok (.lconst 1, 1) := by decide +kernel
theorem dX8_minutes_3 : decode cX8_minutes 3 = .ok (.ldc2_w 239, 3) := by decide +kernel
theorem dX8_minutes_6 : decode cX8_minutes 6 = .ok (.invokestatic 68, 3) := by decide +kernel
theorem dX8_minutes_9 : decode cX8_minutes 9 = .ok (.ifCond .ne 8, 3) := by decide +kernel
theorem dX8_minutes_12 : decode cX8_minutes 12 = .ok (.aload_n 0, 1) := by decide +kernel
theorem dX8_minutes_13 : decode cX8_minutes 13 = .ok (.invokevirtual 101, 3) := by decide +kernel
theorem dX8_minutes_16 : decode cX8_minutes 16 = .ok (.ireturn, 1) := by decide +kernel
theorem dX8_minutes_17 : decode cX8_minutes 17 = .ok (.aload_n 0, 1) := by decide +kernel
theorem dX8_minutes_18 : decode cX8_minutes 18 = .ok (.invokevirtual 227, 3) := by decide +kernel
theorem dX8_minutes_21 : decode cX8_minutes 21 = .ok (.aload_n 0, 1) := by decide +kernel
theorem dX8_minutes_22 : decode cX8_minutes 22 = .ok (.iload_n 1, 1) := by decide +kernel
theorem dX8_minutes_23 : decode cX8_minutes 23 = .ok (.invokevirtual 218, 3) := by decide +kernel
theorem dX8_minutes_26 : decode cX8_minutes 26 = .ok (.aload_n 0, 1) := by decide +kernel
theorem dX8_minutes_27 : decode cX8_minutes 27 = .ok (.invokevirtual 241, 3) := by decide +kernel
theorem dX8_minutes_30 : decode cX8_minutes 30 = .ok (.ireturn, 1) := by decide +kernel
theorem dX8_undo_0 : decode cX8_undo 0 = .ok (.aload_n 0, 1) := by decide +kernel
theorem dX8_undo_1 : decode cX8_undo 1 = .ok (.getfield 90, 3) := by decide +kernel
theorem dX8_undo_4 : decode cX8_undo 4 = .ok (.ifCond .ne 8, 3) := by decide +kernel
theorem dX8_undo_7 : decode cX8_undo 7 = .ok (.aload_n 0, 1) := by decide +kernel
theorem dX8_undo_8 : decode cX8_undo 8 = .ok (.invokevirtual 233, 3) := by decide +kernel
theorem dX8_undo_11 : decode cX8_undo 11 = .ok (.ireturn, 1) := by decide +kernel
theorem dX8_undo_12 : decode cX8_undo 12 = .ok (.aload_n 0, 1) := by decide +kernel
theorem dX8_undo_13 : decode cX8_undo 13 = .ok (.dup, 1) := by decide +kernel
theorem dX8_undo_14 : decode cX8_undo 14 = .ok (.getfield 90, 3) := by decide +kernel
theorem dX8_undo_17 : decode cX8_undo 17 = .ok (.iconst 1, 1) := by decide +kernel
theorem dX8_undo_18 : decode cX8_undo 18 = .ok (.isub, 1) := by decide +kernel
theorem dX8_undo_19 : decode cX8_undo 19 = .ok (.putfield 90, 3) := by decide +kernel
theorem dX8_undo_22 : decode cX8_undo 22 = .ok (.iconst 0, 1) := by decide +kernel
theorem dX8_undo_23 : decode cX8_undo 23 = .ok (.istore_n 1, 1) := by decide +kernel
theorem dX8_undo_24 : decode cX8_undo 24 = .ok (.iload_n 1, 1) := by decide +kernel
theorem dX8_undo_25 : decode cX8_undo 25 = .ok (.bipush 11, 2) := by decide +kernel
theorem dX8_undo_27 : decode cX8_undo 27 = .ok (.if_icmp .ge 29, 3) := by decide +kernel
theorem dX8_undo_30 : decode cX8_undo 30 = .ok (.aload_n 0, 1) := by decide +kernel
theorem dX8_undo_31 : decode cX8_undo 31 = .ok (.getfield 25, 3) := by decide +kernel
theorem dX8_undo_34 : decode cX8_undo 34 = .ok (.iload_n 1, 1) := by decide +kernel
theorem dX8_undo_35 : decode cX8_undo 35 = .ok (.aload_n 0, 1) := by decide +kernel
theorem dX8_undo_36 : decode cX8_undo 36 = .ok (.getfield 34, 3) := by decide +kernel
theorem dX8_undo_39 : decode cX8_undo 39 = .ok (.bipush 11, 2) := by decide +kernel
theorem dX8_undo_41 : decode cX8_undo 41 = .ok (.aload_n 0, 1) := by decide +kernel
theorem dX8_undo_42 : decode cX8_undo 42 = .ok (.getfield 90, 3) := by decide +kernel
theorem dX8_undo_45 : decode cX8_undo 45 = .ok (.imul, 1) := by decide +kernel
theorem dX8_undo_46 : decode cX8_undo 46 = .ok (.iload_n 1, 1) := by decide +kernel
theorem dX8_undo_47 : decode cX8_undo 47 = .ok (.iadd, 1) := by decide +kernel
theorem dX8_undo_48 : decode cX8_undo 48 = .ok (.iaload, 1) := by decide +kernel
theorem dX8_undo_49 : decode cX8_undo 49 = .ok (.iastore, 1) := by decide +kernel
theorem dX8_undo_50 : decode cX8_undo 50 = .ok (.iinc 1 1, 3) := by decide +kernel
theorem dX8_undo_53 : decode cX8_undo 53 = .ok (.goto (-29), 3) := by decide +kernel
theorem dX8_undo_56 : decode cX8_undo 56 = .ok (.aload_n 0, 1) := by decide +kernel
theorem dX8_undo_57 : decode cX8_undo 57 = .ok (.getfield 25, 3) := by decide +kernel
theorem dX8_undo_60 : decode cX8_undo 60 = .ok (.iconst 0, 1) := by decide +kernel
theorem dX8_undo_61 : decode cX8_undo 61 = .ok (.iaload, 1) := by decide +kernel
theorem dX8_undo_62 : decode cX8_undo 62 = .ok (.ireturn, 1) := by decide +kernel
theorem dX8_of_0 : decode cX8_of 0 = .ok (.aload_n 0, 1) := by decide +kernel
theorem dX8_of_1 : decode cX8_of 1 = .ok (.iload_n 1, 1) := by decide +kernel
theorem dX8_of_2 : decode cX8_of 2 = .ok (.invokevirtual 244, 3) := by decide +kernel
theorem dX8_of_5 : decode cX8_of 5 = .ok (.ifCond .eq 15, 3) := by decide +kernel
theorem dX8_of_8 : decode cX8_of 8 = .ok (.iload_n 2, 1) := by decide +kernel
theorem dX8_of_9 : decode cX8_of 9 = .ok (.i2l, 1) := by decide +kernel
theorem dX8_of_10 : decode cX8_of 10 = .ok (.lconst 0, 1) := by decide +kernel
theorem dX8_of_11 : decode cX8_of 11 = .ok (.ldc2_w 66, 3) := by decide +kernel
theorem dX8_of_14 : decode cX8_of 14 = .ok (.invokestatic 68, 3) := by decide +kernel
theorem dX8_of_17 : decode cX8_of 17 = .ok (.ifCond .ne 8, 3) := by decide +kernel
theorem dX8_of_20 : decode cX8_of 20 = .ok (.aload_n 0, 1) := by decide +kernel
theorem dX8_of_21 : decode cX8_of 21 = .ok (.invokevirtual 101, 3) := by decide +kernel
theorem dX8_of_24 : decode cX8_of 24 = .ok (.ireturn, 1) := by decide +kernel
theorem dX8_of_25 : decode cX8_of 25 = .ok (.iload_n 2, 1) := by decide +kernel
theorem dX8_of_26 : decode cX8_of 26 = .ok (.ifCond .ne 12, 3) := by decide +kernel
theorem dX8_of_29 : decode cX8_of 29 = .ok (.aload_n 0, 1) := by decide +kernel
theorem dX8_of_30 : decode cX8_of 30 = .ok (.getfield 13, 3) := by decide +kernel
theorem dX8_of_33 : decode cX8_of 33 = .ok (.iload_n 1, 1) := by decide +kernel
theorem dX8_of_34 : decode cX8_of 34 = .ok (.iaload, 1) := by decide +kernel
theorem dX8_of_35 : decode cX8_of 35 = .ok (.goto 23, 3) := by decide +kernel
theorem dX8_of_38 : decode cX8_of 38 = .ok (.iload_n 2, 1) := by decide +kernel
theorem dX8_of_39 : decode cX8_of 39 = .ok (.iconst 1, 1) := by decide +kernel
theorem dX8_of_40 : decode cX8_of 40 = .ok (.if_icmp .ne 12, 3) := by decide +kernel
theorem dX8_of_43 : decode cX8_of 43 = .ok (.aload_n 0, 1) := by decide +kernel
theorem dX8_of_44 : decode cX8_of 44 = .ok (.getfield 16, 3) := by decide +kernel
theorem dX8_of_47 : decode cX8_of 47 = .ok (.iload_n 1, 1) := by decide +kernel
theorem dX8_of_48 : decode cX8_of 48 = .ok (.iaload, 1) := by decide +kernel
theorem dX8_of_49 : decode cX8_of 49 = .ok (.goto 9, 3) := by decide +kernel
theorem dX8_of_52 : decode cX8_of 52 = .ok (.aload_n 0, 1) := by decide +kernel
theorem dX8_of_53 : decode cX8_of 53 = .ok (.getfield 19, 3) := by decide +kernel
theorem dX8_of_56 : decode cX8_of 56 = .ok (.iload_n 1, 1) := by decide +kernel
theorem dX8_of_57 : decode cX8_of 57 = .ok (.iaload, 1) := by decide +kernel
theorem dX8_of_58 : decode cX8_of 58 = .ok (.ireturn, 1) := by decide +kernel
theorem dX8_about_0 : decode cX8_about 0 = .ok (.aload_n 0, 1) := by decide +kernel
theorem dX8_about_1 : decode cX8_about 1 = .ok (.iload_n 1, 1) := by decide +kernel
theorem dX8_about_2 : decode cX8_about 2 = .ok (.invokevirtual 236, 3) := by decide +kernel
theorem dX8_about_5 : decode cX8_about 5 = .ok (.ifCond .eq 15, 3) := by decide +kernel
theorem dX8_about_8 : decode cX8_about 8 = .ok (.iload_n 2, 1) := by decide +kernel
theorem dX8_about_9 : decode cX8_about 9 = .ok (.i2l, 1) := by decide +kernel
theorem dX8_about_10 : decode cX8_about 10 = .ok (.lconst 0, 1) := by decide +kernel
theorem dX8_about_11 : decode cX8_about 11 = .ok (.ldc2_w 79, 3) := by decide +kernel
theorem dX8_about_14 : decode cX8_about 14 = .ok (.invokestatic 68, 3) := by decide +kernel
theorem dX8_about_17 : decode cX8_about 17 = .ok (.ifCond .ne 8, 3) := by decide +kernel
theorem dX8_about_20 : decode cX8_about 20 = .ok (.aload_n 0, 1) := by decide +kernel
theorem dX8_about_21 : decode cX8_about 21 = .ok (.invokevirtual 101, 3) := by decide +kernel
theorem dX8_about_24 : decode cX8_about 24 = .ok (.ireturn, 1) := by decide +kernel
theorem dX8_about_25 : decode cX8_about 25 = .ok (.iload_n 2, 1) := by decide +kernel
theorem dX8_about_26 : decode cX8_about 26 = .ok (.ifCond .ne 12, 3) := by decide +kernel
theorem dX8_about_29 : decode cX8_about 29 = .ok (.aload_n 0, 1) := by decide +kernel
theorem dX8_about_30 : decode cX8_about 30 = .ok (.getfield 22, 3) := by decide +kernel
theorem dX8_about_33 : decode cX8_about 33 = .ok (.iload_n 1, 1) := by decide +kernel
theorem dX8_about_34 : decode cX8_about 34 = .ok (.iaload, 1) := by decide +kernel
theorem dX8_about_35 : decode cX8_about 35 = .ok (.goto 41, 3) := by decide +kernel
theorem dX8_about_38 : decode cX8_about 38 = .ok (.iload_n 2, 1) := by decide +kernel
theorem dX8_about_39 : decode cX8_about 39 = .ok (.iconst 1, 1) := by decide +kernel
theorem dX8_about_40 : decode cX8_about 40 = .ok (.if_icmp .ne 14, 3) := by decide +kernel
theorem dX8_about_43 : decode cX8_about 43 = .ok (.aload_n 0, 1) := by decide +kernel
theorem dX8_about_44 : decode cX8_about 44 = .ok (.getfield 25, 3) := by decide +kernel
theorem dX8_about_47 : decode cX8_about 47 = .ok (.iconst 5, 1) := by decide +kernel
theorem dX8_about_48 : decode cX8_about 48 = .ok (.iload_n 1, 1) := by decide +kernel
theorem dX8_about_49 : decode cX8_about 49 = .ok (.iadd, 1) := by decide +kernel
theorem dX8_about_50 : decode cX8_about 50 = .ok (.iaload, 1) := by decide +kernel
theorem dX8_about_51 : decode cX8_about 51 = .ok (.goto 25, 3) := by decide +kernel
theorem dX8_about_54 : decode cX8_about 54 = .ok (.iload_n 2, 1) := by decide +kernel
theorem dX8_about_55 : decode cX8_about 55 = .ok (.iconst 2, 1) := by decide +kernel
theorem dX8_about_56 : decode cX8_about 56 = .ok (.if_icmp .ne 15, 3) := by decide +kernel
theorem dX8_about_59 : decode cX8_about 59 = .ok (.aload_n 0, 1) := by decide +kernel
theorem dX8_about_60 : decode cX8_about 60 = .ok (.getfield 25, 3) := by decide +kernel
theorem dX8_about_63 : decode cX8_about 63 = .ok (.bipush 8, 2) := by decide +kernel
theorem dX8_about_65 : decode cX8_about 65 = .ok (.iload_n 1, 1) := by decide +kernel
theorem dX8_about_66 : decode cX8_about 66 = .ok (.iadd, 1) := by decide +kernel
theorem dX8_about_67 : decode cX8_about 67 = .ok (.iaload, 1) := by decide +kernel
theorem dX8_about_68 : decode cX8_about 68 = .ok (.goto 8, 3) := by decide +kernel
theorem dX8_about_71 : decode cX8_about 71 = .ok (.aload_n 0, 1) := by decide +kernel
theorem dX8_about_72 : decode cX8_about 72 = .ok (.iload_n 1, 1) := by decide +kernel
theorem dX8_about_73 : decode cX8_about 73 = .ok (.invokevirtual 148, 3) := by decide +kernel
theorem dX8_about_76 : decode cX8_about 76 = .ok (.ireturn, 1) := by decide +kernel
theorem dX8_room_0 : decode cX8_room 0 = .ok (.iload_n 1, 1) := by decide +kernel
theorem dX8_room_1 : decode cX8_room 1 = .ok (.invokestatic 95, 3) := by decide +kernel
theorem dX8_room_4 : decode cX8_room 4 = .ok (.ifCond .eq 13, 3) := by decide +kernel
theorem dX8_room_7 : decode cX8_room 7 = .ok (.iload_n 2, 1) := by decide +kernel
theorem dX8_room_8 : decode cX8_room 8 = .ok (.i2l, 1) := by decide +kernel
theorem dX8_room_9 : decode cX8_room 9 = .ok (.lconst 0, 1) := by decide +kernel
theorem dX8_room_10 : decode cX8_room 10 = .ok (.lconst 1, 1) := by decide +kernel
theorem dX8_room_11 : decode cX8_room 11 = .ok (.invokestatic 68, 3) := by decide +kernel
theorem dX8_room_14 : decode cX8_room 14 = .ok (.ifCond .ne 8, 3) := by decide +kernel
theorem dX8_room_17 : decode cX8_room 17 = .ok (.aload_n 0, 1) := by decide +kernel
theorem dX8_room_18 : decode cX8_room 18 = .ok (.invokevirtual 101, 3) := by decide +kernel
theorem dX8_room_21 : decode cX8_room 21 = .ok (.ireturn, 1) := by decide +kernel
theorem dX8_room_22 : decode cX8_room 22 = .ok (.iload_n 2, 1) := by decide +kernel
theorem dX8_room_23 : decode cX8_room 23 = .ok (.ifCond .ne 11, 3) := by decide +kernel
theorem dX8_room_26 : decode cX8_room 26 = .ok (.aload_n 0, 1) := by decide +kernel
theorem dX8_room_27 : decode cX8_room 27 = .ok (.iload_n 1, 1) := by decide +kernel
theorem dX8_room_28 : decode cX8_room 28 = .ok (.invokevirtual 138, 3) := by decide +kernel
theorem dX8_room_31 : decode cX8_room 31 = .ok (.goto 8, 3) := by decide +kernel
theorem dX8_room_34 : decode cX8_room 34 = .ok (.aload_n 0, 1) := by decide +kernel
theorem dX8_room_35 : decode cX8_room 35 = .ok (.iload_n 1, 1) := by decide +kernel
theorem dX8_room_36 : decode cX8_room 36 = .ok (.invokevirtual 230, 3) := by decide +kernel
theorem dX8_room_39 : decode cX8_room 39 = .ok (.ireturn, 1) := by decide +kernel
theorem dX8_loud_0 : decode cX8_loud 0 = .ok (.aload_n 0, 1) := by decide +kernel
theorem dX8_loud_1 : decode cX8_loud 1 = .ok (.iload_n 1, 1) := by decide +kernel
theorem dX8_loud_2 : decode cX8_loud 2 = .ok (.invokevirtual 244, 3) := by decide +kernel
theorem dX8_loud_5 : decode cX8_loud 5 = .ok (.ifCond .eq 24, 3) := by decide +kernel
theorem dX8_loud_8 : decode cX8_loud 8 = .ok (.iload_n 2, 1) := by decide +kernel
theorem dX8_loud_9 : decode cX8_loud 9 = .ok (.i2l, 1) := by decide +kernel
theorem dX8_loud_10 : decode cX8_loud 10 = .ok (.lconst 0, 1) := by decide +kernel
theorem dX8_loud_11 : decode cX8_loud 11 = .ok (.ldc2_w 247, 3) := by decide +kernel
theorem dX8_loud_14 : decode cX8_loud 14 = .ok (.invokestatic 68, 3) := by decide +kernel
theorem dX8_loud_17 : decode cX8_loud 17 = .ok (.ifCond .eq 12, 3) := by decide +kernel
theorem dX8_loud_20 : decode cX8_loud 20 = .ok (.aload_n 0, 1) := by decide +kernel
theorem dX8_loud_21 : decode cX8_loud 21 = .ok (.iload_n 1, 1) := by decide +kernel
theorem dX8_loud_22 : decode cX8_loud 22 = .ok (.iload_n 2, 1) := by decide +kernel
theorem dX8_loud_23 : decode cX8_loud 23 = .ok (.invokevirtual 124, 3) := by decide +kernel
theorem dX8_loud_26 : decode cX8_loud 26 = .ok (.goto 7, 3) := by decide +kernel
theorem dX8_loud_29 : decode cX8_loud 29 = .ok (.aload_n 0, 1) := by decide +kernel
theorem dX8_loud_30 : decode cX8_loud 30 = .ok (.invokevirtual 101, 3) := by decide +kernel
theorem dX8_loud_33 : decode cX8_loud 33 = .ok (.ireturn, 1) := by decide +kernel
theorem dX8_first_0 : decode cX8_first 0 = .ok (.aload_n 0, 1) := by decide +kernel
theorem dX8_first_1 : decode cX8_first 1 = .ok (.iload_n 1, 1) := by decide +kernel
theorem dX8_first_2 : decode cX8_first 2 = .ok (.invokevirtual 236, 3) := by decide +kernel
theorem dX8_first_5 : decode cX8_first 5 = .ok (.ifCond .eq 11, 3) := by decide +kernel
theorem dX8_first_8 : decode cX8_first 8 = .ok (.aload_n 0, 1) := by decide +kernel
theorem dX8_first_9 : decode cX8_first 9 = .ok (.iload_n 2, 1) := by decide +kernel
theorem dX8_first_10 : decode cX8_first 10 = .ok (.invokevirtual 244, 3) := by decide +kernel
theorem dX8_first_13 : decode cX8_first 13 = .ok (.ifCond .ne 8, 3) := by decide +kernel
theorem dX8_first_16 : decode cX8_first 16 = .ok (.aload_n 0, 1) := by decide +kernel
theorem dX8_first_17 : decode cX8_first 17 = .ok (.invokevirtual 101, 3) := by decide +kernel
theorem dX8_first_20 : decode cX8_first 20 = .ok (.ireturn, 1) := by decide +kernel
theorem dX8_first_21 : decode cX8_first 21 = .ok (.aload_n 0, 1) := by decide +kernel
theorem dX8_first_22 : decode cX8_first 22 = .ok (.getfield 25, 3) := by decide +kernel
theorem dX8_first_25 : decode cX8_first 25 = .ok (.iconst 0, 1) := by decide +kernel
theorem dX8_first_26 : decode cX8_first 26 = .ok (.iaload, 1) := by decide +kernel
theorem dX8_first_27 : decode cX8_first 27 = .ok (.istore_n 3, 1) := by decide +kernel
theorem dX8_first_28 : decode cX8_first 28 = .ok (.iconst (-1), 1) := by decide +kernel
theorem dX8_first_29 : decode cX8_first 29 = .ok (.istore 4, 2) := by decide +kernel
theorem dX8_first_31 : decode cX8_first 31 = .ok (.iconst 0, 1) := by decide +kernel
theorem dX8_first_32 : decode cX8_first 32 = .ok (.istore 5, 2) := by decide +kernel
theorem dX8_first_34 : decode cX8_first 34 = .ok (.iload 5, 2) := by decide +kernel
theorem dX8_first_36 : decode cX8_first 36 = .ok (.bipush 41, 2) := by decide +kernel
theorem dX8_first_38 : decode cX8_first 38 = .ok (.if_icmp .ge 46, 3) := by decide +kernel
theorem dX8_first_41 : decode cX8_first 41 = .ok (.iload 4, 2) := by decide +kernel
theorem dX8_first_43 : decode cX8_first 43 = .ok (.iconst (-1), 1) := by decide +kernel
theorem dX8_first_44 : decode cX8_first 44 = .ok (.if_icmp .ne 40, 3) := by decide +kernel
theorem dX8_first_47 : decode cX8_first 47 = .ok (.aload_n 0, 1) := by decide +kernel
theorem dX8_first_48 : decode cX8_first 48 = .ok (.iload_n 1, 1) := by decide +kernel
theorem dX8_first_49 : decode cX8_first 49 = .ok (.invokevirtual 148, 3) := by decide +kernel
theorem dX8_first_52 : decode cX8_first 52 = .ok (.iload_n 2, 1) := by decide +kernel
theorem dX8_first_53 : decode cX8_first 53 = .ok (.ishr, 1) := by decide +kernel
theorem dX8_first_54 : decode cX8_first 54 = .ok (.iconst 1, 1) := by decide +kernel
theorem dX8_first_55 : decode cX8_first 55 = .ok (.iand, 1) := by decide +kernel
theorem dX8_first_56 : decode cX8_first 56 = .ok (.iconst 1, 1) := by decide +kernel
theorem dX8_first_57 : decode cX8_first 57 = .ok (.if_icmp .ne 8, 3) := by decide +kernel
theorem dX8_first_60 : decode cX8_first 60 = .ok (.iload 5, 2) := by decide +kernel
theorem dX8_first_62 : decode cX8_first 62 = .ok (.goto 4, 3) := by decide +kernel
theorem dX8_first_65 : decode cX8_first 65 = .ok (.iconst (-1), 1) := by decide +kernel
theorem dX8_first_66 : decode cX8_first 66 = .ok (.istore 4, 2) := by decide +kernel
theorem dX8_first_68 : decode cX8_first 68 = .ok (.aload_n 0, 1) := by decide +kernel
theorem dX8_first_69 : decode cX8_first 69 = .ok (.getfield 25, 3) := by decide +kernel
theorem dX8_first_72 : decode cX8_first 72 = .ok (.iconst 0, 1) := by decide +kernel
theorem dX8_first_73 : decode cX8_first 73 = .ok (.dup2, 1) := by decide +kernel
theorem dX8_first_74 : decode cX8_first 74 = .ok (.iaload, 1) := by decide +kernel
theorem dX8_first_75 : decode cX8_first 75 = .ok (.iconst 1, 1) := by decide +kernel
theorem dX8_first_76 : decode cX8_first 76 = .ok (.iadd, 1) := by decide +kernel
theorem dX8_first_77 : decode cX8_first 77 = .ok (.iastore, 1) := by decide +kernel
theorem dX8_first_78 : decode cX8_first 78 = .ok (.iinc 5 1, 3) := by decide +kernel
theorem dX8_first_81 : decode cX8_first 81 = .ok (.goto (-47), 3) := by decide +kernel
theorem dX8_first_84 : decode cX8_first 84 = .ok (.aload_n 0, 1) := by decide +kernel
theorem dX8_first_85 : decode cX8_first 85 = .ok (.getfield 25, 3) := by decide +kernel
theorem dX8_first_88 : decode cX8_first 88 = .ok (.iconst 0, 1) := by decide +kernel
theorem dX8_first_89 : decode cX8_first 89 = .ok (.iload_n 3, 1) := by decide +kernel
theorem dX8_first_90 : decode cX8_first 90 = .ok (.iastore, 1) := by decide +kernel
theorem dX8_first_91 : decode cX8_first 91 = .ok (.iload 4, 2) := by decide +kernel
theorem dX8_first_93 : decode cX8_first 93 = .ok (.ireturn, 1) := by decide +kernel
theorem dX8_stays_0 : decode cX8_stays 0 = .ok (.iconst 0, 1) := by decide +kernel
theorem dX8_stays_1 : decode cX8_stays 1 = .ok (.istore 5, 2) := by decide +kernel
theorem dX8_stays_3 : decode cX8_stays 3 = .ok (.iconst (-1), 1) := by decide +kernel
theorem dX8_stays_4 : decode cX8_stays 4 = .ok (.istore 6, 2) := by decide +kernel
theorem dX8_stays_6 : decode cX8_stays 6 = .ok (.iconst 0, 1) := by decide +kernel
theorem dX8_stays_7 : decode cX8_stays 7 = .ok (.istore 7, 2) := by decide +kernel
theorem dX8_stays_9 : decode cX8_stays 9 = .ok (.iload 7, 2) := by decide +kernel
theorem dX8_stays_11 : decode cX8_stays 11 = .ok (.bipush 31, 2) := by decide +kernel
theorem dX8_stays_13 : decode cX8_stays 13 = .ok (.if_icmp .ge 74, 3) := by decide +kernel
theorem dX8_stays_16 : decode cX8_stays 16 = .ok (.iload 6, 2) := by decide +kernel
theorem dX8_stays_18 : decode cX8_stays 18 = .ok (.iconst (-1), 1) := by decide +kernel
theorem dX8_stays_19 : decode cX8_stays 19 = .ok (.if_icmp .ne 68, 3) := by decide +kernel
theorem dX8_stays_22 : decode cX8_stays 22 = .ok (.iload_n 2, 1) := by decide +kernel
theorem dX8_stays_23 : decode cX8_stays 23 = .ok (.aload_n 0, 1) := by decide +kernel
theorem dX8_stays_24 : decode cX8_stays 24 = .ok (.getfield 25, 3) := by decide +kernel
theorem dX8_stays_27 : decode cX8_stays 27 = .ok (.bipush 8, 2) := by decide +kernel
theorem dX8_stays_29 : decode cX8_stays 29 = .ok (.iload_n 1, 1) := by decide +kernel
theorem dX8_stays_30 : decode cX8_stays 30 = .ok (.iadd, 1) := by decide +kernel
theorem dX8_stays_31 : decode cX8_stays 31 = .ok (.iaload, 1) := by decide +kernel
theorem dX8_stays_32 : decode cX8_stays 32 = .ok (.iload 5, 2) := by decide +kernel
theorem dX8_stays_34 : decode cX8_stays 34 = .ok (.ior, 1) := by decide +kernel
theorem dX8_stays_35 : decode cX8_stays 35 = .ok (.iconst (-1), 1) := by decide +kernel
theorem dX8_stays_36 : decode cX8_stays 36 = .ok (.ixor, 1) := by decide +kernel
theorem dX8_stays_37 : decode cX8_stays 37 = .ok (.iand, 1) := by decide +kernel
theorem dX8_stays_38 : decode cX8_stays 38 = .ok (.ifCond .ne 15, 3) := by decide +kernel
theorem dX8_stays_41 : decode cX8_stays 41 = .ok (.iload_n 3, 1) := by decide +kernel
theorem dX8_stays_42 : decode cX8_stays 42 = .ok (.iload 5, 2) := by decide +kernel
theorem dX8_stays_44 : decode cX8_stays 44 = .ok (.iand, 1) := by decide +kernel
theorem dX8_stays_45 : decode cX8_stays 45 = .ok (.ifCond .ne 8, 3) := by decide +kernel
theorem dX8_stays_48 : decode cX8_stays 48 = .ok (.iload 7, 2) := by decide +kernel
theorem dX8_stays_50 : decode cX8_stays 50 = .ok (.goto 4, 3) := by decide +kernel
theorem dX8_stays_53 : decode cX8_stays 53 = .ok (.iconst (-1), 1) := by decide +kernel
theorem dX8_stays_54 : decode cX8_stays 54 = .ok (.istore 6, 2) := by decide +kernel
theorem dX8_stays_56 : decode cX8_stays 56 = .ok (.iload 5, 2) := by decide +kernel
theorem dX8_stays_58 : decode cX8_stays 58 = .ok (.iload 7, 2) := by decide +kernel
theorem dX8_stays_60 : decode cX8_stays 60 = .ok (.bipush 30, 2) := by decide +kernel
theorem dX8_stays_62 : decode cX8_stays 62 = .ok (.if_icmp .ge 15, 3) := by decide +kernel
theorem dX8_stays_65 : decode cX8_stays 65 = .ok (.aload_n 0, 1) := by decide +kernel
theorem dX8_stays_66 : decode cX8_stays 66 = .ok (.iload_n 1, 1) := by decide +kernel
theorem dX8_stays_67 : decode cX8_stays 67 = .ok (.iload 4, 2) := by decide +kernel
theorem dX8_stays_69 : decode cX8_stays 69 = .ok (.iload 7, 2) := by decide +kernel
theorem dX8_stays_71 : decode cX8_stays 71 = .ok (.invokevirtual 142, 3) := by decide +kernel
theorem dX8_stays_74 : decode cX8_stays 74 = .ok (.goto 4, 3) := by decide +kernel
theorem dX8_stays_77 : decode cX8_stays 77 = .ok (.iconst 0, 1) := by decide +kernel
theorem dX8_stays_78 : decode cX8_stays 78 = .ok (.ior, 1) := by decide +kernel
theorem dX8_stays_79 : decode cX8_stays 79 = .ok (.istore 5, 2) := by decide +kernel
theorem dX8_stays_81 : decode cX8_stays 81 = .ok (.iinc 7 1, 3) := by decide +kernel
theorem dX8_stays_84 : decode cX8_stays 84 = .ok (.goto (-75), 3) := by decide +kernel
theorem dX8_stays_87 : decode cX8_stays 87 = .ok (.iload 6, 2) := by decide +kernel
theorem dX8_stays_89 : decode cX8_stays 89 = .ok (.ireturn, 1) := by decide +kernel
theorem dX8_stay_0 : decode cX8_stay 0 = .ok (.iconst 1, 1) := by decide +kernel
theorem dX8_stay_1 : decode cX8_stay 1 = .ok (.aload_n 0, 1) := by decide +kernel
theorem dX8_stay_2 : decode cX8_stay 2 = .ok (.getfield 72, 3) := by decide +kernel
theorem dX8_stay_5 : decode cX8_stay 5 = .ok (.ishl, 1) := by decide +kernel
theorem dX8_stay_6 : decode cX8_stay 6 = .ok (.iconst 1, 1) := by decide +kernel
theorem dX8_stay_7 : decode cX8_stay 7 = .ok (.isub, 1) := by decide +kernel
theorem dX8_stay_8 : decode cX8_stay 8 = .ok (.istore 5, 2) := by decide +kernel
theorem dX8_stay_10 : decode cX8_stay 10 = .ok (.aload_n 0, 1) := by decide +kernel
theorem dX8_stay_11 : decode cX8_stay 11 = .ok (.iload_n 1, 1) := by decide +kernel
theorem dX8_stay_12 : decode cX8_stay 12 = .ok (.invokevirtual 236, 3) := by decide +kernel
theorem dX8_stay_15 : decode cX8_stay 15 = .ok (.ifCond .eq 48, 3) := by decide +kernel
theorem dX8_stay_18 : decode cX8_stay 18 = .ok (.iload_n 2, 1) := by decide +kernel
theorem dX8_stay_19 : decode cX8_stay 19 = .ok (.i2l, 1) := by decide +kernel
theorem dX8_stay_20 : decode cX8_stay 20 = .ok (.lconst 0, 1) := by decide +kernel
theorem dX8_stay_21 : decode cX8_stay 21 = .ok (.iload 5, 2) := by decide +kernel
theorem dX8_stay_23 : decode cX8_stay 23 = .ok (.i2l, 1) := by decide +kernel
theorem dX8_stay_24 : decode cX8_stay 24 = .ok (.invokestatic 68, 3) := by decide +kernel
theorem dX8_stay_27 : decode cX8_stay 27 = .ok (.ifCond .eq 36, 3) := by decide +kernel
theorem dX8_stay_30 : decode cX8_stay 30 = .ok (.iload_n 3, 1) := by decide +kernel
theorem dX8_stay_31 : decode cX8_stay 31 = .ok (.i2l, 1) := by decide +kernel
theorem dX8_stay_32 : decode cX8_stay 32 = .ok (.lconst 0, 1) := by decide +kernel
theorem dX8_stay_33 : decode cX8_stay 33 = .ok (.iload 5, 2) := by decide +kernel
theorem dX8_stay_35 : decode cX8_stay 35 = .ok (.i2l, 1) := by decide +kernel
theorem dX8_stay_36 : decode cX8_stay 36 = .ok (.invokestatic 68, 3) := by decide +kernel
theorem dX8_stay_39 : decode cX8_stay 39 = .ok (.ifCond .eq 24, 3) := by decide +kernel
theorem dX8_stay_42 : decode cX8_stay 42 = .ok (.iload_n 2, 1) := by decide +kernel
theorem dX8_stay_43 : decode cX8_stay 43 = .ok (.iload_n 3, 1) := by decide +kernel
theorem dX8_stay_44 : decode cX8_stay 44 = .ok (.iand, 1) := by decide +kernel
theorem dX8_stay_45 : decode cX8_stay 45 = .ok (.ifCond .ne 18, 3) := by decide +kernel
theorem dX8_stay_48 : decode cX8_stay 48 = .ok (.iload 4, 2) := by decide +kernel
theorem dX8_stay_50 : decode cX8_stay 50 = .ok (.i2l, 1) := by decide +kernel
theorem dX8_stay_51 : decode cX8_stay 51 = .ok (.ldc2_w 249, 3) := by decide +kernel
theorem dX8_stay_54 : decode cX8_stay 54 = .ok (.ldc2_w 79, 3) := by decide +kernel
theorem dX8_stay_57 : decode cX8_stay 57 = .ok (.invokestatic 68, 3) := by decide +kernel
theorem dX8_stay_60 : decode cX8_stay 60 = .ok (.ifCond .ne 8, 3) := by decide +kernel
theorem dX8_stay_63 : decode cX8_stay 63 = .ok (.aload_n 0, 1) := by decide +kernel
theorem dX8_stay_64 : decode cX8_stay 64 = .ok (.invokevirtual 101, 3) := by decide +kernel
theorem dX8_stay_67 : decode cX8_stay 67 = .ok (.ireturn, 1) := by decide +kernel
theorem dX8_stay_68 : decode cX8_stay 68 = .ok (.iload 4, 2) := by decide +kernel
theorem dX8_stay_70 : decode cX8_stay 70 = .ok (.iconst (-1), 1) := by decide +kernel
theorem dX8_stay_71 : decode cX8_stay 71 = .ok (.if_icmp .eq 13, 3) := by decide +kernel
theorem dX8_stay_74 : decode cX8_stay 74 = .ok (.aload_n 0, 1) := by decide +kernel
theorem dX8_stay_75 : decode cX8_stay 75 = .ok (.iload_n 1, 1) := by decide +kernel
theorem dX8_stay_76 : decode cX8_stay 76 = .ok (.iload_n 2, 1) := by decide +kernel
theorem dX8_stay_77 : decode cX8_stay 77 = .ok (.iload_n 3, 1) := by decide +kernel
theorem dX8_stay_78 : decode cX8_stay 78 = .ok (.iload 4, 2) := by decide +kernel
theorem dX8_stay_80 : decode cX8_stay 80 = .ok (.invokevirtual 251, 3) := by decide +kernel
theorem dX8_stay_83 : decode cX8_stay 83 = .ok (.ireturn, 1) := by decide +kernel
theorem dX8_stay_84 : decode cX8_stay 84 = .ok (.iconst (-1), 1) := by decide +kernel
theorem dX8_stay_85 : decode cX8_stay 85 = .ok (.istore 6, 2) := by decide +kernel
theorem dX8_stay_87 : decode cX8_stay 87 = .ok (.iconst 3, 1) := by decide +kernel
theorem dX8_stay_88 : decode cX8_stay 88 = .ok (.istore 7, 2) := by decide +kernel
theorem dX8_stay_90 : decode cX8_stay 90 = .ok (.iload 7, 2) := by decide +kernel
theorem dX8_stay_92 : decode cX8_stay 92 = .ok (.ifCond .lt 57, 3) := by decide +kernel
theorem dX8_stay_95 : decode cX8_stay 95 = .ok (.aload_n 0, 1) := by decide +kernel
theorem dX8_stay_96 : decode cX8_stay 96 = .ok (.iload_n 1, 1) := by decide +kernel
theorem dX8_stay_97 : decode cX8_stay 97 = .ok (.iload_n 2, 1) := by decide +kernel
theorem dX8_stay_98 : decode cX8_stay 98 = .ok (.iload_n 3, 1) := by decide +kernel
theorem dX8_stay_99 : decode cX8_stay 99 = .ok (.iload 7, 2) := by decide +kernel
theorem dX8_stay_101 : decode cX8_stay 101 = .ok (.invokevirtual 251, 3) := by decide +kernel
theorem dX8_stay_104 : decode cX8_stay 104 = .ok (.istore 8, 2) := by decide +kernel
theorem dX8_stay_106 : decode cX8_stay 106 = .ok (.iload 8, 2) := by decide +kernel
theorem dX8_stay_108 : decode cX8_stay 108 = .ok (.iconst (-1), 1) := by decide +kernel
theorem dX8_stay_109 : decode cX8_stay 109 = .ok (.if_icmp .eq 30, 3) := by decide +kernel
theorem dX8_stay_112 : decode cX8_stay 112 = .ok (.iload 6, 2) := by decide +kernel
theorem dX8_stay_114 : decode cX8_stay 114 = .ok (.iconst (-1), 1) := by decide +kernel
theorem dX8_stay_115 : decode cX8_stay 115 = .ok (.if_icmp .eq 13, 3) := by decide +kernel
theorem dX8_stay_118 : decode cX8_stay 118 = .ok (.iload 8, 2) := by decide +kernel
theorem dX8_stay_120 : decode cX8_stay 120 = .ok (.iload 6, 2) := by decide +kernel
theorem dX8_stay_122 : decode cX8_stay 122 = .ok (.bipush 100, 2) := by decide +kernel
theorem dX8_stay_124 : decode cX8_stay 124 = .ok (.idiv, 1) := by decide +kernel
theorem dX8_stay_125 : decode cX8_stay 125 = .ok (.if_icmp .gt 14, 3) := by decide +kernel
theorem dX8_stay_128 : decode cX8_stay 128 = .ok (.bipush 100, 2) := by decide +kernel
theorem dX8_stay_130 : decode cX8_stay 130 = .ok (.iload 8, 2) := by decide +kernel
theorem dX8_stay_132 : decode cX8_stay 132 = .ok (.imul, 1) := by decide +kernel
theorem dX8_stay_133 : decode cX8_stay 133 = .ok (.iload 7, 2) := by decide +kernel
theorem dX8_stay_135 : decode cX8_stay 135 = .ok (.iadd, 1) := by decide +kernel
theorem dX8_stay_136 : decode cX8_stay 136 = .ok (.goto 5, 3) := by decide +kernel
theorem dX8_stay_139 : decode cX8_stay 139 = .ok (.iload 6, 2) := by decide +kernel
theorem dX8_stay_141 : decode cX8_stay 141 = .ok (.istore 6, 2) := by decide +kernel
theorem dX8_stay_143 : decode cX8_stay 143 = .ok (.iinc 7 (-1), 3) := by decide +kernel
theorem dX8_stay_146 : decode cX8_stay 146 = .ok (.goto (-56), 3) := by decide +kernel
theorem dX8_stay_149 : decode cX8_stay 149 = .ok (.iload 6, 2) := by decide +kernel
theorem dX8_stay_151 : decode cX8_stay 151 = .ok (.ireturn, 1) := by decide +kernel
theorem dX8_heardBehind_0 : decode cX8_heardBehind 0 = .ok (.aload_n 0, 1) := by decide +kernel
theorem dX8_heardBehind_1 : decode cX8_heardBehind 1 = .ok (.getfield 25, 3) := by decide +kernel
theorem dX8_heardBehind_4 : decode cX8_heardBehind 4 = .ok (.bipush 8, 2) := by decide +kernel
theorem dX8_heardBehind_6 : decode cX8_heardBehind 6 = .ok (.iload_n 1, 1) := by decide +kernel
theorem dX8_heardBehind_7 : decode cX8_heardBehind 7 = .ok (.iadd, 1) := by decide +kernel
theorem dX8_heardBehind_8 : decode cX8_heardBehind 8 = .ok (.iaload, 1) := by decide +kernel
theorem dX8_heardBehind_9 : decode cX8_heardBehind 9 = .ok (.istore 4, 2) := by decide +kernel
theorem dX8_heardBehind_11 : decode cX8_heardBehind 11 = .ok (.iconst 0, 1) := by decide +kernel
theorem dX8_heardBehind_12 : decode cX8_heardBehind 12 = .ok (.istore 5, 2) := by decide +kernel
theorem dX8_heardBehind_14 : decode cX8_heardBehind 14 = .ok (.iload 5, 2) := by decide +kernel
theorem dX8_heardBehind_16 : decode cX8_heardBehind 16 = .ok (.iload_n 3, 1) := by decide +kernel
theorem dX8_heardBehind_17 : decode cX8_heardBehind 17 = .ok (.if_icmp .ge 22, 3) := by decide +kernel
theorem dX8_heardBehind_20 : decode cX8_heardBehind 20 = .ok (.iload 4, 2) := by decide +kernel
theorem dX8_heardBehind_22 : decode cX8_heardBehind 22 = .ok (.aload_n 0, 1) := by decide +kernel
theorem dX8_heardBehind_23 : decode cX8_heardBehind 23 = .ok (.iload_n 1, 1) := by decide +kernel
theorem dX8_heardBehind_24 : decode cX8_heardBehind 24 = .ok (.iload_n 2, 1) := by decide +kernel
theorem dX8_heardBehind_25 : decode cX8_heardBehind 25 = .ok (.iload 5, 2) := by decide +kernel
theorem dX8_heardBehind_27 : decode cX8_heardBehind 27 = .ok (.invokevirtual 142, 3) := by decide +kernel
theorem dX8_heardBehind_30 : decode cX8_heardBehind 30 = .ok (.ior, 1) := by decide +kernel
theorem dX8_heardBehind_31 : decode cX8_heardBehind 31 = .ok (.istore 4, 2) := by decide +kernel
theorem dX8_heardBehind_33 : decode cX8_heardBehind 33 = .ok (.iinc 5 1, 3) := by decide +kernel
theorem dX8_heardBehind_36 : decode cX8_heardBehind 36 = .ok (.goto (-22), 3) := by decide +kernel
theorem dX8_heardBehind_39 : decode cX8_heardBehind 39 = .ok (.iload 4, 2) := by decide +kernel
theorem dX8_heardBehind_41 : decode cX8_heardBehind 41 = .ok (.ireturn, 1) := by decide +kernel
theorem dX8_stand_0 : decode cX8_stand 0 = .ok (.iload_n 1, 1) := by decide +kernel
theorem dX8_stand_1 : decode cX8_stand 1 = .ok (.i2l, 1) := by decide +kernel
theorem dX8_stand_2 : decode cX8_stand 2 = .ok (.lconst 1, 1) := by decide +kernel
theorem dX8_stand_3 : decode cX8_stand 3 = .ok (.ldc2_w 254, 3) := by decide +kernel
theorem dX8_stand_6 : decode cX8_stand 6 = .ok (.invokestatic 68, 3) := by decide +kernel
theorem dX8_stand_9 : decode cX8_stand 9 = .ok (.ifCond .eq 13, 3) := by decide +kernel
theorem dX8_stand_12 : decode cX8_stand 12 = .ok (.iload_n 2, 1) := by decide +kernel
theorem dX8_stand_13 : decode cX8_stand 13 = .ok (.i2l, 1) := by decide +kernel
theorem dX8_stand_14 : decode cX8_stand 14 = .ok (.lconst 0, 1) := by decide +kernel
theorem dX8_stand_15 : decode cX8_stand 15 = .ok (.lconst 1, 1) := by decide +kernel
theorem dX8_stand_16 : decode cX8_stand 16 = .ok (.invokestatic 68, 3) := by decide +kernel
theorem dX8_stand_19 : decode cX8_stand 19 = .ok (.ifCond .ne 8, 3) := by decide +kernel
theorem dX8_stand_22 : decode cX8_stand 22 = .ok (.aload_n 0, 1) := by decide +kernel
theorem dX8_stand_23 : decode cX8_stand 23 = .ok (.invokevirtual 101, 3) := by decide +kernel
theorem dX8_stand_26 : decode cX8_stand 26 = .ok (.ireturn, 1) := by decide +kernel
theorem dX8_stand_27 : decode cX8_stand 27 = .ok (.aload_n 0, 1) := by decide +kernel
theorem dX8_stand_28 : decode cX8_stand 28 = .ok (.getfield 76, 3) := by decide +kernel
theorem dX8_stand_31 : decode cX8_stand 31 = .ok (.iconst 2, 1) := by decide +kernel
theorem dX8_stand_32 : decode cX8_stand 32 = .ok (.if_icmp .ge 8, 3) := by decide +kernel
theorem dX8_stand_35 : decode cX8_stand 35 = .ok (.aload_n 0, 1) := by decide +kernel
theorem dX8_stand_36 : decode cX8_stand 36 = .ok (.invokevirtual 233, 3) := by decide +kernel
theorem dX8_stand_39 : decode cX8_stand 39 = .ok (.ireturn, 1) := by decide +kernel
theorem dX8_stand_40 : decode cX8_stand 40 = .ok (.iconst 0, 1) := by decide +kernel
theorem dX8_stand_41 : decode cX8_stand 41 = .ok (.istore_n 3, 1) := by decide +kernel
theorem dX8_stand_42 : decode cX8_stand 42 = .ok (.iconst (-1), 1) := by decide +kernel
theorem dX8_stand_43 : decode cX8_stand 43 = .ok (.istore 4, 2) := by decide +kernel
theorem dX8_stand_45 : decode cX8_stand 45 = .ok (.iconst 0, 1) := by decide +kernel
theorem dX8_stand_46 : decode cX8_stand 46 = .ok (.istore 5, 2) := by decide +kernel
theorem dX8_stand_48 : decode cX8_stand 48 = .ok (.iload 5, 2) := by decide +kernel
theorem dX8_stand_50 : decode cX8_stand 50 = .ok (.bipush 16, 2) := by decide +kernel
theorem dX8_stand_52 : decode cX8_stand 52 = .ok (.if_icmp .ge 75, 3) := by decide +kernel
theorem dX8_stand_55 : decode cX8_stand 55 = .ok (.aload_n 0, 1) := by decide +kernel
theorem dX8_stand_56 : decode cX8_stand 56 = .ok (.iconst 0, 1) := by decide +kernel
theorem dX8_stand_57 : decode cX8_stand 57 = .ok (.iload 5, 2) := by decide +kernel
theorem dX8_stand_59 : decode cX8_stand 59 = .ok (.iconst 4, 1) := by decide +kernel
theorem dX8_stand_60 : decode cX8_stand 60 = .ok (.idiv, 1) := by decide +kernel
theorem dX8_stand_61 : decode cX8_stand 61 = .ok (.iload_n 1, 1) := by decide +kernel
theorem dX8_stand_62 : decode cX8_stand 62 = .ok (.invokevirtual 256, 3) := by decide +kernel
theorem dX8_stand_65 : decode cX8_stand 65 = .ok (.aload_n 0, 1) := by decide +kernel
theorem dX8_stand_66 : decode cX8_stand 66 = .ok (.iconst 1, 1) := by decide +kernel
theorem dX8_stand_67 : decode cX8_stand 67 = .ok (.iload 5, 2) := by decide +kernel
theorem dX8_stand_69 : decode cX8_stand 69 = .ok (.iconst 4, 1) := by decide +kernel
theorem dX8_stand_70 : decode cX8_stand 70 = .ok (.irem, 1) := by decide +kernel
theorem dX8_stand_71 : decode cX8_stand 71 = .ok (.iload_n 1, 1) := by decide +kernel
theorem dX8_stand_72 : decode cX8_stand 72 = .ok (.invokevirtual 256, 3) := by decide +kernel
theorem dX8_stand_75 : decode cX8_stand 75 = .ok (.ior, 1) := by decide +kernel
theorem dX8_stand_76 : decode cX8_stand 76 = .ok (.invokestatic 145, 3) := by decide +kernel
theorem dX8_stand_79 : decode cX8_stand 79 = .ok (.istore 6, 2) := by decide +kernel
theorem dX8_stand_81 : decode cX8_stand 81 = .ok (.iload 6, 2) := by decide +kernel
theorem dX8_stand_83 : decode cX8_stand 83 = .ok (.iload 4, 2) := by decide +kernel
theorem dX8_stand_85 : decode cX8_stand 85 = .ok (.if_icmp .le 18, 3) := by decide +kernel
theorem dX8_stand_88 : decode cX8_stand 88 = .ok (.bipush 10, 2) := by decide +kernel
theorem dX8_stand_90 : decode cX8_stand 90 = .ok (.iload 5, 2) := by decide +kernel
theorem dX8_stand_92 : decode cX8_stand 92 = .ok (.iconst 4, 1) := by decide +kernel
theorem dX8_stand_93 : decode cX8_stand 93 = .ok (.idiv, 1) := by decide +kernel
theorem dX8_stand_94 : decode cX8_stand 94 = .ok (.imul, 1) := by decide +kernel
theorem dX8_stand_95 : decode cX8_stand 95 = .ok (.iload 5, 2) := by decide +kernel
theorem dX8_stand_97 : decode cX8_stand 97 = .ok (.iconst 4, 1) := by decide +kernel
theorem dX8_stand_98 : decode cX8_stand 98 = .ok (.irem, 1) := by decide +kernel
theorem dX8_stand_99 : decode cX8_stand 99 = .ok (.iadd, 1) := by decide +kernel
theorem dX8_stand_100 : decode cX8_stand 100 = .ok (.goto 4, 3) := by decide +kernel
theorem dX8_stand_103 : decode cX8_stand 103 = .ok (.iload_n 3, 1) := by decide +kernel
theorem dX8_stand_104 : decode cX8_stand 104 = .ok (.istore_n 3, 1) := by decide +kernel
theorem dX8_stand_105 : decode cX8_stand 105 = .ok (.iload 6, 2) := by decide +kernel
theorem dX8_stand_107 : decode cX8_stand 107 = .ok (.iload 4, 2) := by decide +kernel
theorem dX8_stand_109 : decode cX8_stand 109 = .ok (.if_icmp .le 8, 3) := by decide +kernel
theorem dX8_stand_112 : decode cX8_stand 112 = .ok (.iload 6, 2) := by decide +kernel
theorem dX8_stand_114 : decode cX8_stand 114 = .ok (.goto 5, 3) := by decide +kernel
theorem dX8_stand_117 : decode cX8_stand 117 = .ok (.iload 4, 2) := by decide +kernel
theorem dX8_stand_119 : decode cX8_stand 119 = .ok (.istore 4, 2) := by decide +kernel
theorem dX8_stand_121 : decode cX8_stand 121 = .ok (.iinc 5 1, 3) := by decide +kernel
theorem dX8_stand_124 : decode cX8_stand 124 = .ok (.goto (-76), 3) := by decide +kernel
theorem dX8_stand_127 : decode cX8_stand 127 = .ok (.iload_n 2, 1) := by decide +kernel
theorem dX8_stand_128 : decode cX8_stand 128 = .ok (.ifCond .ne 8, 3) := by decide +kernel
theorem dX8_stand_131 : decode cX8_stand 131 = .ok (.iload 4, 2) := by decide +kernel
theorem dX8_stand_133 : decode cX8_stand 133 = .ok (.goto 4, 3) := by decide +kernel
theorem dX8_stand_136 : decode cX8_stand 136 = .ok (.iload_n 3, 1) := by decide +kernel
theorem dX8_stand_137 : decode cX8_stand 137 = .ok (.ireturn, 1) := by decide +kernel
theorem dX8_told_0 : decode cX8_told 0 = .ok (.iload_n 1, 1) := by decide +kernel
theorem dX8_told_1 : decode cX8_told 1 = .ok (.invokestatic 95, 3) := by decide +kernel
theorem dX8_told_4 : decode cX8_told 4 = .ok (.ifCond .eq 27, 3) := by decide +kernel
theorem dX8_told_7 : decode cX8_told 7 = .ok (.iload_n 2, 1) := by decide +kernel
theorem dX8_told_8 : decode cX8_told 8 = .ok (.i2l, 1) := by decide +kernel
theorem dX8_told_9 : decode cX8_told 9 = .ok (.lconst 0, 1) := by decide +kernel
theorem dX8_told_10 : decode cX8_told 10 = .ok (.ldc2_w 247, 3) := by decide +kernel
theorem dX8_told_13 : decode cX8_told 13 = .ok (.invokestatic 68, 3) := by decide +kernel
theorem dX8_told_16 : decode cX8_told 16 = .ok (.ifCond .eq 15, 3) := by decide +kernel
theorem dX8_told_19 : decode cX8_told 19 = .ok (.iload_n 3, 1) := by decide +kernel
theorem dX8_told_20 : decode cX8_told 20 = .ok (.i2l, 1) := by decide +kernel
theorem dX8_told_21 : decode cX8_told 21 = .ok (.lconst 0, 1) := by decide +kernel
theorem dX8_told_22 : decode cX8_told 22 = .ok (.ldc2_w 239, 3) := by decide +kernel
theorem dX8_told_25 : decode cX8_told 25 = .ok (.invokestatic 68, 3) := by decide +kernel
theorem dX8_told_28 : decode cX8_told 28 = .ok (.ifCond .ne 8, 3) := by decide +kernel
theorem dX8_told_31 : decode cX8_told 31 = .ok (.aload_n 0, 1) := by decide +kernel
theorem dX8_told_32 : decode cX8_told 32 = .ok (.invokevirtual 101, 3) := by decide +kernel
theorem dX8_told_35 : decode cX8_told 35 = .ok (.ireturn, 1) := by decide +kernel
theorem dX8_told_36 : decode cX8_told 36 = .ok (.aload_n 0, 1) := by decide +kernel
theorem dX8_told_37 : decode cX8_told 37 = .ok (.getfield 81, 3) := by decide +kernel
theorem dX8_told_40 : decode cX8_told 40 = .ok (.iconst 5, 1) := by decide +kernel
theorem dX8_told_41 : decode cX8_told 41 = .ok (.if_icmp .ne 8, 3) := by decide +kernel
theorem dX8_told_44 : decode cX8_told 44 = .ok (.aload_n 0, 1) := by decide +kernel
theorem dX8_told_45 : decode cX8_told 45 = .ok (.invokevirtual 105, 3) := by decide +kernel
theorem dX8_told_48 : decode cX8_told 48 = .ok (.ireturn, 1) := by decide +kernel
theorem dX8_told_49 : decode cX8_told 49 = .ok (.aload_n 0, 1) := by decide +kernel
theorem dX8_told_50 : decode cX8_told 50 = .ok (.getfield 37, 3) := by decide +kernel
theorem dX8_told_53 : decode cX8_told 53 = .ok (.iconst 3, 1) := by decide +kernel
theorem dX8_told_54 : decode cX8_told 54 = .ok (.aload_n 0, 1) := by decide +kernel
theorem dX8_told_55 : decode cX8_told 55 = .ok (.getfield 81, 3) := by decide +kernel
theorem dX8_told_58 : decode cX8_told 58 = .ok (.imul, 1) := by decide +kernel
theorem dX8_told_59 : decode cX8_told 59 = .ok (.iload_n 1, 1) := by decide +kernel
theorem dX8_told_60 : decode cX8_told 60 = .ok (.iastore, 1) := by decide +kernel
theorem dX8_told_61 : decode cX8_told 61 = .ok (.aload_n 0, 1) := by decide +kernel
theorem dX8_told_62 : decode cX8_told 62 = .ok (.getfield 37, 3) := by decide +kernel
theorem dX8_told_65 : decode cX8_told 65 = .ok (.iconst 3, 1) := by decide +kernel
theorem dX8_told_66 : decode cX8_told 66 = .ok (.aload_n 0, 1) := by decide +kernel
theorem dX8_told_67 : decode cX8_told 67 = .ok (.getfield 81, 3) := by decide +kernel
theorem dX8_told_70 : decode cX8_told 70 = .ok (.imul, 1) := by decide +kernel
theorem dX8_told_71 : decode cX8_told 71 = .ok (.iconst 1, 1) := by decide +kernel
theorem dX8_told_72 : decode cX8_told 72 = .ok (.iadd, 1) := by decide +kernel
theorem dX8_told_73 : decode cX8_told 73 = .ok (.iload_n 2, 1) := by decide +kernel
theorem dX8_told_74 : decode cX8_told 74 = .ok (.iastore, 1) := by decide +kernel
theorem dX8_told_75 : decode cX8_told 75 = .ok (.aload_n 0, 1) := by decide +kernel
theorem dX8_told_76 : decode cX8_told 76 = .ok (.getfield 37, 3) := by decide +kernel
theorem dX8_told_79 : decode cX8_told 79 = .ok (.iconst 3, 1) := by decide +kernel
theorem dX8_told_80 : decode cX8_told 80 = .ok (.aload_n 0, 1) := by decide +kernel
theorem dX8_told_81 : decode cX8_told 81 = .ok (.getfield 81, 3) := by decide +kernel
theorem dX8_told_84 : decode cX8_told 84 = .ok (.imul, 1) := by decide +kernel
theorem dX8_told_85 : decode cX8_told 85 = .ok (.iconst 2, 1) := by decide +kernel
theorem dX8_told_86 : decode cX8_told 86 = .ok (.iadd, 1) := by decide +kernel
theorem dX8_told_87 : decode cX8_told 87 = .ok (.iload_n 3, 1) := by decide +kernel
theorem dX8_told_88 : decode cX8_told 88 = .ok (.iastore, 1) := by decide +kernel
theorem dX8_told_89 : decode cX8_told 89 = .ok (.aload_n 0, 1) := by decide +kernel
theorem dX8_told_90 : decode cX8_told 90 = .ok (.dup, 1) := by decide +kernel
theorem dX8_told_91 : decode cX8_told 91 = .ok (.getfield 81, 3) := by decide +kernel
theorem dX8_told_94 : decode cX8_told 94 = .ok (.iconst 1, 1) := by decide +kernel
theorem dX8_told_95 : decode cX8_told 95 = .ok (.iadd, 1) := by decide +kernel
theorem dX8_told_96 : decode cX8_told 96 = .ok (.putfield 81, 3) := by decide +kernel
theorem dX8_told_99 : decode cX8_told 99 = .ok (.aload_n 0, 1) := by decide +kernel
theorem dX8_told_100 : decode cX8_told 100 = .ok (.getfield 81, 3) := by decide +kernel
theorem dX8_told_103 : decode cX8_told 103 = .ok (.ireturn, 1) := by decide +kernel
theorem dX8_isSo_0 : decode cX8_isSo 0 = .ok (.iconst 1, 1) := by decide +kernel
theorem dX8_isSo_1 : decode cX8_isSo 1 = .ok (.istore_n 3, 1) := by decide +kernel
theorem dX8_isSo_2 : decode cX8_isSo 2 = .ok (.iconst 0, 1) := by decide +kernel
theorem dX8_isSo_3 : decode cX8_isSo 3 = .ok (.istore 4, 2) := by decide +kernel
theorem dX8_isSo_5 : decode cX8_isSo 5 = .ok (.iload 4, 2) := by decide +kernel
theorem dX8_isSo_7 : decode cX8_isSo 7 = .ok (.aload_n 0, 1) := by decide +kernel
theorem dX8_isSo_8 : decode cX8_isSo 8 = .ok (.getfield 81, 3) := by decide +kernel
theorem dX8_isSo_11 : decode cX8_isSo 11 = .ok (.if_icmp .ge 63, 3) := by decide +kernel
theorem dX8_isSo_14 : decode cX8_isSo 14 = .ok (.iload_n 3, 1) := by decide +kernel
theorem dX8_isSo_15 : decode cX8_isSo 15 = .ok (.ifCond .eq 51, 3) := by decide +kernel
theorem dX8_isSo_18 : decode cX8_isSo 18 = .ok (.aload_n 0, 1) := by decide +kernel
theorem dX8_isSo_19 : decode cX8_isSo 19 = .ok (.getfield 37, 3) := by decide +kernel
theorem dX8_isSo_22 : decode cX8_isSo 22 = .ok (.iconst 3, 1) := by decide +kernel
theorem dX8_isSo_23 : decode cX8_isSo 23 = .ok (.iload 4, 2) := by decide +kernel
theorem dX8_isSo_25 : decode cX8_isSo 25 = .ok (.imul, 1) := by decide +kernel
theorem dX8_isSo_26 : decode cX8_isSo 26 = .ok (.iaload, 1) := by decide +kernel
theorem dX8_isSo_27 : decode cX8_isSo 27 = .ok (.iload_n 2, 1) := by decide +kernel
theorem dX8_isSo_28 : decode cX8_isSo 28 = .ok (.if_icmp .ne 34, 3) := by decide +kernel
theorem dX8_isSo_31 : decode cX8_isSo 31 = .ok (.aload_n 0, 1) := by decide +kernel
theorem dX8_isSo_32 : decode cX8_isSo 32 = .ok (.iload_n 1, 1) := by decide +kernel
theorem dX8_isSo_33 : decode cX8_isSo 33 = .ok (.iload_n 2, 1) := by decide +kernel
theorem dX8_isSo_34 : decode cX8_isSo 34 = .ok (.aload_n 0, 1) := by decide +kernel
theorem dX8_isSo_35 : decode cX8_isSo 35 = .ok (.getfield 37, 3) := by decide +kernel
theorem dX8_isSo_38 : decode cX8_isSo 38 = .ok (.iconst 3, 1) := by decide +kernel
theorem dX8_isSo_39 : decode cX8_isSo 39 = .ok (.iload 4, 2) := by decide +kernel
theorem dX8_isSo_41 : decode cX8_isSo 41 = .ok (.imul, 1) := by decide +kernel
theorem dX8_isSo_42 : decode cX8_isSo 42 = .ok (.iconst 1, 1) := by decide +kernel
theorem dX8_isSo_43 : decode cX8_isSo 43 = .ok (.iadd, 1) := by decide +kernel
theorem dX8_isSo_44 : decode cX8_isSo 44 = .ok (.iaload, 1) := by decide +kernel
theorem dX8_isSo_45 : decode cX8_isSo 45 = .ok (.invokevirtual 127, 3) := by decide +kernel
theorem dX8_isSo_48 : decode cX8_isSo 48 = .ok (.aload_n 0, 1) := by decide +kernel
theorem dX8_isSo_49 : decode cX8_isSo 49 = .ok (.getfield 37, 3) := by decide +kernel
theorem dX8_isSo_52 : decode cX8_isSo 52 = .ok (.iconst 3, 1) := by decide +kernel
theorem dX8_isSo_53 : decode cX8_isSo 53 = .ok (.iload 4, 2) := by decide +kernel
theorem dX8_isSo_55 : decode cX8_isSo 55 = .ok (.imul, 1) := by decide +kernel
theorem dX8_isSo_56 : decode cX8_isSo 56 = .ok (.iconst 2, 1) := by decide +kernel
theorem dX8_isSo_57 : decode cX8_isSo 57 = .ok (.iadd, 1) := by decide +kernel
theorem dX8_isSo_58 : decode cX8_isSo 58 = .ok (.iaload, 1) := by decide +kernel
theorem dX8_isSo_59 : decode cX8_isSo 59 = .ok (.if_icmp .ne 7, 3) := by decide +kernel
theorem dX8_isSo_62 : decode cX8_isSo 62 = .ok (.iconst 1, 1) := by decide +kernel
theorem dX8_isSo_63 : decode cX8_isSo 63 = .ok (.goto 4, 3) := by decide +kernel
theorem dX8_isSo_66 : decode cX8_isSo 66 = .ok (.iconst 0, 1) := by decide +kernel
theorem dX8_isSo_67 : decode cX8_isSo 67 = .ok (.istore_n 3, 1) := by decide +kernel
theorem dX8_isSo_68 : decode cX8_isSo 68 = .ok (.iinc 4 1, 3) := by decide +kernel
theorem dX8_isSo_71 : decode cX8_isSo 71 = .ok (.goto (-66), 3) := by decide +kernel
theorem dX8_isSo_74 : decode cX8_isSo 74 = .ok (.iload_n 3, 1) := by decide +kernel
theorem dX8_isSo_75 : decode cX8_isSo 75 = .ok (.ireturn, 1) := by decide +kernel
theorem dX8_said_0 : decode cX8_said 0 = .ok (.iload_n 1, 1) := by decide +kernel
theorem dX8_said_1 : decode cX8_said 1 = .ok (.invokestatic 95, 3) := by decide +kernel
theorem dX8_said_4 : decode cX8_said 4 = .ok (.ifCond .eq 15, 3) := by decide +kernel
theorem dX8_said_7 : decode cX8_said 7 = .ok (.iload_n 2, 1) := by decide +kernel
theorem dX8_said_8 : decode cX8_said 8 = .ok (.i2l, 1) := by decide +kernel
theorem dX8_said_9 : decode cX8_said 9 = .ok (.lconst 0, 1) := by decide +kernel
theorem dX8_said_10 : decode cX8_said 10 = .ok (.ldc2_w 66, 3) := by decide +kernel
theorem dX8_said_13 : decode cX8_said 13 = .ok (.invokestatic 68, 3) := by decide +kernel
theorem dX8_said_16 : decode cX8_said 16 = .ok (.ifCond .ne 8, 3) := by decide +kernel
theorem dX8_said_19 : decode cX8_said 19 = .ok (.aload_n 0, 1) := by decide +kernel
theorem dX8_said_20 : decode cX8_said 20 = .ok (.invokevirtual 101, 3) := by decide +kernel
theorem dX8_said_23 : decode cX8_said 23 = .ok (.ireturn, 1) := by decide +kernel
theorem dX8_said_24 : decode cX8_said 24 = .ok (.iconst 0, 1) := by decide +kernel
theorem dX8_said_25 : decode cX8_said 25 = .ok (.istore_n 3, 1) := by decide +kernel
theorem dX8_said_26 : decode cX8_said 26 = .ok (.iconst 0, 1) := by decide +kernel
theorem dX8_said_27 : decode cX8_said 27 = .ok (.istore 4, 2) := by decide +kernel
theorem dX8_said_29 : decode cX8_said 29 = .ok (.iload 4, 2) := by decide +kernel
theorem dX8_said_31 : decode cX8_said 31 = .ok (.aload_n 0, 1) := by decide +kernel
theorem dX8_said_32 : decode cX8_said 32 = .ok (.getfield 72, 3) := by decide +kernel
theorem dX8_said_35 : decode cX8_said 35 = .ok (.if_icmp .ge 31, 3) := by decide +kernel
theorem dX8_said_38 : decode cX8_said 38 = .ok (.iload_n 3, 1) := by decide +kernel
theorem dX8_said_39 : decode cX8_said 39 = .ok (.aload_n 0, 1) := by decide +kernel
theorem dX8_said_40 : decode cX8_said 40 = .ok (.getfield 16, 3) := by decide +kernel
theorem dX8_said_43 : decode cX8_said 43 = .ok (.iload 4, 2) := by decide +kernel
theorem dX8_said_45 : decode cX8_said 45 = .ok (.iaload, 1) := by decide +kernel
theorem dX8_said_46 : decode cX8_said 46 = .ok (.iload_n 1, 1) := by decide +kernel
theorem dX8_said_47 : decode cX8_said 47 = .ok (.if_icmp .ne 10, 3) := by decide +kernel
theorem dX8_said_50 : decode cX8_said 50 = .ok (.iconst 1, 1) := by decide +kernel
theorem dX8_said_51 : decode cX8_said 51 = .ok (.iload 4, 2) := by decide +kernel
theorem dX8_said_53 : decode cX8_said 53 = .ok (.ishl, 1) := by decide +kernel
theorem dX8_said_54 : decode cX8_said 54 = .ok (.goto 4, 3) := by decide +kernel
theorem dX8_said_57 : decode cX8_said 57 = .ok (.iconst 0, 1) := by decide +kernel
theorem dX8_said_58 : decode cX8_said 58 = .ok (.ior, 1) := by decide +kernel
theorem dX8_said_59 : decode cX8_said 59 = .ok (.istore_n 3, 1) := by decide +kernel
theorem dX8_said_60 : decode cX8_said 60 = .ok (.iinc 4 1, 3) := by decide +kernel
theorem dX8_said_63 : decode cX8_said 63 = .ok (.goto (-34), 3) := by decide +kernel
theorem dX8_said_66 : decode cX8_said 66 = .ok (.iconst 0, 1) := by decide +kernel
theorem dX8_said_67 : decode cX8_said 67 = .ok (.istore 4, 2) := by decide +kernel
theorem dX8_said_69 : decode cX8_said 69 = .ok (.iload_n 3, 1) := by decide +kernel
theorem dX8_said_70 : decode cX8_said 70 = .ok (.istore 5, 2) := by decide +kernel
theorem dX8_said_72 : decode cX8_said 72 = .ok (.iconst 0, 1) := by decide +kernel
theorem dX8_said_73 : decode cX8_said 73 = .ok (.istore 6, 2) := by decide +kernel
theorem dX8_said_75 : decode cX8_said 75 = .ok (.iconst 0, 1) := by decide +kernel
theorem dX8_said_76 : decode cX8_said 76 = .ok (.istore 7, 2) := by decide +kernel
theorem dX8_said_78 : decode cX8_said 78 = .ok (.iload 7, 2) := by decide +kernel
theorem dX8_said_80 : decode cX8_said 80 = .ok (.sipush 256, 3) := by decide +kernel
theorem dX8_said_83 : decode cX8_said 83 = .ok (.if_icmp .ge 45, 3) := by decide +kernel
theorem dX8_said_86 : decode cX8_said 86 = .ok (.iload 7, 2) := by decide +kernel
theorem dX8_said_88 : decode cX8_said 88 = .ok (.iload_n 3, 1) := by decide +kernel
theorem dX8_said_89 : decode cX8_said 89 = .ok (.iconst (-1), 1) := by decide +kernel
theorem dX8_said_90 : decode cX8_said 90 = .ok (.ixor, 1) := by decide +kernel
theorem dX8_said_91 : decode cX8_said 91 = .ok (.iand, 1) := by decide +kernel
theorem dX8_said_92 : decode cX8_said 92 = .ok (.ifCond .ne 30, 3) := by decide +kernel
theorem dX8_said_95 : decode cX8_said 95 = .ok (.aload_n 0, 1) := by decide +kernel
theorem dX8_said_96 : decode cX8_said 96 = .ok (.iload 7, 2) := by decide +kernel
theorem dX8_said_98 : decode cX8_said 98 = .ok (.iload_n 1, 1) := by decide +kernel
theorem dX8_said_99 : decode cX8_said 99 = .ok (.invokevirtual 259, 3) := by decide +kernel
theorem dX8_said_102 : decode cX8_said 102 = .ok (.ifCond .eq 20, 3) := by decide +kernel
theorem dX8_said_105 : decode cX8_said 105 = .ok (.iinc 4 1, 3) := by decide +kernel
theorem dX8_said_108 : decode cX8_said 108 = .ok (.iload 5, 2) := by decide +kernel
theorem dX8_said_110 : decode cX8_said 110 = .ok (.iload 7, 2) := by decide +kernel
theorem dX8_said_112 : decode cX8_said 112 = .ok (.iand, 1) := by decide +kernel
theorem dX8_said_113 : decode cX8_said 113 = .ok (.istore 5, 2) := by decide +kernel
theorem dX8_said_115 : decode cX8_said 115 = .ok (.iload 6, 2) := by decide +kernel
theorem dX8_said_117 : decode cX8_said 117 = .ok (.iload 7, 2) := by decide +kernel
theorem dX8_said_119 : decode cX8_said 119 = .ok (.ior, 1) := by decide +kernel
theorem dX8_said_120 : decode cX8_said 120 = .ok (.istore 6, 2) := by decide +kernel
theorem dX8_said_122 : decode cX8_said 122 = .ok (.iinc 7 1, 3) := by decide +kernel
theorem dX8_said_125 : decode cX8_said 125 = .ok (.goto (-47), 3) := by decide +kernel
theorem dX8_said_128 : decode cX8_said 128 = .ok (.iload_n 2, 1) := by decide +kernel
theorem dX8_said_129 : decode cX8_said 129 = .ok (.ifCond .ne 8, 3) := by decide +kernel
theorem dX8_said_132 : decode cX8_said 132 = .ok (.iload 4, 2) := by decide +kernel
theorem dX8_said_134 : decode cX8_said 134 = .ok (.goto 24, 3) := by decide +kernel
theorem dX8_said_137 : decode cX8_said 137 = .ok (.iload_n 2, 1) := by decide +kernel
theorem dX8_said_138 : decode cX8_said 138 = .ok (.iconst 1, 1) := by decide +kernel
theorem dX8_said_139 : decode cX8_said 139 = .ok (.if_icmp .ne 17, 3) := by decide +kernel
theorem dX8_said_142 : decode cX8_said 142 = .ok (.iload 4, 2) := by decide +kernel
theorem dX8_said_144 : decode cX8_said 144 = .ok (.ifCond .ne 7, 3) := by decide +kernel
theorem dX8_said_147 : decode cX8_said 147 = .ok (.iconst (-1), 1) := by decide +kernel
theorem dX8_said_148 : decode cX8_said 148 = .ok (.goto 10, 3) := by decide +kernel
theorem dX8_said_151 : decode cX8_said 151 = .ok (.iload 5, 2) := by decide +kernel
theorem dX8_said_153 : decode cX8_said 153 = .ok (.goto 5, 3) := by decide +kernel
theorem dX8_said_156 : decode cX8_said 156 = .ok (.iload 6, 2) := by decide +kernel
theorem dX8_said_158 : decode cX8_said 158 = .ok (.ireturn, 1) := by decide +kernel
theorem dX8_add_0 : decode cX8_add 0 = .ok (.aload_n 0, 1) := by decide +kernel
theorem dX8_add_1 : decode cX8_add 1 = .ok (.iconst 4, 1) := by decide +kernel
theorem dX8_add_2 : decode cX8_add 2 = .ok (.iload_n 1, 1) := by decide +kernel
theorem dX8_add_3 : decode cX8_add 3 = .ok (.imul, 1) := by decide +kernel
theorem dX8_add_4 : decode cX8_add 4 = .ok (.iload_n 2, 1) := by decide +kernel
theorem dX8_add_5 : decode cX8_add 5 = .ok (.iastore, 1) := by decide +kernel
theorem dX8_add_6 : decode cX8_add 6 = .ok (.aload_n 0, 1) := by decide +kernel
theorem dX8_add_7 : decode cX8_add 7 = .ok (.iconst 4, 1) := by decide +kernel
theorem dX8_add_8 : decode cX8_add 8 = .ok (.iload_n 1, 1) := by decide +kernel
theorem dX8_add_9 : decode cX8_add 9 = .ok (.imul, 1) := by decide +kernel
theorem dX8_add_10 : decode cX8_add 10 = .ok (.iconst 1, 1) := by decide +kernel
theorem dX8_add_11 : decode cX8_add 11 = .ok (.iadd, 1) := by decide +kernel
theorem dX8_add_12 : decode cX8_add 12 = .ok (.iload_n 3, 1) := by decide +kernel
theorem dX8_add_13 : decode cX8_add 13 = .ok (.iastore, 1) := by decide +kernel
theorem dX8_add_14 : decode cX8_add 14 = .ok (.aload_n 0, 1) := by decide +kernel
theorem dX8_add_15 : decode cX8_add 15 = .ok (.iconst 4, 1) := by decide +kernel
theorem dX8_add_16 : decode cX8_add 16 = .ok (.iload_n 1, 1) := by decide +kernel
theorem dX8_add_17 : decode cX8_add 17 = .ok (.imul, 1) := by decide +kernel
theorem dX8_add_18 : decode cX8_add 18 = .ok (.iconst 2, 1) := by decide +kernel
theorem dX8_add_19 : decode cX8_add 19 = .ok (.iadd, 1) := by decide +kernel
theorem dX8_add_20 : decode cX8_add 20 = .ok (.iload 4, 2) := by decide +kernel
theorem dX8_add_22 : decode cX8_add 22 = .ok (.iastore, 1) := by decide +kernel
theorem dX8_add_23 : decode cX8_add 23 = .ok (.aload_n 0, 1) := by decide +kernel
theorem dX8_add_24 : decode cX8_add 24 = .ok (.iconst 4, 1) := by decide +kernel
theorem dX8_add_25 : decode cX8_add 25 = .ok (.iload_n 1, 1) := by decide +kernel
theorem dX8_add_26 : decode cX8_add 26 = .ok (.imul, 1) := by decide +kernel
theorem dX8_add_27 : decode cX8_add 27 = .ok (.iconst 3, 1) := by decide +kernel
theorem dX8_add_28 : decode cX8_add 28 = .ok (.iadd, 1) := by decide +kernel
theorem dX8_add_29 : decode cX8_add 29 = .ok (.iload 5, 2) := by decide +kernel
theorem dX8_add_31 : decode cX8_add 31 = .ok (.iastore, 1) := by decide +kernel
theorem dX8_add_32 : decode cX8_add 32 = .ok (.iload_n 1, 1) := by decide +kernel
theorem dX8_add_33 : decode cX8_add 33 = .ok (.iconst 1, 1) := by decide +kernel
theorem dX8_add_34 : decode cX8_add 34 = .ok (.iadd, 1) := by decide +kernel
theorem dX8_add_35 : decode cX8_add 35 = .ok (.ireturn, 1) := by decide +kernel
theorem dX8_note_0 : decode cX8_note 0 = .ok (.aload_n 0, 1) := by decide +kernel
theorem dX8_note_1 : decode cX8_note 1 = .ok (.iload_n 1, 1) := by decide +kernel
theorem dX8_note_2 : decode cX8_note 2 = .ok (.invokevirtual 244, 3) := by decide +kernel
theorem dX8_note_5 : decode cX8_note 5 = .ok (.ifCond .eq 40, 3) := by decide +kernel
theorem dX8_note_8 : decode cX8_note 8 = .ok (.iload_n 2, 1) := by decide +kernel
theorem dX8_note_9 : decode cX8_note 9 = .ok (.i2l, 1) := by decide +kernel
theorem dX8_note_10 : decode cX8_note 10 = .ok (.lconst 1, 1) := by decide +kernel
theorem dX8_note_11 : decode cX8_note 11 = .ok (.ldc2_w 99, 3) := by decide +kernel
theorem dX8_note_14 : decode cX8_note 14 = .ok (.invokestatic 68, 3) := by decide +kernel
theorem dX8_note_17 : decode cX8_note 17 = .ok (.ifCond .eq 28, 3) := by decide +kernel
theorem dX8_note_20 : decode cX8_note 20 = .ok (.iload_n 3, 1) := by decide +kernel
theorem dX8_note_21 : decode cX8_note 21 = .ok (.i2l, 1) := by decide +kernel
theorem dX8_note_22 : decode cX8_note 22 = .ok (.lconst 0, 1) := by decide +kernel
theorem dX8_note_23 : decode cX8_note 23 = .ok (.ldc2_w 247, 3) := by decide +kernel
theorem dX8_note_26 : decode cX8_note 26 = .ok (.invokestatic 68, 3) := by decide +kernel
theorem dX8_note_29 : decode cX8_note 29 = .ok (.ifCond .eq 16, 3) := by decide +kernel
theorem dX8_note_32 : decode cX8_note 32 = .ok (.iload 4, 2) := by decide +kernel
theorem dX8_note_34 : decode cX8_note 34 = .ok (.i2l, 1) := by decide +kernel
theorem dX8_note_35 : decode cX8_note 35 = .ok (.lconst 0, 1) := by decide +kernel
theorem dX8_note_36 : decode cX8_note 36 = .ok (.ldc2_w 263, 3) := by decide +kernel
theorem dX8_note_39 : decode cX8_note 39 = .ok (.invokestatic 68, 3) := by decide +kernel
theorem dX8_note_42 : decode cX8_note 42 = .ok (.ifCond .ne 8, 3) := by decide +kernel
theorem dX8_note_45 : decode cX8_note 45 = .ok (.aload_n 0, 1) := by decide +kernel
theorem dX8_note_46 : decode cX8_note 46 = .ok (.invokevirtual 101, 3) := by decide +kernel
theorem dX8_note_49 : decode cX8_note 49 = .ok (.ireturn, 1) := by decide +kernel
theorem dX8_note_50 : decode cX8_note 50 = .ok (.aload_n 0, 1) := by decide +kernel
theorem dX8_note_51 : decode cX8_note 51 = .ok (.getfield 84, 3) := by decide +kernel
theorem dX8_note_54 : decode cX8_note 54 = .ok (.bipush 6, 2) := by decide +kernel
theorem dX8_note_56 : decode cX8_note 56 = .ok (.if_icmp .ne 8, 3) := by decide +kernel
theorem dX8_note_59 : decode cX8_note 59 = .ok (.aload_n 0, 1) := by decide +kernel
theorem dX8_note_60 : decode cX8_note 60 = .ok (.invokevirtual 105, 3) := by decide +kernel
theorem dX8_note_63 : decode cX8_note 63 = .ok (.ireturn, 1) := by decide +kernel
theorem dX8_note_64 : decode cX8_note 64 = .ok (.aload_n 0, 1) := by decide +kernel
theorem dX8_note_65 : decode cX8_note 65 = .ok (.aload_n 0, 1) := by decide +kernel
theorem dX8_note_66 : decode cX8_note 66 = .ok (.getfield 40, 3) := by decide +kernel
theorem dX8_note_69 : decode cX8_note 69 = .ok (.aload_n 0, 1) := by decide +kernel
theorem dX8_note_70 : decode cX8_note 70 = .ok (.getfield 84, 3) := by decide +kernel
theorem dX8_note_73 : decode cX8_note 73 = .ok (.iload_n 1, 1) := by decide +kernel
theorem dX8_note_74 : decode cX8_note 74 = .ok (.iload_n 2, 1) := by decide +kernel
theorem dX8_note_75 : decode cX8_note 75 = .ok (.iload_n 3, 1) := by decide +kernel
theorem dX8_note_76 : decode cX8_note 76 = .ok (.iload 4, 2) := by decide +kernel
theorem dX8_note_78 : decode cX8_note 78 = .ok (.invokestatic 265, 3) := by decide +kernel
theorem dX8_note_81 : decode cX8_note 81 = .ok (.putfield 84, 3) := by decide +kernel
theorem dX8_note_84 : decode cX8_note 84 = .ok (.aload_n 0, 1) := by decide +kernel
theorem dX8_note_85 : decode cX8_note 85 = .ok (.getfield 84, 3) := by decide +kernel
theorem dX8_note_88 : decode cX8_note 88 = .ok (.ireturn, 1) := by decide +kernel
theorem dX8_mark_0 : decode cX8_mark 0 = .ok (.aload_n 0, 1) := by decide +kernel
theorem dX8_mark_1 : decode cX8_mark 1 = .ok (.iload_n 1, 1) := by decide +kernel
theorem dX8_mark_2 : decode cX8_mark 2 = .ok (.invokevirtual 236, 3) := by decide +kernel
theorem dX8_mark_5 : decode cX8_mark 5 = .ok (.ifCond .eq 38, 3) := by decide +kernel
theorem dX8_mark_8 : decode cX8_mark 8 = .ok (.iload_n 2, 1) := by decide +kernel
theorem dX8_mark_9 : decode cX8_mark 9 = .ok (.i2l, 1) := by decide +kernel
theorem dX8_mark_10 : decode cX8_mark 10 = .ok (.lconst 0, 1) := by decide +kernel
theorem dX8_mark_11 : decode cX8_mark 11 = .ok (.ldc2_w 263, 3) := by decide +kernel
theorem dX8_mark_14 : decode cX8_mark 14 = .ok (.invokestatic 68, 3) := by decide +kernel
theorem dX8_mark_17 : decode cX8_mark 17 = .ok (.ifCond .eq 26, 3) := by decide +kernel
theorem dX8_mark_20 : decode cX8_mark 20 = .ok (.iload_n 3, 1) := by decide +kernel
theorem dX8_mark_21 : decode cX8_mark 21 = .ok (.i2l, 1) := by decide +kernel
theorem dX8_mark_22 : decode cX8_mark 22 = .ok (.lconst 0, 1) := by decide +kernel
theorem dX8_mark_23 : decode cX8_mark 23 = .ok (.ldc2_w 239, 3) := by decide +kernel
theorem dX8_mark_26 : decode cX8_mark 26 = .ok (.invokestatic 68, 3) := by decide +kernel
theorem dX8_mark_29 : decode cX8_mark 29 = .ok (.ifCond .eq 14, 3) := by decide +kernel
theorem dX8_mark_32 : decode cX8_mark 32 = .ok (.iload 4, 2) := by decide +kernel
theorem dX8_mark_34 : decode cX8_mark 34 = .ok (.i2l, 1) := by decide +kernel
theorem dX8_mark_35 : decode cX8_mark 35 = .ok (.lconst 0, 1) := by decide +kernel
theorem dX8_mark_36 : decode cX8_mark 36 = .ok (.lconst 1, 1) := by decide +kernel
theorem dX8_mark_37 : decode cX8_mark 37 = .ok (.invokestatic 68, 3) := by decide +kernel
theorem dX8_mark_40 : decode cX8_mark 40 = .ok (.ifCond .ne 8, 3) := by decide +kernel
theorem dX8_mark_43 : decode cX8_mark 43 = .ok (.aload_n 0, 1) := by decide +kernel
theorem dX8_mark_44 : decode cX8_mark 44 = .ok (.invokevirtual 101, 3) := by decide +kernel
theorem dX8_mark_47 : decode cX8_mark 47 = .ok (.ireturn, 1) := by decide +kernel
theorem dX8_mark_48 : decode cX8_mark 48 = .ok (.aload_n 0, 1) := by decide +kernel
theorem dX8_mark_49 : decode cX8_mark 49 = .ok (.getfield 87, 3) := by decide +kernel
theorem dX8_mark_52 : decode cX8_mark 52 = .ok (.bipush 6, 2) := by decide +kernel
theorem dX8_mark_54 : decode cX8_mark 54 = .ok (.if_icmp .ne 8, 3) := by decide +kernel
theorem dX8_mark_57 : decode cX8_mark 57 = .ok (.aload_n 0, 1) := by decide +kernel
theorem dX8_mark_58 : decode cX8_mark 58 = .ok (.invokevirtual 105, 3) := by decide +kernel
theorem dX8_mark_61 : decode cX8_mark 61 = .ok (.ireturn, 1) := by decide +kernel
theorem dX8_mark_62 : decode cX8_mark 62 = .ok (.aload_n 0, 1) := by decide +kernel
theorem dX8_mark_63 : decode cX8_mark 63 = .ok (.aload_n 0, 1) := by decide +kernel
theorem dX8_mark_64 : decode cX8_mark 64 = .ok (.getfield 43, 3) := by decide +kernel
theorem dX8_mark_67 : decode cX8_mark 67 = .ok (.aload_n 0, 1) := by decide +kernel
theorem dX8_mark_68 : decode cX8_mark 68 = .ok (.getfield 87, 3) := by decide +kernel
theorem dX8_mark_71 : decode cX8_mark 71 = .ok (.iload_n 1, 1) := by decide +kernel
theorem dX8_mark_72 : decode cX8_mark 72 = .ok (.iload_n 2, 1) := by decide +kernel
theorem dX8_mark_73 : decode cX8_mark 73 = .ok (.iload_n 3, 1) := by decide +kernel
theorem dX8_mark_74 : decode cX8_mark 74 = .ok (.iload 4, 2) := by decide +kernel
theorem dX8_mark_76 : decode cX8_mark 76 = .ok (.invokestatic 265, 3) := by decide +kernel
theorem dX8_mark_79 : decode cX8_mark 79 = .ok (.putfield 87, 3) := by decide +kernel
theorem dX8_mark_82 : decode cX8_mark 82 = .ok (.aload_n 0, 1) := by decide +kernel
theorem dX8_mark_83 : decode cX8_mark 83 = .ok (.getfield 87, 3) := by decide +kernel
theorem dX8_mark_86 : decode cX8_mark 86 = .ok (.ireturn, 1) := by decide +kernel
theorem dX8_forget_0 : decode cX8_forget 0 = .ok (.iload_n 1, 1) := by decide +kernel
theorem dX8_forget_1 : decode cX8_forget 1 = .ok (.i2l, 1) := by decide +kernel
theorem dX8_forget_2 : decode cX8_forget 2 = .ok (.lconst 0, 1) := by decide +kernel
theorem dX8_forget_3 : decode cX8_forget 3 = .ok (.ldc2_w 66, 3) := by decide +kernel
theorem dX8_forget_6 : decode cX8_forget 6 = .ok (.invokestatic 68, 3) := by decide +kernel
theorem dX8_forget_9 : decode cX8_forget 9 = .ok (.ifCond .ne 8, 3) := by decide +kernel
theorem dX8_forget_12 : decode cX8_forget 12 = .ok (.aload_n 0, 1) := by decide +kernel
theorem dX8_forget_13 : decode cX8_forget 13 = .ok (.invokevirtual 101, 3) := by decide +kernel
theorem dX8_forget_16 : decode cX8_forget 16 = .ok (.ireturn, 1) := by decide +kernel
theorem dX8_forget_17 : decode cX8_forget 17 = .ok (.iload_n 1, 1) := by decide +kernel
theorem dX8_forget_18 : decode cX8_forget 18 = .ok (.ifCond .ne 10, 3) := by decide +kernel
theorem dX8_forget_21 : decode cX8_forget 21 = .ok (.aload_n 0, 1) := by decide +kernel
theorem dX8_forget_22 : decode cX8_forget 22 = .ok (.getfield 81, 3) := by decide +kernel
theorem dX8_forget_25 : decode cX8_forget 25 = .ok (.goto 19, 3) := by decide +kernel
theorem dX8_forget_28 : decode cX8_forget 28 = .ok (.iload_n 1, 1) := by decide +kernel
theorem dX8_forget_29 : decode cX8_forget 29 = .ok (.iconst 1, 1) := by decide +kernel
theorem dX8_forget_30 : decode cX8_forget 30 = .ok (.if_icmp .ne 10, 3) := by decide +kernel
theorem dX8_forget_33 : decode cX8_forget 33 = .ok (.aload_n 0, 1) := by decide +kernel
theorem dX8_forget_34 : decode cX8_forget 34 = .ok (.getfield 84, 3) := by decide +kernel
theorem dX8_forget_37 : decode cX8_forget 37 = .ok (.goto 7, 3) := by decide +kernel
theorem dX8_forget_40 : decode cX8_forget 40 = .ok (.aload_n 0, 1) := by decide +kernel
theorem dX8_forget_41 : decode cX8_forget 41 = .ok (.getfield 87, 3) := by decide +kernel
theorem dX8_forget_44 : decode cX8_forget 44 = .ok (.istore_n 2, 1) := by decide +kernel
theorem dX8_forget_45 : decode cX8_forget 45 = .ok (.aload_n 0, 1) := by decide +kernel
theorem dX8_forget_46 : decode cX8_forget 46 = .ok (.iload_n 1, 1) := by decide +kernel
theorem dX8_forget_47 : decode cX8_forget 47 = .ok (.ifCond .ne 7, 3) := by decide +kernel
theorem dX8_forget_50 : decode cX8_forget 50 = .ok (.iconst 0, 1) := by decide +kernel
theorem dX8_forget_51 : decode cX8_forget 51 = .ok (.goto 7, 3) := by decide +kernel
theorem dX8_forget_54 : decode cX8_forget 54 = .ok (.aload_n 0, 1) := by decide +kernel
theorem dX8_forget_55 : decode cX8_forget 55 = .ok (.getfield 81, 3) := by decide +kernel
theorem dX8_forget_58 : decode cX8_forget 58 = .ok (.putfield 81, 3) := by decide +kernel
theorem dX8_forget_61 : decode cX8_forget 61 = .ok (.aload_n 0, 1) := by decide +kernel
theorem dX8_forget_62 : decode cX8_forget 62 = .ok (.iload_n 1, 1) := by decide +kernel
theorem dX8_forget_63 : decode cX8_forget 63 = .ok (.iconst 1, 1) := by decide +kernel
theorem dX8_forget_64 : decode cX8_forget 64 = .ok (.if_icmp .ne 7, 3) := by decide +kernel
theorem dX8_forget_67 : decode cX8_forget 67 = .ok (.iconst 0, 1) := by decide +kernel
theorem dX8_forget_68 : decode cX8_forget 68 = .ok (.goto 7, 3) := by decide +kernel
theorem dX8_forget_71 : decode cX8_forget 71 = .ok (.aload_n 0, 1) := by decide +kernel
theorem dX8_forget_72 : decode cX8_forget 72 = .ok (.getfield 84, 3) := by decide +kernel
theorem dX8_forget_75 : decode cX8_forget 75 = .ok (.putfield 84, 3) := by decide +kernel
theorem dX8_forget_78 : decode cX8_forget 78 = .ok (.aload_n 0, 1) := by decide +kernel
theorem dX8_forget_79 : decode cX8_forget 79 = .ok (.iload_n 1, 1) := by decide +kernel
theorem dX8_forget_80 : decode cX8_forget 80 = .ok (.iconst 2, 1) := by decide +kernel
theorem dX8_forget_81 : decode cX8_forget 81 = .ok (.if_icmp .ne 7, 3) := by decide +kernel
theorem dX8_forget_84 : decode cX8_forget 84 = .ok (.iconst 0, 1) := by decide +kernel
theorem dX8_forget_85 : decode cX8_forget 85 = .ok (.goto 7, 3) := by decide +kernel
theorem dX8_forget_88 : decode cX8_forget 88 = .ok (.aload_n 0, 1) := by decide +kernel
theorem dX8_forget_89 : decode cX8_forget 89 = .ok (.getfield 87, 3) := by decide +kernel
theorem dX8_forget_92 : decode cX8_forget 92 = .ok (.putfield 87, 3) := by decide +kernel
theorem dX8_forget_95 : decode cX8_forget 95 = .ok (.iload_n 2, 1) := by decide +kernel
theorem dX8_forget_96 : decode cX8_forget 96 = .ok (.ireturn, 1) := by decide +kernel
theorem dX8_kindsOf_0 : decode cX8_kindsOf 0 = .ok (.bipush 63, 2) := by decide +kernel
theorem dX8_kindsOf_2 : decode cX8_kindsOf 2 = .ok (.istore_n 2, 1) := by decide +kernel
theorem dX8_kindsOf_3 : decode cX8_kindsOf 3 = .ok (.iconst 0, 1) := by decide +kernel
theorem dX8_kindsOf_4 : decode cX8_kindsOf 4 = .ok (.istore_n 3, 1) := by decide +kernel
theorem dX8_kindsOf_5 : decode cX8_kindsOf 5 = .ok (.iload_n 3, 1) := by decide +kernel
theorem dX8_kindsOf_6 : decode cX8_kindsOf 6 = .ok (.aload_n 0, 1) := by decide +kernel
theorem dX8_kindsOf_7 : decode cX8_kindsOf 7 = .ok (.getfield 84, 3) := by decide +kernel
theorem dX8_kindsOf_10 : decode cX8_kindsOf 10 = .ok (.if_icmp .ge 89, 3) := by decide +kernel
theorem dX8_kindsOf_13 : decode cX8_kindsOf 13 = .ok (.iconst 0, 1) := by decide +kernel
theorem dX8_kindsOf_14 : decode cX8_kindsOf 14 = .ok (.istore 4, 2) := by decide +kernel
theorem dX8_kindsOf_16 : decode cX8_kindsOf 16 = .ok (.iload 4, 2) := by decide +kernel
theorem dX8_kindsOf_18 : decode cX8_kindsOf 18 = .ok (.bipush 6, 2) := by decide +kernel
theorem dX8_kindsOf_20 : decode cX8_kindsOf 20 = .ok (.if_icmp .ge 73, 3) := by decide +kernel
theorem dX8_kindsOf_23 : decode cX8_kindsOf 23 = .ok (.aload_n 0, 1) := by decide +kernel
theorem dX8_kindsOf_24 : decode cX8_kindsOf 24 = .ok (.getfield 40, 3) := by decide +kernel
theorem dX8_kindsOf_27 : decode cX8_kindsOf 27 = .ok (.iconst 4, 1) := by decide +kernel
theorem dX8_kindsOf_28 : decode cX8_kindsOf 28 = .ok (.iload_n 3, 1) := by decide +kernel
theorem dX8_kindsOf_29 : decode cX8_kindsOf 29 = .ok (.imul, 1) := by decide +kernel
theorem dX8_kindsOf_30 : decode cX8_kindsOf 30 = .ok (.iaload, 1) := by decide +kernel
theorem dX8_kindsOf_31 : decode cX8_kindsOf 31 = .ok (.iload_n 1, 1) := by decide +kernel
theorem dX8_kindsOf_32 : decode cX8_kindsOf 32 = .ok (.if_icmp .ne 61, 3) := by decide +kernel
theorem dX8_kindsOf_35 : decode cX8_kindsOf 35 = .ok (.iload_n 2, 1) := by decide +kernel
theorem dX8_kindsOf_36 : decode cX8_kindsOf 36 = .ok (.iload 4, 2) := by decide +kernel
theorem dX8_kindsOf_38 : decode cX8_kindsOf 38 = .ok (.aload_n 0, 1) := by decide +kernel
theorem dX8_kindsOf_39 : decode cX8_kindsOf 39 = .ok (.getfield 40, 3) := by decide +kernel
theorem dX8_kindsOf_42 : decode cX8_kindsOf 42 = .ok (.iconst 4, 1) := by decide +kernel
theorem dX8_kindsOf_43 : decode cX8_kindsOf 43 = .ok (.iload_n 3, 1) := by decide +kernel
theorem dX8_kindsOf_44 : decode cX8_kindsOf 44 = .ok (.imul, 1) := by decide +kernel
theorem dX8_kindsOf_45 : decode cX8_kindsOf 45 = .ok (.iconst 1, 1) := by decide +kernel
theorem dX8_kindsOf_46 : decode cX8_kindsOf 46 = .ok (.iadd, 1) := by decide +kernel
theorem dX8_kindsOf_47 : decode cX8_kindsOf 47 = .ok (.iaload, 1) := by decide +kernel
theorem dX8_kindsOf_48 : decode cX8_kindsOf 48 = .ok (.aload_n 0, 1) := by decide +kernel
theorem dX8_kindsOf_49 : decode cX8_kindsOf 49 = .ok (.getfield 40, 3) := by decide +kernel
theorem dX8_kindsOf_52 : decode cX8_kindsOf 52 = .ok (.iconst 4, 1) := by decide +kernel
theorem dX8_kindsOf_53 : decode cX8_kindsOf 53 = .ok (.iload_n 3, 1) := by decide +kernel
theorem dX8_kindsOf_54 : decode cX8_kindsOf 54 = .ok (.imul, 1) := by decide +kernel
theorem dX8_kindsOf_55 : decode cX8_kindsOf 55 = .ok (.iconst 2, 1) := by decide +kernel
theorem dX8_kindsOf_56 : decode cX8_kindsOf 56 = .ok (.iadd, 1) := by decide +kernel
theorem dX8_kindsOf_57 : decode cX8_kindsOf 57 = .ok (.iaload, 1) := by decide +kernel
theorem dX8_kindsOf_58 : decode cX8_kindsOf 58 = .ok (.invokestatic 120, 3) := by decide +kernel
theorem dX8_kindsOf_61 : decode cX8_kindsOf 61 = .ok (.aload_n 0, 1) := by decide +kernel
theorem dX8_kindsOf_62 : decode cX8_kindsOf 62 = .ok (.getfield 40, 3) := by decide +kernel
theorem dX8_kindsOf_65 : decode cX8_kindsOf 65 = .ok (.iconst 4, 1) := by decide +kernel
theorem dX8_kindsOf_66 : decode cX8_kindsOf 66 = .ok (.iload_n 3, 1) := by decide +kernel
theorem dX8_kindsOf_67 : decode cX8_kindsOf 67 = .ok (.imul, 1) := by decide +kernel
theorem dX8_kindsOf_68 : decode cX8_kindsOf 68 = .ok (.iconst 3, 1) := by decide +kernel
theorem dX8_kindsOf_69 : decode cX8_kindsOf 69 = .ok (.iadd, 1) := by decide +kernel
theorem dX8_kindsOf_70 : decode cX8_kindsOf 70 = .ok (.iaload, 1) := by decide +kernel
theorem dX8_kindsOf_71 : decode cX8_kindsOf 71 = .ok (.if_icmp .ne 8, 3) := by decide +kernel
theorem dX8_kindsOf_74 : decode cX8_kindsOf 74 = .ok (.bipush 63, 2) := by decide +kernel
theorem dX8_kindsOf_76 : decode cX8_kindsOf 76 = .ok (.goto 9, 3) := by decide +kernel
theorem dX8_kindsOf_79 : decode cX8_kindsOf 79 = .ok (.iconst 1, 1) := by decide +kernel
theorem dX8_kindsOf_80 : decode cX8_kindsOf 80 = .ok (.iload 4, 2) := by decide +kernel
theorem dX8_kindsOf_82 : decode cX8_kindsOf 82 = .ok (.ishl, 1) := by decide +kernel
theorem dX8_kindsOf_83 : decode cX8_kindsOf 83 = .ok (.iconst (-1), 1) := by decide +kernel
theorem dX8_kindsOf_84 : decode cX8_kindsOf 84 = .ok (.ixor, 1) := by decide +kernel
theorem dX8_kindsOf_85 : decode cX8_kindsOf 85 = .ok (.iand, 1) := by decide +kernel
theorem dX8_kindsOf_86 : decode cX8_kindsOf 86 = .ok (.istore_n 2, 1) := by decide +kernel
theorem dX8_kindsOf_87 : decode cX8_kindsOf 87 = .ok (.iinc 4 1, 3) := by decide +kernel
theorem dX8_kindsOf_90 : decode cX8_kindsOf 90 = .ok (.goto (-74), 3) := by decide +kernel
theorem dX8_kindsOf_93 : decode cX8_kindsOf 93 = .ok (.iinc 3 1, 3) := by decide +kernel
theorem dX8_kindsOf_96 : decode cX8_kindsOf 96 = .ok (.goto (-91), 3) := by decide +kernel
theorem dX8_kindsOf_99 : decode cX8_kindsOf 99 = .ok (.iload_n 2, 1) := by decide +kernel
theorem dX8_kindsOf_100 : decode cX8_kindsOf 100 = .ok (.ireturn, 1) := by decide +kernel
theorem dX8_is_0 : decode cX8_is 0 = .ok (.aload_n 0, 1) := by decide +kernel
theorem dX8_is_1 : decode cX8_is 1 = .ok (.iload_n 1, 1) := by decide +kernel
theorem dX8_is_2 : decode cX8_is 2 = .ok (.invokevirtual 244, 3) := by decide +kernel
theorem dX8_is_5 : decode cX8_is 5 = .ok (.ifCond .eq 11, 3) := by decide +kernel
theorem dX8_is_8 : decode cX8_is 8 = .ok (.aload_n 0, 1) := by decide +kernel
theorem dX8_is_9 : decode cX8_is 9 = .ok (.iload_n 1, 1) := by decide +kernel
theorem dX8_is_10 : decode cX8_is 10 = .ok (.invokevirtual 269, 3) := by decide +kernel
theorem dX8_is_13 : decode cX8_is 13 = .ok (.goto 7, 3) := by decide +kernel
theorem dX8_is_16 : decode cX8_is 16 = .ok (.aload_n 0, 1) := by decide +kernel
theorem dX8_is_17 : decode cX8_is 17 = .ok (.invokevirtual 101, 3) := by decide +kernel
theorem dX8_is_20 : decode cX8_is 20 = .ok (.ireturn, 1) := by decide +kernel
theorem dX8_look_0 : decode cX8_look 0 = .ok (.aload_n 0, 1) := by decide +kernel
theorem dX8_look_1 : decode cX8_look 1 = .ok (.iload_n 1, 1) := by decide +kernel
theorem dX8_look_2 : decode cX8_look 2 = .ok (.invokevirtual 244, 3) := by decide +kernel
theorem dX8_look_5 : decode cX8_look 5 = .ok (.ifCond .ne 8, 3) := by decide +kernel
theorem dX8_look_8 : decode cX8_look 8 = .ok (.aload_n 0, 1) := by decide +kernel
theorem dX8_look_9 : decode cX8_look 9 = .ok (.invokevirtual 101, 3) := by decide +kernel
theorem dX8_look_12 : decode cX8_look 12 = .ok (.ireturn, 1) := by decide +kernel
theorem dX8_look_13 : decode cX8_look 13 = .ok (.aload_n 0, 1) := by decide +kernel
theorem dX8_look_14 : decode cX8_look 14 = .ok (.iload_n 1, 1) := by decide +kernel
theorem dX8_look_15 : decode cX8_look 15 = .ok (.invokevirtual 269, 3) := by decide +kernel
theorem dX8_look_18 : decode cX8_look 18 = .ok (.istore_n 2, 1) := by decide +kernel
theorem dX8_look_19 : decode cX8_look 19 = .ok (.iconst (-1), 1) := by decide +kernel
theorem dX8_look_20 : decode cX8_look 20 = .ok (.istore_n 3, 1) := by decide +kernel
theorem dX8_look_21 : decode cX8_look 21 = .ok (.bipush 99, 2) := by decide +kernel
theorem dX8_look_23 : decode cX8_look 23 = .ok (.istore 4, 2) := by decide +kernel
theorem dX8_look_25 : decode cX8_look 25 = .ok (.iconst 0, 1) := by decide +kernel
theorem dX8_look_26 : decode cX8_look 26 = .ok (.istore 5, 2) := by decide +kernel
theorem dX8_look_28 : decode cX8_look 28 = .ok (.iload 5, 2) := by decide +kernel
theorem dX8_look_30 : decode cX8_look 30 = .ok (.bipush 30, 2) := by decide +kernel
theorem dX8_look_32 : decode cX8_look 32 = .ok (.if_icmp .ge 151, 3) := by decide +kernel
theorem dX8_look_35 : decode cX8_look 35 = .ok (.iload_n 2, 1) := by decide +kernel
theorem dX8_look_36 : decode cX8_look 36 = .ok (.ifCond .eq 147, 3) := by decide +kernel
theorem dX8_look_39 : decode cX8_look 39 = .ok (.iconst 0, 1) := by decide +kernel
theorem dX8_look_40 : decode cX8_look 40 = .ok (.istore 6, 2) := by decide +kernel
theorem dX8_look_42 : decode cX8_look 42 = .ok (.iconst 0, 1) := by decide +kernel
theorem dX8_look_43 : decode cX8_look 43 = .ok (.istore 7, 2) := by decide +kernel
theorem dX8_look_45 : decode cX8_look 45 = .ok (.iload 7, 2) := by decide +kernel
theorem dX8_look_47 : decode cX8_look 47 = .ok (.bipush 6, 2) := by decide +kernel
theorem dX8_look_49 : decode cX8_look 49 = .ok (.if_icmp .ge 98, 3) := by decide +kernel
theorem dX8_look_52 : decode cX8_look 52 = .ok (.iconst 0, 1) := by decide +kernel
theorem dX8_look_53 : decode cX8_look 53 = .ok (.istore 8, 2) := by decide +kernel
theorem dX8_look_55 : decode cX8_look 55 = .ok (.iconst 0, 1) := by decide +kernel
theorem dX8_look_56 : decode cX8_look 56 = .ok (.istore 9, 2) := by decide +kernel
theorem dX8_look_58 : decode cX8_look 58 = .ok (.iload 9, 2) := by decide +kernel
theorem dX8_look_60 : decode cX8_look 60 = .ok (.bipush 6, 2) := by decide +kernel
theorem dX8_look_62 : decode cX8_look 62 = .ok (.if_icmp .ge 63, 3) := by decide +kernel
theorem dX8_look_65 : decode cX8_look 65 = .ok (.iload 8, 2) := by decide +kernel
theorem dX8_look_67 : decode cX8_look 67 = .ok (.iload_n 2, 1) := by decide +kernel
theorem dX8_look_68 : decode cX8_look 68 = .ok (.iload 7, 2) := by decide +kernel
theorem dX8_look_70 : decode cX8_look 70 = .ok (.ishr, 1) := by decide +kernel
theorem dX8_look_71 : decode cX8_look 71 = .ok (.iload_n 2, 1) := by decide +kernel
theorem dX8_look_72 : decode cX8_look 72 = .ok (.iload 9, 2) := by decide +kernel
theorem dX8_look_74 : decode cX8_look 74 = .ok (.ishr, 1) := by decide +kernel
theorem dX8_look_75 : decode cX8_look 75 = .ok (.iand, 1) := by decide +kernel
theorem dX8_look_76 : decode cX8_look 76 = .ok (.iconst 1, 1) := by decide +kernel
theorem dX8_look_77 : decode cX8_look 77 = .ok (.iand, 1) := by decide +kernel
theorem dX8_look_78 : decode cX8_look 78 = .ok (.iconst 1, 1) := by decide +kernel
theorem dX8_look_79 : decode cX8_look 79 = .ok (.if_icmp .ne 36, 3) := by decide +kernel
theorem dX8_look_82 : decode cX8_look 82 = .ok (.iload 7, 2) := by decide +kernel
theorem dX8_look_84 : decode cX8_look 84 = .ok (.aload_n 0, 1) := by decide +kernel
theorem dX8_look_85 : decode cX8_look 85 = .ok (.getfield 19, 3) := by decide +kernel
theorem dX8_look_88 : decode cX8_look 88 = .ok (.iload_n 1, 1) := by decide +kernel
theorem dX8_look_89 : decode cX8_look 89 = .ok (.iaload, 1) := by decide +kernel
theorem dX8_look_90 : decode cX8_look 90 = .ok (.iload 5, 2) := by decide +kernel
theorem dX8_look_92 : decode cX8_look 92 = .ok (.invokestatic 120, 3) := by decide +kernel
theorem dX8_look_95 : decode cX8_look 95 = .ok (.iload 9, 2) := by decide +kernel
theorem dX8_look_97 : decode cX8_look 97 = .ok (.aload_n 0, 1) := by decide +kernel
theorem dX8_look_98 : decode cX8_look 98 = .ok (.getfield 19, 3) := by decide +kernel
theorem dX8_look_101 : decode cX8_look 101 = .ok (.iload_n 1, 1) := by decide +kernel
theorem dX8_look_102 : decode cX8_look 102 = .ok (.iaload, 1) := by decide +kernel
theorem dX8_look_103 : decode cX8_look 103 = .ok (.iload 5, 2) := by decide +kernel
theorem dX8_look_105 : decode cX8_look 105 = .ok (.invokestatic 120, 3) := by decide +kernel
theorem dX8_look_108 : decode cX8_look 108 = .ok (.if_icmp .ne 7, 3) := by decide +kernel
theorem dX8_look_111 : decode cX8_look 111 = .ok (.iconst 1, 1) := by decide +kernel
theorem dX8_look_112 : decode cX8_look 112 = .ok (.goto 4, 3) := by decide +kernel
theorem dX8_look_115 : decode cX8_look 115 = .ok (.iconst 0, 1) := by decide +kernel
theorem dX8_look_116 : decode cX8_look 116 = .ok (.iadd, 1) := by decide +kernel
theorem dX8_look_117 : decode cX8_look 117 = .ok (.istore 8, 2) := by decide +kernel
theorem dX8_look_119 : decode cX8_look 119 = .ok (.iinc 9 1, 3) := by decide +kernel
theorem dX8_look_122 : decode cX8_look 122 = .ok (.goto (-64), 3) := by decide +kernel
theorem dX8_look_125 : decode cX8_look 125 = .ok (.iload 8, 2) := by decide +kernel
theorem dX8_look_127 : decode cX8_look 127 = .ok (.iload 6, 2) := by decide +kernel
theorem dX8_look_129 : decode cX8_look 129 = .ok (.if_icmp .le 8, 3) := by decide +kernel
theorem dX8_look_132 : decode cX8_look 132 = .ok (.iload 8, 2) := by decide +kernel
theorem dX8_look_134 : decode cX8_look 134 = .ok (.goto 5, 3) := by decide +kernel
theorem dX8_look_137 : decode cX8_look 137 = .ok (.iload 6, 2) := by decide +kernel
theorem dX8_look_139 : decode cX8_look 139 = .ok (.istore 6, 2) := by decide +kernel
theorem dX8_look_141 : decode cX8_look 141 = .ok (.iinc 7 1, 3) := by decide +kernel
theorem dX8_look_144 : decode cX8_look 144 = .ok (.goto (-99), 3) := by decide +kernel
theorem dX8_look_147 : decode cX8_look 147 = .ok (.iload 6, 2) := by decide +kernel
theorem dX8_look_149 : decode cX8_look 149 = .ok (.iload 4, 2) := by decide +kernel
theorem dX8_look_151 : decode cX8_look 151 = .ok (.if_icmp .ge 8, 3) := by decide +kernel
theorem dX8_look_154 : decode cX8_look 154 = .ok (.iload 5, 2) := by decide +kernel
theorem dX8_look_156 : decode cX8_look 156 = .ok (.goto 4, 3) := by decide +kernel
theorem dX8_look_159 : decode cX8_look 159 = .ok (.iload_n 3, 1) := by decide +kernel
theorem dX8_look_160 : decode cX8_look 160 = .ok (.istore_n 3, 1) := by decide +kernel
theorem dX8_look_161 : decode cX8_look 161 = .ok (.iload 6, 2) := by decide +kernel
theorem dX8_look_163 : decode cX8_look 163 = .ok (.iload 4, 2) := by decide +kernel
theorem dX8_look_165 : decode cX8_look 165 = .ok (.if_icmp .ge 8, 3) := by decide +kernel
theorem dX8_look_168 : decode cX8_look 168 = .ok (.iload 6, 2) := by decide +kernel
theorem dX8_look_170 : decode cX8_look 170 = .ok (.goto 5, 3) := by decide +kernel
theorem dX8_look_173 : decode cX8_look 173 = .ok (.iload 4, 2) := by decide +kernel
theorem dX8_look_175 : decode cX8_look 175 = .ok (.istore 4, 2) := by decide +kernel
theorem dX8_look_177 : decode cX8_look 177 = .ok (.iinc 5 1, 3) := by decide +kernel
theorem dX8_look_180 : decode cX8_look 180 = .ok (.goto (-152), 3) := by decide +kernel
theorem dX8_look_183 : decode cX8_look 183 = .ok (.iload_n 3, 1) := by decide +kernel
theorem dX8_look_184 : decode cX8_look 184 = .ok (.ireturn, 1) := by decide +kernel
theorem dX8_sortsOf_0 : decode cX8_sortsOf 0 = .ok (.bipush 63, 2) := by decide +kernel
theorem dX8_sortsOf_2 : decode cX8_sortsOf 2 = .ok (.istore_n 2, 1) := by decide +kernel
theorem dX8_sortsOf_3 : decode cX8_sortsOf 3 = .ok (.iconst 0, 1) := by decide +kernel
theorem dX8_sortsOf_4 : decode cX8_sortsOf 4 = .ok (.istore_n 3, 1) := by decide +kernel
theorem dX8_sortsOf_5 : decode cX8_sortsOf 5 = .ok (.iload_n 3, 1) := by decide +kernel
theorem dX8_sortsOf_6 : decode cX8_sortsOf 6 = .ok (.aload_n 0, 1) := by decide +kernel
theorem dX8_sortsOf_7 : decode cX8_sortsOf 7 = .ok (.getfield 87, 3) := by decide +kernel
theorem dX8_sortsOf_10 : decode cX8_sortsOf 10 = .ok (.if_icmp .ge 98, 3) := by decide +kernel
theorem dX8_sortsOf_13 : decode cX8_sortsOf 13 = .ok (.iconst 0, 1) := by decide +kernel
theorem dX8_sortsOf_14 : decode cX8_sortsOf 14 = .ok (.istore 4, 2) := by decide +kernel
theorem dX8_sortsOf_16 : decode cX8_sortsOf 16 = .ok (.iload 4, 2) := by decide +kernel
theorem dX8_sortsOf_18 : decode cX8_sortsOf 18 = .ok (.bipush 6, 2) := by decide +kernel
theorem dX8_sortsOf_20 : decode cX8_sortsOf 20 = .ok (.if_icmp .ge 82, 3) := by decide +kernel
theorem dX8_sortsOf_23 : decode cX8_sortsOf 23 = .ok (.aload_n 0, 1) := by decide +kernel
theorem dX8_sortsOf_24 : decode cX8_sortsOf 24 = .ok (.getfield 43, 3) := by decide +kernel
theorem dX8_sortsOf_27 : decode cX8_sortsOf 27 = .ok (.iconst 4, 1) := by decide +kernel
theorem dX8_sortsOf_28 : decode cX8_sortsOf 28 = .ok (.iload_n 3, 1) := by decide +kernel
theorem dX8_sortsOf_29 : decode cX8_sortsOf 29 = .ok (.imul, 1) := by decide +kernel
theorem dX8_sortsOf_30 : decode cX8_sortsOf 30 = .ok (.iaload, 1) := by decide +kernel
theorem dX8_sortsOf_31 : decode cX8_sortsOf 31 = .ok (.iload_n 1, 1) := by decide +kernel
theorem dX8_sortsOf_32 : decode cX8_sortsOf 32 = .ok (.if_icmp .ne 70, 3) := by decide +kernel
theorem dX8_sortsOf_35 : decode cX8_sortsOf 35 = .ok (.iload_n 2, 1) := by decide +kernel
theorem dX8_sortsOf_36 : decode cX8_sortsOf 36 = .ok (.iload 4, 2) := by decide +kernel
theorem dX8_sortsOf_38 : decode cX8_sortsOf 38 = .ok (.aload_n 0, 1) := by decide +kernel
theorem dX8_sortsOf_39 : decode cX8_sortsOf 39 = .ok (.getfield 43, 3) := by decide +kernel
theorem dX8_sortsOf_42 : decode cX8_sortsOf 42 = .ok (.iconst 4, 1) := by decide +kernel
theorem dX8_sortsOf_43 : decode cX8_sortsOf 43 = .ok (.iload_n 3, 1) := by decide +kernel
theorem dX8_sortsOf_44 : decode cX8_sortsOf 44 = .ok (.imul, 1) := by decide +kernel
theorem dX8_sortsOf_45 : decode cX8_sortsOf 45 = .ok (.iconst 1, 1) := by decide +kernel
theorem dX8_sortsOf_46 : decode cX8_sortsOf 46 = .ok (.iadd, 1) := by decide +kernel
theorem dX8_sortsOf_47 : decode cX8_sortsOf 47 = .ok (.iaload, 1) := by decide +kernel
theorem dX8_sortsOf_48 : decode cX8_sortsOf 48 = .ok (.aload_n 0, 1) := by decide +kernel
theorem dX8_sortsOf_49 : decode cX8_sortsOf 49 = .ok (.getfield 43, 3) := by decide +kernel
theorem dX8_sortsOf_52 : decode cX8_sortsOf 52 = .ok (.iconst 4, 1) := by decide +kernel
theorem dX8_sortsOf_53 : decode cX8_sortsOf 53 = .ok (.iload_n 3, 1) := by decide +kernel
theorem dX8_sortsOf_54 : decode cX8_sortsOf 54 = .ok (.imul, 1) := by decide +kernel
theorem dX8_sortsOf_55 : decode cX8_sortsOf 55 = .ok (.iconst 2, 1) := by decide +kernel
theorem dX8_sortsOf_56 : decode cX8_sortsOf 56 = .ok (.iadd, 1) := by decide +kernel
theorem dX8_sortsOf_57 : decode cX8_sortsOf 57 = .ok (.iaload, 1) := by decide +kernel
theorem dX8_sortsOf_58 : decode cX8_sortsOf 58 = .ok (.invokestatic 130, 3) := by decide +kernel
theorem dX8_sortsOf_61 : decode cX8_sortsOf 61 = .ok (.aload_n 0, 1) := by decide +kernel
theorem dX8_sortsOf_62 : decode cX8_sortsOf 62 = .ok (.getfield 43, 3) := by decide +kernel
theorem dX8_sortsOf_65 : decode cX8_sortsOf 65 = .ok (.iconst 4, 1) := by decide +kernel
theorem dX8_sortsOf_66 : decode cX8_sortsOf 66 = .ok (.iload_n 3, 1) := by decide +kernel
theorem dX8_sortsOf_67 : decode cX8_sortsOf 67 = .ok (.imul, 1) := by decide +kernel
theorem dX8_sortsOf_68 : decode cX8_sortsOf 68 = .ok (.iconst 3, 1) := by decide +kernel
theorem dX8_sortsOf_69 : decode cX8_sortsOf 69 = .ok (.iadd, 1) := by decide +kernel
theorem dX8_sortsOf_70 : decode cX8_sortsOf 70 = .ok (.iaload, 1) := by decide +kernel
theorem dX8_sortsOf_71 : decode cX8_sortsOf 71 = .ok (.iconst 1, 1) := by decide +kernel
theorem dX8_sortsOf_72 : decode cX8_sortsOf 72 = .ok (.if_icmp .ne 7, 3) := by decide +kernel
theorem dX8_sortsOf_75 : decode cX8_sortsOf 75 = .ok (.iconst 1, 1) := by decide +kernel
theorem dX8_sortsOf_76 : decode cX8_sortsOf 76 = .ok (.goto 4, 3) := by decide +kernel
theorem dX8_sortsOf_79 : decode cX8_sortsOf 79 = .ok (.iconst 0, 1) := by decide +kernel
theorem dX8_sortsOf_80 : decode cX8_sortsOf 80 = .ok (.if_icmp .ne 8, 3) := by decide +kernel
theorem dX8_sortsOf_83 : decode cX8_sortsOf 83 = .ok (.bipush 63, 2) := by decide +kernel
theorem dX8_sortsOf_85 : decode cX8_sortsOf 85 = .ok (.goto 9, 3) := by decide +kernel
theorem dX8_sortsOf_88 : decode cX8_sortsOf 88 = .ok (.iconst 1, 1) := by decide +kernel
theorem dX8_sortsOf_89 : decode cX8_sortsOf 89 = .ok (.iload 4, 2) := by decide +kernel
theorem dX8_sortsOf_91 : decode cX8_sortsOf 91 = .ok (.ishl, 1) := by decide +kernel
theorem dX8_sortsOf_92 : decode cX8_sortsOf 92 = .ok (.iconst (-1), 1) := by decide +kernel
theorem dX8_sortsOf_93 : decode cX8_sortsOf 93 = .ok (.ixor, 1) := by decide +kernel
theorem dX8_sortsOf_94 : decode cX8_sortsOf 94 = .ok (.iand, 1) := by decide +kernel
theorem dX8_sortsOf_95 : decode cX8_sortsOf 95 = .ok (.istore_n 2, 1) := by decide +kernel
theorem dX8_sortsOf_96 : decode cX8_sortsOf 96 = .ok (.iinc 4 1, 3) := by decide +kernel
theorem dX8_sortsOf_99 : decode cX8_sortsOf 99 = .ok (.goto (-83), 3) := by decide +kernel
theorem dX8_sortsOf_102 : decode cX8_sortsOf 102 = .ok (.iinc 3 1, 3) := by decide +kernel
theorem dX8_sortsOf_105 : decode cX8_sortsOf 105 = .ok (.goto (-100), 3) := by decide +kernel
theorem dX8_sortsOf_108 : decode cX8_sortsOf 108 = .ok (.iload_n 2, 1) := by decide +kernel
theorem dX8_sortsOf_109 : decode cX8_sortsOf 109 = .ok (.ireturn, 1) := by decide +kernel
theorem dX8_kinds_0 : decode cX8_kinds 0 = .ok (.aload_n 0, 1) := by decide +kernel
theorem dX8_kinds_1 : decode cX8_kinds 1 = .ok (.iload_n 1, 1) := by decide +kernel
theorem dX8_kinds_2 : decode cX8_kinds 2 = .ok (.invokevirtual 236, 3) := by decide +kernel
theorem dX8_kinds_5 : decode cX8_kinds 5 = .ok (.ifCond .eq 11, 3) := by decide +kernel
theorem dX8_kinds_8 : decode cX8_kinds 8 = .ok (.aload_n 0, 1) := by decide +kernel
theorem dX8_kinds_9 : decode cX8_kinds 9 = .ok (.iload_n 1, 1) := by decide +kernel
theorem dX8_kinds_10 : decode cX8_kinds 10 = .ok (.invokevirtual 272, 3) := by decide +kernel
theorem dX8_kinds_13 : decode cX8_kinds 13 = .ok (.goto 7, 3) := by decide +kernel
theorem dX8_kinds_16 : decode cX8_kinds 16 = .ok (.aload_n 0, 1) := by decide +kernel
theorem dX8_kinds_17 : decode cX8_kinds 17 = .ok (.invokevirtual 101, 3) := by decide +kernel
theorem dX8_kinds_20 : decode cX8_kinds 20 = .ok (.ireturn, 1) := by decide +kernel
theorem dX8_ask_0 : decode cX8_ask 0 = .ok (.aload_n 0, 1) := by decide +kernel
theorem dX8_ask_1 : decode cX8_ask 1 = .ok (.iload_n 1, 1) := by decide +kernel
theorem dX8_ask_2 : decode cX8_ask 2 = .ok (.invokevirtual 236, 3) := by decide +kernel
theorem dX8_ask_5 : decode cX8_ask 5 = .ok (.ifCond .ne 8, 3) := by decide +kernel
theorem dX8_ask_8 : decode cX8_ask 8 = .ok (.aload_n 0, 1) := by decide +kernel
theorem dX8_ask_9 : decode cX8_ask 9 = .ok (.invokevirtual 101, 3) := by decide +kernel
theorem dX8_ask_12 : decode cX8_ask 12 = .ok (.ireturn, 1) := by decide +kernel
theorem dX8_ask_13 : decode cX8_ask 13 = .ok (.aload_n 0, 1) := by decide +kernel
theorem dX8_ask_14 : decode cX8_ask 14 = .ok (.iload_n 1, 1) := by decide +kernel
theorem dX8_ask_15 : decode cX8_ask 15 = .ok (.invokevirtual 272, 3) := by decide +kernel
theorem dX8_ask_18 : decode cX8_ask 18 = .ok (.istore_n 2, 1) := by decide +kernel
theorem dX8_ask_19 : decode cX8_ask 19 = .ok (.iconst (-1), 1) := by decide +kernel
theorem dX8_ask_20 : decode cX8_ask 20 = .ok (.istore_n 3, 1) := by decide +kernel
theorem dX8_ask_21 : decode cX8_ask 21 = .ok (.bipush 99, 2) := by decide +kernel
theorem dX8_ask_23 : decode cX8_ask 23 = .ok (.istore 4, 2) := by decide +kernel
theorem dX8_ask_25 : decode cX8_ask 25 = .ok (.iconst 0, 1) := by decide +kernel
theorem dX8_ask_26 : decode cX8_ask 26 = .ok (.istore 5, 2) := by decide +kernel
theorem dX8_ask_28 : decode cX8_ask 28 = .ok (.iload 5, 2) := by decide +kernel
theorem dX8_ask_30 : decode cX8_ask 30 = .ok (.sipush 961, 3) := by decide +kernel
theorem dX8_ask_33 : decode cX8_ask 33 = .ok (.if_icmp .ge 135, 3) := by decide +kernel
theorem dX8_ask_36 : decode cX8_ask 36 = .ok (.iload_n 2, 1) := by decide +kernel
theorem dX8_ask_37 : decode cX8_ask 37 = .ok (.ifCond .eq 131, 3) := by decide +kernel
theorem dX8_ask_40 : decode cX8_ask 40 = .ok (.iload 5, 2) := by decide +kernel
theorem dX8_ask_42 : decode cX8_ask 42 = .ok (.bipush 100, 2) := by decide +kernel
theorem dX8_ask_44 : decode cX8_ask 44 = .ok (.irem, 1) := by decide +kernel
theorem dX8_ask_45 : decode cX8_ask 45 = .ok (.bipush 60, 2) := by decide +kernel
theorem dX8_ask_47 : decode cX8_ask 47 = .ok (.if_icmp .gt 115, 3) := by decide +kernel
theorem dX8_ask_50 : decode cX8_ask 50 = .ok (.iconst 0, 1) := by decide +kernel
theorem dX8_ask_51 : decode cX8_ask 51 = .ok (.istore 6, 2) := by decide +kernel
theorem dX8_ask_53 : decode cX8_ask 53 = .ok (.iconst 0, 1) := by decide +kernel
theorem dX8_ask_54 : decode cX8_ask 54 = .ok (.istore 7, 2) := by decide +kernel
theorem dX8_ask_56 : decode cX8_ask 56 = .ok (.iload 7, 2) := by decide +kernel
theorem dX8_ask_58 : decode cX8_ask 58 = .ok (.bipush 6, 2) := by decide +kernel
theorem dX8_ask_60 : decode cX8_ask 60 = .ok (.if_icmp .ge 47, 3) := by decide +kernel
theorem dX8_ask_63 : decode cX8_ask 63 = .ok (.iload 6, 2) := by decide +kernel
theorem dX8_ask_65 : decode cX8_ask 65 = .ok (.iload_n 2, 1) := by decide +kernel
theorem dX8_ask_66 : decode cX8_ask 66 = .ok (.iload 7, 2) := by decide +kernel
theorem dX8_ask_68 : decode cX8_ask 68 = .ok (.ishr, 1) := by decide +kernel
theorem dX8_ask_69 : decode cX8_ask 69 = .ok (.iconst 1, 1) := by decide +kernel
theorem dX8_ask_70 : decode cX8_ask 70 = .ok (.iand, 1) := by decide +kernel
theorem dX8_ask_71 : decode cX8_ask 71 = .ok (.iconst 1, 1) := by decide +kernel
theorem dX8_ask_72 : decode cX8_ask 72 = .ok (.if_icmp .ne 25, 3) := by decide +kernel
theorem dX8_ask_75 : decode cX8_ask 75 = .ok (.iload 7, 2) := by decide +kernel
theorem dX8_ask_77 : decode cX8_ask 77 = .ok (.iload 5, 2) := by decide +kernel
theorem dX8_ask_79 : decode cX8_ask 79 = .ok (.bipush 100, 2) := by decide +kernel
theorem dX8_ask_81 : decode cX8_ask 81 = .ok (.idiv, 1) := by decide +kernel
theorem dX8_ask_82 : decode cX8_ask 82 = .ok (.iload 5, 2) := by decide +kernel
theorem dX8_ask_84 : decode cX8_ask 84 = .ok (.bipush 100, 2) := by decide +kernel
theorem dX8_ask_86 : decode cX8_ask 86 = .ok (.irem, 1) := by decide +kernel
theorem dX8_ask_87 : decode cX8_ask 87 = .ok (.invokestatic 130, 3) := by decide +kernel
theorem dX8_ask_90 : decode cX8_ask 90 = .ok (.ifCond .eq 7, 3) := by decide +kernel
theorem dX8_ask_93 : decode cX8_ask 93 = .ok (.iconst 1, 1) := by decide +kernel
theorem dX8_ask_94 : decode cX8_ask 94 = .ok (.goto 4, 3) := by decide +kernel
theorem dX8_ask_97 : decode cX8_ask 97 = .ok (.iconst 0, 1) := by decide +kernel
theorem dX8_ask_98 : decode cX8_ask 98 = .ok (.iadd, 1) := by decide +kernel
theorem dX8_ask_99 : decode cX8_ask 99 = .ok (.istore 6, 2) := by decide +kernel
theorem dX8_ask_101 : decode cX8_ask 101 = .ok (.iinc 7 1, 3) := by decide +kernel
theorem dX8_ask_104 : decode cX8_ask 104 = .ok (.goto (-48), 3) := by decide +kernel
theorem dX8_ask_107 : decode cX8_ask 107 = .ok (.iconst 2, 1) := by decide +kernel
theorem dX8_ask_108 : decode cX8_ask 108 = .ok (.iload 6, 2) := by decide +kernel
theorem dX8_ask_110 : decode cX8_ask 110 = .ok (.imul, 1) := by decide +kernel
theorem dX8_ask_111 : decode cX8_ask 111 = .ok (.iload_n 2, 1) := by decide +kernel
theorem dX8_ask_112 : decode cX8_ask 112 = .ok (.invokestatic 145, 3) := by decide +kernel
theorem dX8_ask_115 : decode cX8_ask 115 = .ok (.if_icmp .le 8, 3) := by decide +kernel
theorem dX8_ask_118 : decode cX8_ask 118 = .ok (.iload 6, 2) := by decide +kernel
theorem dX8_ask_120 : decode cX8_ask 120 = .ok (.goto 10, 3) := by decide +kernel
theorem dX8_ask_123 : decode cX8_ask 123 = .ok (.iload_n 2, 1) := by decide +kernel
theorem dX8_ask_124 : decode cX8_ask 124 = .ok (.invokestatic 145, 3) := by decide +kernel
theorem dX8_ask_127 : decode cX8_ask 127 = .ok (.iload 6, 2) := by decide +kernel
theorem dX8_ask_129 : decode cX8_ask 129 = .ok (.isub, 1) := by decide +kernel
theorem dX8_ask_130 : decode cX8_ask 130 = .ok (.istore 7, 2) := by decide +kernel
theorem dX8_ask_132 : decode cX8_ask 132 = .ok (.iload 7, 2) := by decide +kernel
theorem dX8_ask_134 : decode cX8_ask 134 = .ok (.iload 4, 2) := by decide +kernel
theorem dX8_ask_136 : decode cX8_ask 136 = .ok (.if_icmp .ge 8, 3) := by decide +kernel
theorem dX8_ask_139 : decode cX8_ask 139 = .ok (.iload 5, 2) := by decide +kernel
theorem dX8_ask_141 : decode cX8_ask 141 = .ok (.goto 4, 3) := by decide +kernel
theorem dX8_ask_144 : decode cX8_ask 144 = .ok (.iload_n 3, 1) := by decide +kernel
theorem dX8_ask_145 : decode cX8_ask 145 = .ok (.istore_n 3, 1) := by decide +kernel
theorem dX8_ask_146 : decode cX8_ask 146 = .ok (.iload 7, 2) := by decide +kernel
theorem dX8_ask_148 : decode cX8_ask 148 = .ok (.iload 4, 2) := by decide +kernel
theorem dX8_ask_150 : decode cX8_ask 150 = .ok (.if_icmp .ge 8, 3) := by decide +kernel
theorem dX8_ask_153 : decode cX8_ask 153 = .ok (.iload 7, 2) := by decide +kernel
theorem dX8_ask_155 : decode cX8_ask 155 = .ok (.goto 5, 3) := by decide +kernel
theorem dX8_ask_158 : decode cX8_ask 158 = .ok (.iload 4, 2) := by decide +kernel
theorem dX8_ask_160 : decode cX8_ask 160 = .ok (.istore 4, 2) := by decide +kernel
theorem dX8_ask_162 : decode cX8_ask 162 = .ok (.iinc 5 1, 3) := by decide +kernel
theorem dX8_ask_165 : decode cX8_ask 165 = .ok (.goto (-137), 3) := by decide +kernel
theorem dX8_ask_168 : decode cX8_ask 168 = .ok (.iload_n 3, 1) := by decide +kernel
theorem dX8_ask_169 : decode cX8_ask 169 = .ok (.ireturn, 1) := by decide +kernel
theorem dX8_gain_0 : decode cX8_gain 0 = .ok (.aload_n 0, 1) := by decide +kernel
theorem dX8_gain_1 : decode cX8_gain 1 = .ok (.getfield 46, 3) := by decide +kernel
theorem dX8_gain_4 : decode cX8_gain 4 = .ok (.iconst 4, 1) := by decide +kernel
theorem dX8_gain_5 : decode cX8_gain 5 = .ok (.iload_n 1, 1) := by decide +kernel
theorem dX8_gain_6 : decode cX8_gain 6 = .ok (.imul, 1) := by decide +kernel
theorem dX8_gain_7 : decode cX8_gain 7 = .ok (.iload_n 2, 1) := by decide +kernel
theorem dX8_gain_8 : decode cX8_gain 8 = .ok (.iadd, 1) := by decide +kernel
theorem dX8_gain_9 : decode cX8_gain 9 = .ok (.iaload, 1) := by decide +kernel
theorem dX8_gain_10 : decode cX8_gain 10 = .ok (.iload_n 2, 1) := by decide +kernel
theorem dX8_gain_11 : decode cX8_gain 11 = .ok (.iload_n 3, 1) := by decide +kernel
theorem dX8_gain_12 : decode cX8_gain 12 = .ok (.if_icmp .ne 7, 3) := by decide +kernel
theorem dX8_gain_15 : decode cX8_gain 15 = .ok (.iconst 1, 1) := by decide +kernel
theorem dX8_gain_16 : decode cX8_gain 16 = .ok (.goto 4, 3) := by decide +kernel
theorem dX8_gain_19 : decode cX8_gain 19 = .ok (.iconst 0, 1) := by decide +kernel
theorem dX8_gain_20 : decode cX8_gain 20 = .ok (.isub, 1) := by decide +kernel
theorem dX8_gain_21 : decode cX8_gain 21 = .ok (.ireturn, 1) := by decide +kernel
theorem dX8_rests_0 : decode cX8_rests 0 = .ok (.iconst 1, 1) := by decide +kernel
theorem dX8_rests_1 : decode cX8_rests 1 = .ok (.istore_n 3, 1) := by decide +kernel
theorem dX8_rests_2 : decode cX8_rests 2 = .ok (.iconst 0, 1) := by decide +kernel
theorem dX8_rests_3 : decode cX8_rests 3 = .ok (.istore 4, 2) := by decide +kernel
theorem dX8_rests_5 : decode cX8_rests 5 = .ok (.iload 4, 2) := by decide +kernel
theorem dX8_rests_7 : decode cX8_rests 7 = .ok (.iconst 4, 1) := by decide +kernel
theorem dX8_rests_8 : decode cX8_rests 8 = .ok (.if_icmp .ge 55, 3) := by decide +kernel
theorem dX8_rests_11 : decode cX8_rests 11 = .ok (.iload_n 3, 1) := by decide +kernel
theorem dX8_rests_12 : decode cX8_rests 12 = .ok (.ifCond .eq 43, 3) := by decide +kernel
theorem dX8_rests_15 : decode cX8_rests 15 = .ok (.aload_n 0, 1) := by decide +kernel
theorem dX8_rests_16 : decode cX8_rests 16 = .ok (.iconst 0, 1) := by decide +kernel
theorem dX8_rests_17 : decode cX8_rests 17 = .ok (.iload 4, 2) := by decide +kernel
theorem dX8_rests_19 : decode cX8_rests 19 = .ok (.iload_n 2, 1) := by decide +kernel
theorem dX8_rests_20 : decode cX8_rests 20 = .ok (.invokevirtual 275, 3) := by decide +kernel
theorem dX8_rests_23 : decode cX8_rests 23 = .ok (.aload_n 0, 1) := by decide +kernel
theorem dX8_rests_24 : decode cX8_rests 24 = .ok (.iconst 0, 1) := by decide +kernel
theorem dX8_rests_25 : decode cX8_rests 25 = .ok (.iload_n 1, 1) := by decide +kernel
theorem dX8_rests_26 : decode cX8_rests 26 = .ok (.iload_n 2, 1) := by decide +kernel
theorem dX8_rests_27 : decode cX8_rests 27 = .ok (.invokevirtual 275, 3) := by decide +kernel
theorem dX8_rests_30 : decode cX8_rests 30 = .ok (.if_icmp .gt 25, 3) := by decide +kernel
theorem dX8_rests_33 : decode cX8_rests 33 = .ok (.aload_n 0, 1) := by decide +kernel
theorem dX8_rests_34 : decode cX8_rests 34 = .ok (.iconst 1, 1) := by decide +kernel
theorem dX8_rests_35 : decode cX8_rests 35 = .ok (.iload 4, 2) := by decide +kernel
theorem dX8_rests_37 : decode cX8_rests 37 = .ok (.iload_n 1, 1) := by decide +kernel
theorem dX8_rests_38 : decode cX8_rests 38 = .ok (.invokevirtual 275, 3) := by decide +kernel
theorem dX8_rests_41 : decode cX8_rests 41 = .ok (.aload_n 0, 1) := by decide +kernel
theorem dX8_rests_42 : decode cX8_rests 42 = .ok (.iconst 1, 1) := by decide +kernel
theorem dX8_rests_43 : decode cX8_rests 43 = .ok (.iload_n 2, 1) := by decide +kernel
theorem dX8_rests_44 : decode cX8_rests 44 = .ok (.iload_n 1, 1) := by decide +kernel
theorem dX8_rests_45 : decode cX8_rests 45 = .ok (.invokevirtual 275, 3) := by decide +kernel
theorem dX8_rests_48 : decode cX8_rests 48 = .ok (.if_icmp .gt 7, 3) := by decide +kernel
theorem dX8_rests_51 : decode cX8_rests 51 = .ok (.iconst 1, 1) := by decide +kernel
theorem dX8_rests_52 : decode cX8_rests 52 = .ok (.goto 4, 3) := by decide +kernel
theorem dX8_rests_55 : decode cX8_rests 55 = .ok (.iconst 0, 1) := by decide +kernel
theorem dX8_rests_56 : decode cX8_rests 56 = .ok (.istore_n 3, 1) := by decide +kernel
theorem dX8_rests_57 : decode cX8_rests 57 = .ok (.iinc 4 1, 3) := by decide +kernel
theorem dX8_rests_60 : decode cX8_rests 60 = .ok (.goto (-55), 3) := by decide +kernel
theorem dX8_rests_63 : decode cX8_rests 63 = .ok (.iload_n 3, 1) := by decide +kernel
theorem dX8_rests_64 : decode cX8_rests 64 = .ok (.ireturn, 1) := by decide +kernel
theorem dX8_brothers_0 : decode cX8_brothers 0 = .ok (.iload_n 1, 1) := by decide +kernel
theorem dX8_brothers_1 : decode cX8_brothers 1 = .ok (.iconst (-1), 1) := by decide +kernel
theorem dX8_brothers_2 : decode cX8_brothers 2 = .ok (.if_icmp .ge 16, 3) := by decide +kernel
theorem dX8_brothers_5 : decode cX8_brothers 5 = .ok (.aload_n 0, 1) := by decide +kernel
theorem dX8_brothers_6 : decode cX8_brothers 6 = .ok (.getfield 7, 3) := by decide +kernel
theorem dX8_brothers_9 : decode cX8_brothers 9 = .ok (.iconst 0, 1) := by decide +kernel
theorem dX8_brothers_10 : decode cX8_brothers 10 = .ok (.dup2, 1) := by decide +kernel
theorem dX8_brothers_11 : decode cX8_brothers 11 = .ok (.iaload, 1) := by decide +kernel
theorem dX8_brothers_12 : decode cX8_brothers 12 = .ok (.iconst 1, 1) := by decide +kernel
theorem dX8_brothers_13 : decode cX8_brothers 13 = .ok (.iadd, 1) := by decide +kernel
theorem dX8_brothers_14 : decode cX8_brothers 14 = .ok (.iastore, 1) := by decide +kernel
theorem dX8_brothers_15 : decode cX8_brothers 15 = .ok (.bipush (-10), 2) := by decide +kernel
theorem dX8_brothers_17 : decode cX8_brothers 17 = .ok (.ireturn, 1) := by decide +kernel
theorem dX8_brothers_18 : decode cX8_brothers 18 = .ok (.aload_n 0, 1) := by decide +kernel
theorem dX8_brothers_19 : decode cX8_brothers 19 = .ok (.getfield 76, 3) := by decide +kernel
theorem dX8_brothers_22 : decode cX8_brothers 22 = .ok (.iconst 2, 1) := by decide +kernel
theorem dX8_brothers_23 : decode cX8_brothers 23 = .ok (.if_icmp .ge 8, 3) := by decide +kernel
theorem dX8_brothers_26 : decode cX8_brothers 26 = .ok (.aload_n 0, 1) := by decide +kernel
theorem dX8_brothers_27 : decode cX8_brothers 27 = .ok (.invokevirtual 233, 3) := by decide +kernel
theorem dX8_brothers_30 : decode cX8_brothers 30 = .ok (.ireturn, 1) := by decide +kernel
theorem dX8_brothers_31 : decode cX8_brothers 31 = .ok (.iconst 0, 1) := by decide +kernel
theorem dX8_brothers_32 : decode cX8_brothers 32 = .ok (.istore_n 2, 1) := by decide +kernel
theorem dX8_brothers_33 : decode cX8_brothers 33 = .ok (.iload_n 2, 1) := by decide +kernel
theorem dX8_brothers_34 : decode cX8_brothers 34 = .ok (.bipush 8, 2) := by decide +kernel
theorem dX8_brothers_36 : decode cX8_brothers 36 = .ok (.if_icmp .ge 35, 3) := by decide +kernel
theorem dX8_brothers_39 : decode cX8_brothers 39 = .ok (.aload_n 0, 1) := by decide +kernel
theorem dX8_brothers_40 : decode cX8_brothers 40 = .ok (.getfield 46, 3) := by decide +kernel
theorem dX8_brothers_43 : decode cX8_brothers 43 = .ok (.iload_n 2, 1) := by decide +kernel
theorem dX8_brothers_44 : decode cX8_brothers 44 = .ok (.aload_n 0, 1) := by decide +kernel
theorem dX8_brothers_45 : decode cX8_brothers 45 = .ok (.iload_n 2, 1) := by decide +kernel
theorem dX8_brothers_46 : decode cX8_brothers 46 = .ok (.iconst 4, 1) := by decide +kernel
theorem dX8_brothers_47 : decode cX8_brothers 47 = .ok (.idiv, 1) := by decide +kernel
theorem dX8_brothers_48 : decode cX8_brothers 48 = .ok (.iload_n 2, 1) := by decide +kernel
theorem dX8_brothers_49 : decode cX8_brothers 49 = .ok (.iconst 4, 1) := by decide +kernel
theorem dX8_brothers_50 : decode cX8_brothers 50 = .ok (.irem, 1) := by decide +kernel
theorem dX8_brothers_51 : decode cX8_brothers 51 = .ok (.aload_n 0, 1) := by decide +kernel
theorem dX8_brothers_52 : decode cX8_brothers 52 = .ok (.iload_n 2, 1) := by decide +kernel
theorem dX8_brothers_53 : decode cX8_brothers 53 = .ok (.iconst 4, 1) := by decide +kernel
theorem dX8_brothers_54 : decode cX8_brothers 54 = .ok (.irem, 1) := by decide +kernel
theorem dX8_brothers_55 : decode cX8_brothers 55 = .ok (.invokevirtual 138, 3) := by decide +kernel
theorem dX8_brothers_58 : decode cX8_brothers 58 = .ok (.invokevirtual 142, 3) := by decide +kernel
theorem dX8_brothers_61 : decode cX8_brothers 61 = .ok (.invokestatic 145, 3) := by decide +kernel
theorem dX8_brothers_64 : decode cX8_brothers 64 = .ok (.iastore, 1) := by decide +kernel
theorem dX8_brothers_65 : decode cX8_brothers 65 = .ok (.iinc 2 1, 3) := by decide +kernel
theorem dX8_brothers_68 : decode cX8_brothers 68 = .ok (.goto (-35), 3) := by decide +kernel
theorem dX8_brothers_71 : decode cX8_brothers 71 = .ok (.iconst 0, 1) := by decide +kernel
theorem dX8_brothers_72 : decode cX8_brothers 72 = .ok (.istore_n 2, 1) := by decide +kernel
theorem dX8_brothers_73 : decode cX8_brothers 73 = .ok (.bipush (-5), 2) := by decide +kernel
theorem dX8_brothers_75 : decode cX8_brothers 75 = .ok (.istore_n 3, 1) := by decide +kernel
theorem dX8_brothers_76 : decode cX8_brothers 76 = .ok (.iconst 0, 1) := by decide +kernel
theorem dX8_brothers_77 : decode cX8_brothers 77 = .ok (.istore 4, 2) := by decide +kernel
theorem dX8_brothers_79 : decode cX8_brothers 79 = .ok (.iload 4, 2) := by decide +kernel
theorem dX8_brothers_81 : decode cX8_brothers 81 = .ok (.bipush 16, 2) := by decide +kernel
theorem dX8_brothers_83 : decode cX8_brothers 83 = .ok (.if_icmp .ge 49, 3) := by decide +kernel
theorem dX8_brothers_86 : decode cX8_brothers 86 = .ok (.aload_n 0, 1) := by decide +kernel
theorem dX8_brothers_87 : decode cX8_brothers 87 = .ok (.iload 4, 2) := by decide +kernel
theorem dX8_brothers_89 : decode cX8_brothers 89 = .ok (.iconst 4, 1) := by decide +kernel
theorem dX8_brothers_90 : decode cX8_brothers 90 = .ok (.idiv, 1) := by decide +kernel
theorem dX8_brothers_91 : decode cX8_brothers 91 = .ok (.iload 4, 2) := by decide +kernel
theorem dX8_brothers_93 : decode cX8_brothers 93 = .ok (.iconst 4, 1) := by decide +kernel
theorem dX8_brothers_94 : decode cX8_brothers 94 = .ok (.irem, 1) := by decide +kernel
theorem dX8_brothers_95 : decode cX8_brothers 95 = .ok (.invokevirtual 278, 3) := by decide +kernel
theorem dX8_brothers_98 : decode cX8_brothers 98 = .ok (.ifCond .eq 28, 3) := by decide +kernel
theorem dX8_brothers_101 : decode cX8_brothers 101 = .ok (.iload_n 2, 1) := by decide +kernel
theorem dX8_brothers_102 : decode cX8_brothers 102 = .ok (.iload_n 1, 1) := by decide +kernel
theorem dX8_brothers_103 : decode cX8_brothers 103 = .ok (.if_icmp .ne 18, 3) := by decide +kernel
theorem dX8_brothers_106 : decode cX8_brothers 106 = .ok (.bipush 10, 2) := by decide +kernel
theorem dX8_brothers_108 : decode cX8_brothers 108 = .ok (.iload 4, 2) := by decide +kernel
theorem dX8_brothers_110 : decode cX8_brothers 110 = .ok (.iconst 4, 1) := by decide +kernel
theorem dX8_brothers_111 : decode cX8_brothers 111 = .ok (.idiv, 1) := by decide +kernel
theorem dX8_brothers_112 : decode cX8_brothers 112 = .ok (.imul, 1) := by decide +kernel
theorem dX8_brothers_113 : decode cX8_brothers 113 = .ok (.iload 4, 2) := by decide +kernel
theorem dX8_brothers_115 : decode cX8_brothers 115 = .ok (.iconst 4, 1) := by decide +kernel
theorem dX8_brothers_116 : decode cX8_brothers 116 = .ok (.irem, 1) := by decide +kernel
theorem dX8_brothers_117 : decode cX8_brothers 117 = .ok (.iadd, 1) := by decide +kernel
theorem dX8_brothers_118 : decode cX8_brothers 118 = .ok (.goto 4, 3) := by decide +kernel
theorem dX8_brothers_121 : decode cX8_brothers 121 = .ok (.iload_n 3, 1) := by decide +kernel
theorem dX8_brothers_122 : decode cX8_brothers 122 = .ok (.istore_n 3, 1) := by decide +kernel
theorem dX8_brothers_123 : decode cX8_brothers 123 = .ok (.iinc 2 1, 3) := by decide +kernel
theorem dX8_brothers_126 : decode cX8_brothers 126 = .ok (.iinc 4 1, 3) := by decide +kernel
theorem dX8_brothers_129 : decode cX8_brothers 129 = .ok (.goto (-50), 3) := by decide +kernel
theorem dX8_brothers_132 : decode cX8_brothers 132 = .ok (.iload_n 1, 1) := by decide +kernel
theorem dX8_brothers_133 : decode cX8_brothers 133 = .ok (.iconst (-1), 1) := by decide +kernel
theorem dX8_brothers_134 : decode cX8_brothers 134 = .ok (.if_icmp .ne 7, 3) := by decide +kernel
theorem dX8_brothers_137 : decode cX8_brothers 137 = .ok (.iload_n 2, 1) := by decide +kernel
theorem dX8_brothers_138 : decode cX8_brothers 138 = .ok (.goto 4, 3) := by decide +kernel
theorem dX8_brothers_141 : decode cX8_brothers 141 = .ok (.iload_n 3, 1) := by decide +kernel
theorem dX8_brothers_142 : decode cX8_brothers 142 = .ok (.ireturn, 1) := by decide +kernel
theorem dX8_holds_0 : decode cX8_holds 0 = .ok (.aload_n 0, 1) := by decide +kernel
theorem dX8_holds_1 : decode cX8_holds 1 = .ok (.iload_n 1, 1) := by decide +kernel
theorem dX8_holds_2 : decode cX8_holds 2 = .ok (.invokevirtual 236, 3) := by decide +kernel
theorem dX8_holds_5 : decode cX8_holds 5 = .ok (.ifCond .eq 23, 3) := by decide +kernel
theorem dX8_holds_8 : decode cX8_holds 8 = .ok (.aload_n 0, 1) := by decide +kernel
theorem dX8_holds_9 : decode cX8_holds 9 = .ok (.iload_n 2, 1) := by decide +kernel
theorem dX8_holds_10 : decode cX8_holds 10 = .ok (.invokevirtual 244, 3) := by decide +kernel
theorem dX8_holds_13 : decode cX8_holds 13 = .ok (.ifCond .eq 15, 3) := by decide +kernel
theorem dX8_holds_16 : decode cX8_holds 16 = .ok (.iload_n 3, 1) := by decide +kernel
theorem dX8_holds_17 : decode cX8_holds 17 = .ok (.i2l, 1) := by decide +kernel
theorem dX8_holds_18 : decode cX8_holds 18 = .ok (.lconst 0, 1) := by decide +kernel
theorem dX8_holds_19 : decode cX8_holds 19 = .ok (.ldc2_w 281, 3) := by decide +kernel
theorem dX8_holds_22 : decode cX8_holds 22 = .ok (.invokestatic 68, 3) := by decide +kernel
theorem dX8_holds_25 : decode cX8_holds 25 = .ok (.ifCond .ne 8, 3) := by decide +kernel
theorem dX8_holds_28 : decode cX8_holds 28 = .ok (.aload_n 0, 1) := by decide +kernel
theorem dX8_holds_29 : decode cX8_holds 29 = .ok (.invokevirtual 101, 3) := by decide +kernel
theorem dX8_holds_32 : decode cX8_holds 32 = .ok (.ireturn, 1) := by decide +kernel
theorem dX8_holds_33 : decode cX8_holds 33 = .ok (.aload_n 0, 1) := by decide +kernel
theorem dX8_holds_34 : decode cX8_holds 34 = .ok (.getfield 25, 3) := by decide +kernel
theorem dX8_holds_37 : decode cX8_holds 37 = .ok (.iconst 5, 1) := by decide +kernel
theorem dX8_holds_38 : decode cX8_holds 38 = .ok (.iload_n 1, 1) := by decide +kernel
theorem dX8_holds_39 : decode cX8_holds 39 = .ok (.iadd, 1) := by decide +kernel
theorem dX8_holds_40 : decode cX8_holds 40 = .ok (.iaload, 1) := by decide +kernel
theorem dX8_holds_41 : decode cX8_holds 41 = .ok (.istore 4, 2) := by decide +kernel
theorem dX8_holds_43 : decode cX8_holds 43 = .ok (.aload_n 0, 1) := by decide +kernel
theorem dX8_holds_44 : decode cX8_holds 44 = .ok (.iload 4, 2) := by decide +kernel
theorem dX8_holds_46 : decode cX8_holds 46 = .ok (.invokevirtual 138, 3) := by decide +kernel
theorem dX8_holds_49 : decode cX8_holds 49 = .ok (.istore 5, 2) := by decide +kernel
theorem dX8_holds_51 : decode cX8_holds 51 = .ok (.lconst 0, 1) := by decide +kernel
theorem dX8_holds_52 : decode cX8_holds 52 = .ok (.lstore 6, 2) := by decide +kernel
theorem dX8_holds_54 : decode cX8_holds 54 = .ok (.lconst 1, 1) := by decide +kernel
theorem dX8_holds_55 : decode cX8_holds 55 = .ok (.lstore 8, 2) := by decide +kernel
theorem dX8_holds_57 : decode cX8_holds 57 = .ok (.iconst 0, 1) := by decide +kernel
theorem dX8_holds_58 : decode cX8_holds 58 = .ok (.istore 10, 2) := by decide +kernel
theorem dX8_holds_60 : decode cX8_holds 60 = .ok (.iload 10, 2) := by decide +kernel
theorem dX8_holds_62 : decode cX8_holds 62 = .ok (.aload_n 0, 1) := by decide +kernel
theorem dX8_holds_63 : decode cX8_holds 63 = .ok (.getfield 72, 3) := by decide +kernel
theorem dX8_holds_66 : decode cX8_holds 66 = .ok (.if_icmp .ge 33, 3) := by decide +kernel
theorem dX8_holds_69 : decode cX8_holds 69 = .ok (.lload 8, 2) := by decide +kernel
theorem dX8_holds_71 : decode cX8_holds 71 = .ok (.aload_n 0, 1) := by decide +kernel
theorem dX8_holds_72 : decode cX8_holds 72 = .ok (.getfield 16, 3) := by decide +kernel
theorem dX8_holds_75 : decode cX8_holds 75 = .ok (.iload 10, 2) := by decide +kernel
theorem dX8_holds_77 : decode cX8_holds 77 = .ok (.iaload, 1) := by decide +kernel
theorem dX8_holds_78 : decode cX8_holds 78 = .ok (.iload 4, 2) := by decide +kernel
theorem dX8_holds_80 : decode cX8_holds 80 = .ok (.if_icmp .ne 9, 3) := by decide +kernel
theorem dX8_holds_83 : decode cX8_holds 83 = .ok (.ldc2_w 281, 3) := by decide +kernel
theorem dX8_holds_86 : decode cX8_holds 86 = .ok (.goto 4, 3) := by decide +kernel
theorem dX8_holds_89 : decode cX8_holds 89 = .ok (.lconst 1, 1) := by decide +kernel
theorem dX8_holds_90 : decode cX8_holds 90 = .ok (.lmul, 1) := by decide +kernel
theorem dX8_holds_91 : decode cX8_holds 91 = .ok (.lstore 8, 2) := by decide +kernel
theorem dX8_holds_93 : decode cX8_holds 93 = .ok (.iinc 10 1, 3) := by decide +kernel
theorem dX8_holds_96 : decode cX8_holds 96 = .ok (.goto (-36), 3) := by decide +kernel
theorem dX8_holds_99 : decode cX8_holds 99 = .ok (.iconst 0, 1) := by decide +kernel
theorem dX8_holds_100 : decode cX8_holds 100 = .ok (.istore 10, 2) := by decide +kernel
theorem dX8_holds_102 : decode cX8_holds 102 = .ok (.iload 10, 2) := by decide +kernel
theorem dX8_holds_104 : decode cX8_holds 104 = .ok (.iconst 1, 1) := by decide +kernel
theorem dX8_holds_105 : decode cX8_holds 105 = .ok (.aload_n 0, 1) := by decide +kernel
theorem dX8_holds_106 : decode cX8_holds 106 = .ok (.getfield 72, 3) := by decide +kernel
theorem dX8_holds_109 : decode cX8_holds 109 = .ok (.ishl, 1) := by decide +kernel
theorem dX8_holds_110 : decode cX8_holds 110 = .ok (.if_icmp .ge 158, 3) := by decide +kernel
theorem dX8_holds_113 : decode cX8_holds 113 = .ok (.lconst 1, 1) := by decide +kernel
theorem dX8_holds_114 : decode cX8_holds 114 = .ok (.lstore 11, 2) := by decide +kernel
theorem dX8_holds_116 : decode cX8_holds 116 = .ok (.iconst 0, 1) := by decide +kernel
theorem dX8_holds_117 : decode cX8_holds 117 = .ok (.istore 13, 2) := by decide +kernel
theorem dX8_holds_119 : decode cX8_holds 119 = .ok (.iload 13, 2) := by decide +kernel
theorem dX8_holds_121 : decode cX8_holds 121 = .ok (.aload_n 0, 1) := by decide +kernel
theorem dX8_holds_122 : decode cX8_holds 122 = .ok (.getfield 72, 3) := by decide +kernel
theorem dX8_holds_125 : decode cX8_holds 125 = .ok (.if_icmp .ge 84, 3) := by decide +kernel
theorem dX8_holds_128 : decode cX8_holds 128 = .ok (.aload_n 0, 1) := by decide +kernel
theorem dX8_holds_129 : decode cX8_holds 129 = .ok (.getfield 16, 3) := by decide +kernel
theorem dX8_holds_132 : decode cX8_holds 132 = .ok (.iload 13, 2) := by decide +kernel
theorem dX8_holds_134 : decode cX8_holds 134 = .ok (.iaload, 1) := by decide +kernel
theorem dX8_holds_135 : decode cX8_holds 135 = .ok (.iload 4, 2) := by decide +kernel
theorem dX8_holds_137 : decode cX8_holds 137 = .ok (.if_icmp .ne 7, 3) := by decide +kernel
theorem dX8_holds_140 : decode cX8_holds 140 = .ok (.iconst 1, 1) := by decide +kernel
theorem dX8_holds_141 : decode cX8_holds 141 = .ok (.goto 4, 3) := by decide +kernel
theorem dX8_holds_144 : decode cX8_holds 144 = .ok (.iconst 0, 1) := by decide +kernel
theorem dX8_holds_145 : decode cX8_holds 145 = .ok (.istore 14, 2) := by decide +kernel
theorem dX8_holds_147 : decode cX8_holds 147 = .ok (.iload 10, 2) := by decide +kernel
theorem dX8_holds_149 : decode cX8_holds 149 = .ok (.iload 13, 2) := by decide +kernel
theorem dX8_holds_151 : decode cX8_holds 151 = .ok (.ishr, 1) := by decide +kernel
theorem dX8_holds_152 : decode cX8_holds 152 = .ok (.iconst 1, 1) := by decide +kernel
theorem dX8_holds_153 : decode cX8_holds 153 = .ok (.iand, 1) := by decide +kernel
theorem dX8_holds_154 : decode cX8_holds 154 = .ok (.iconst 1, 1) := by decide +kernel
theorem dX8_holds_155 : decode cX8_holds 155 = .ok (.if_icmp .ne 7, 3) := by decide +kernel
theorem dX8_holds_158 : decode cX8_holds 158 = .ok (.iconst 1, 1) := by decide +kernel
theorem dX8_holds_159 : decode cX8_holds 159 = .ok (.goto 4, 3) := by decide +kernel
theorem dX8_holds_162 : decode cX8_holds 162 = .ok (.iconst 0, 1) := by decide +kernel
theorem dX8_holds_163 : decode cX8_holds 163 = .ok (.istore 15, 2) := by decide +kernel
theorem dX8_holds_165 : decode cX8_holds 165 = .ok (.lload 11, 2) := by decide +kernel
theorem dX8_holds_167 : decode cX8_holds 167 = .ok (.iload 14, 2) := by decide +kernel
theorem dX8_holds_169 : decode cX8_holds 169 = .ok (.ifCond .eq 21, 3) := by decide +kernel
theorem dX8_holds_172 : decode cX8_holds 172 = .ok (.iload 15, 2) := by decide +kernel
theorem dX8_holds_174 : decode cX8_holds 174 = .ok (.ifCond .eq 11, 3) := by decide +kernel
theorem dX8_holds_177 : decode cX8_holds 177 = .ok (.bipush 10, 2) := by decide +kernel
theorem dX8_holds_179 : decode cX8_holds 179 = .ok (.iload_n 3, 1) := by decide +kernel
theorem dX8_holds_180 : decode cX8_holds 180 = .ok (.isub, 1) := by decide +kernel
theorem dX8_holds_181 : decode cX8_holds 181 = .ok (.i2l, 1) := by decide +kernel
theorem dX8_holds_182 : decode cX8_holds 182 = .ok (.goto 18, 3) := by decide +kernel
theorem dX8_holds_185 : decode cX8_holds 185 = .ok (.iload_n 3, 1) := by decide +kernel
theorem dX8_holds_186 : decode cX8_holds 186 = .ok (.i2l, 1) := by decide +kernel
theorem dX8_holds_187 : decode cX8_holds 187 = .ok (.goto 13, 3) := by decide +kernel
theorem dX8_holds_190 : decode cX8_holds 190 = .ok (.iload 15, 2) := by decide +kernel
theorem dX8_holds_192 : decode cX8_holds 192 = .ok (.ifCond .eq 7, 3) := by decide +kernel
theorem dX8_holds_195 : decode cX8_holds 195 = .ok (.lconst 1, 1) := by decide +kernel
theorem dX8_holds_196 : decode cX8_holds 196 = .ok (.goto 4, 3) := by decide +kernel
theorem dX8_holds_199 : decode cX8_holds 199 = .ok (.lconst 0, 1) := by decide +kernel
theorem dX8_holds_200 : decode cX8_holds 200 = .ok (.lmul, 1) := by decide +kernel
theorem dX8_holds_201 : decode cX8_holds 201 = .ok (.lstore 11, 2) := by decide +kernel
theorem dX8_holds_203 : decode cX8_holds 203 = .ok (.iinc 13 1, 3) := by decide +kernel
theorem dX8_holds_206 : decode cX8_holds 206 = .ok (.goto (-87), 3) := by decide +kernel
theorem dX8_holds_209 : decode cX8_holds 209 = .ok (.lload 6, 2) := by decide +kernel
theorem dX8_holds_211 : decode cX8_holds 211 = .ok (.lload 11, 2) := by decide +kernel
theorem dX8_holds_213 : decode cX8_holds 213 = .ok (.lconst 0, 1) := by decide +kernel
theorem dX8_holds_214 : decode cX8_holds 214 = .ok (.lcmp, 1) := by decide +kernel
theorem dX8_holds_215 : decode cX8_holds 215 = .ok (.ifCond .le 43, 3) := by decide +kernel
theorem dX8_holds_218 : decode cX8_holds 218 = .ok (.aload_n 0, 1) := by decide +kernel
theorem dX8_holds_219 : decode cX8_holds 219 = .ok (.getfield 16, 3) := by decide +kernel
theorem dX8_holds_222 : decode cX8_holds 222 = .ok (.iload_n 2, 1) := by decide +kernel
theorem dX8_holds_223 : decode cX8_holds 223 = .ok (.iaload, 1) := by decide +kernel
theorem dX8_holds_224 : decode cX8_holds 224 = .ok (.iload 4, 2) := by decide +kernel
theorem dX8_holds_226 : decode cX8_holds 226 = .ok (.if_icmp .ne 32, 3) := by decide +kernel
theorem dX8_holds_229 : decode cX8_holds 229 = .ok (.aload_n 0, 1) := by decide +kernel
theorem dX8_holds_230 : decode cX8_holds 230 = .ok (.aload_n 0, 1) := by decide +kernel
theorem dX8_holds_231 : decode cX8_holds 231 = .ok (.getfield 22, 3) := by decide +kernel
theorem dX8_holds_234 : decode cX8_holds 234 = .ok (.iload_n 1, 1) := by decide +kernel
theorem dX8_holds_235 : decode cX8_holds 235 = .ok (.iaload, 1) := by decide +kernel
theorem dX8_holds_236 : decode cX8_holds 236 = .ok (.iload 10, 2) := by decide +kernel
theorem dX8_holds_238 : decode cX8_holds 238 = .ok (.iload 4, 2) := by decide +kernel
theorem dX8_holds_240 : decode cX8_holds 240 = .ok (.iload 5, 2) := by decide +kernel
theorem dX8_holds_242 : decode cX8_holds 242 = .ok (.invokevirtual 134, 3) := by decide +kernel
theorem dX8_holds_245 : decode cX8_holds 245 = .ok (.iload_n 2, 1) := by decide +kernel
theorem dX8_holds_246 : decode cX8_holds 246 = .ok (.ishr, 1) := by decide +kernel
theorem dX8_holds_247 : decode cX8_holds 247 = .ok (.iconst 1, 1) := by decide +kernel
theorem dX8_holds_248 : decode cX8_holds 248 = .ok (.iand, 1) := by decide +kernel
theorem dX8_holds_249 : decode cX8_holds 249 = .ok (.iconst 1, 1) := by decide +kernel
theorem dX8_holds_250 : decode cX8_holds 250 = .ok (.if_icmp .ne 8, 3) := by decide +kernel
theorem dX8_holds_253 : decode cX8_holds 253 = .ok (.lload 11, 2) := by decide +kernel
theorem dX8_holds_255 : decode cX8_holds 255 = .ok (.goto 4, 3) := by decide +kernel
theorem dX8_holds_258 : decode cX8_holds 258 = .ok (.lconst 0, 1) := by decide +kernel
theorem dX8_holds_259 : decode cX8_holds 259 = .ok (.ladd, 1) := by decide +kernel
theorem dX8_holds_260 : decode cX8_holds 260 = .ok (.lstore 6, 2) := by decide +kernel
theorem dX8_holds_262 : decode cX8_holds 262 = .ok (.iinc 10 1, 3) := by decide +kernel
theorem dX8_holds_265 : decode cX8_holds 265 = .ok (.goto (-163), 3) := by decide +kernel
theorem dX8_holds_268 : decode cX8_holds 268 = .ok (.lload 6, 2) := by decide +kernel
theorem dX8_holds_270 : decode cX8_holds 270 = .ok (.lstore 10, 2) := by decide +kernel
theorem dX8_holds_272 : decode cX8_holds 272 = .ok (.lload 8, 2) := by decide +kernel
theorem dX8_holds_274 : decode cX8_holds 274 = .ok (.lstore 12, 2) := by decide +kernel
theorem dX8_holds_276 : decode cX8_holds 276 = .ok (.lload 12, 2) := by decide +kernel
theorem dX8_holds_278 : decode cX8_holds 278 = .ok (.lconst 0, 1) := by decide +kernel
theorem dX8_holds_279 : decode cX8_holds 279 = .ok (.lcmp, 1) := by decide +kernel
theorem dX8_holds_280 : decode cX8_holds 280 = .ok (.ifCond .eq 21, 3) := by decide +kernel
theorem dX8_holds_283 : decode cX8_holds 283 = .ok (.lload 10, 2) := by decide +kernel
theorem dX8_holds_285 : decode cX8_holds 285 = .ok (.lload 12, 2) := by decide +kernel
theorem dX8_holds_287 : decode cX8_holds 287 = .ok (.lrem, 1) := by decide +kernel
theorem dX8_holds_288 : decode cX8_holds 288 = .ok (.lstore 14, 2) := by decide +kernel
theorem dX8_holds_290 : decode cX8_holds 290 = .ok (.lload 12, 2) := by decide +kernel
theorem dX8_holds_292 : decode cX8_holds 292 = .ok (.lstore 10, 2) := by decide +kernel
theorem dX8_holds_294 : decode cX8_holds 294 = .ok (.lload 14, 2) := by decide +kernel
theorem dX8_holds_296 : decode cX8_holds 296 = .ok (.lstore 12, 2) := by decide +kernel
theorem dX8_holds_298 : decode cX8_holds 298 = .ok (.goto (-22), 3) := by decide +kernel
theorem dX8_holds_301 : decode cX8_holds 301 = .ok (.aload_n 0, 1) := by decide +kernel
theorem dX8_holds_302 : decode cX8_holds 302 = .ok (.lload 6, 2) := by decide +kernel
theorem dX8_holds_304 : decode cX8_holds 304 = .ok (.lload 10, 2) := by decide +kernel
theorem dX8_holds_306 : decode cX8_holds 306 = .ok (.ldiv, 1) := by decide +kernel
theorem dX8_holds_307 : decode cX8_holds 307 = .ok (.putfield 283, 3) := by decide +kernel
theorem dX8_holds_310 : decode cX8_holds 310 = .ok (.aload_n 0, 1) := by decide +kernel
theorem dX8_holds_311 : decode cX8_holds 311 = .ok (.lload 8, 2) := by decide +kernel
theorem dX8_holds_313 : decode cX8_holds 313 = .ok (.lload 10, 2) := by decide +kernel
theorem dX8_holds_315 : decode cX8_holds 315 = .ok (.ldiv, 1) := by decide +kernel
theorem dX8_holds_316 : decode cX8_holds 316 = .ok (.putfield 62, 3) := by decide +kernel
theorem dX8_holds_319 : decode cX8_holds 319 = .ok (.iconst 1, 1) := by decide +kernel
theorem dX8_holds_320 : decode cX8_holds 320 = .ok (.ireturn, 1) := by decide +kernel
theorem dX8_jobs_0 : decode cX8_jobs 0 = .ok (.iload_n 1, 1) := by decide +kernel
theorem dX8_jobs_1 : decode cX8_jobs 1 = .ok (.i2l, 1) := by decide +kernel
theorem dX8_jobs_2 : decode cX8_jobs 2 = .ok (.lconst 0, 1) := by decide +kernel
theorem dX8_jobs_3 : decode cX8_jobs 3 = .ok (.ldc2_w 286, 3) := by decide +kernel
theorem dX8_jobs_6 : decode cX8_jobs 6 = .ok (.invokestatic 68, 3) := by decide +kernel
theorem dX8_jobs_9 : decode cX8_jobs 9 = .ok (.ifCond .eq 15, 3) := by decide +kernel
theorem dX8_jobs_12 : decode cX8_jobs 12 = .ok (.iload_n 2, 1) := by decide +kernel
theorem dX8_jobs_13 : decode cX8_jobs 13 = .ok (.i2l, 1) := by decide +kernel
theorem dX8_jobs_14 : decode cX8_jobs 14 = .ok (.lconst 0, 1) := by decide +kernel
theorem dX8_jobs_15 : decode cX8_jobs 15 = .ok (.ldc2_w 288, 3) := by decide +kernel
theorem dX8_jobs_18 : decode cX8_jobs 18 = .ok (.invokestatic 68, 3) := by decide +kernel
theorem dX8_jobs_21 : decode cX8_jobs 21 = .ok (.ifCond .ne 8, 3) := by decide +kernel
theorem dX8_jobs_24 : decode cX8_jobs 24 = .ok (.aload_n 0, 1) := by decide +kernel
theorem dX8_jobs_25 : decode cX8_jobs 25 = .ok (.invokevirtual 101, 3) := by decide +kernel
theorem dX8_jobs_28 : decode cX8_jobs 28 = .ok (.ireturn, 1) := by decide +kernel
theorem dX8_jobs_29 : decode cX8_jobs 29 = .ok (.iconst 0, 1) := by decide +kernel
theorem dX8_jobs_30 : decode cX8_jobs 30 = .ok (.istore_n 3, 1) := by decide +kernel
theorem dX8_jobs_31 : decode cX8_jobs 31 = .ok (.iload_n 3, 1) := by decide +kernel
theorem dX8_jobs_32 : decode cX8_jobs 32 = .ok (.bipush 11, 2) := by decide +kernel
theorem dX8_jobs_34 : decode cX8_jobs 34 = .ok (.if_icmp .ge 21, 3) := by decide +kernel
theorem dX8_jobs_37 : decode cX8_jobs 37 = .ok (.aload_n 0, 1) := by decide +kernel
theorem dX8_jobs_38 : decode cX8_jobs 38 = .ok (.getfield 49, 3) := by decide +kernel
theorem dX8_jobs_41 : decode cX8_jobs 41 = .ok (.iload_n 3, 1) := by decide +kernel
theorem dX8_jobs_42 : decode cX8_jobs 42 = .ok (.aload_n 0, 1) := by decide +kernel
theorem dX8_jobs_43 : decode cX8_jobs 43 = .ok (.getfield 25, 3) := by decide +kernel
theorem dX8_jobs_46 : decode cX8_jobs 46 = .ok (.iload_n 3, 1) := by decide +kernel
theorem dX8_jobs_47 : decode cX8_jobs 47 = .ok (.iaload, 1) := by decide +kernel
theorem dX8_jobs_48 : decode cX8_jobs 48 = .ok (.iastore, 1) := by decide +kernel
theorem dX8_jobs_49 : decode cX8_jobs 49 = .ok (.iinc 3 1, 3) := by decide +kernel
theorem dX8_jobs_52 : decode cX8_jobs 52 = .ok (.goto (-21), 3) := by decide +kernel
theorem dX8_jobs_55 : decode cX8_jobs 55 = .ok (.iload_n 1, 1) := by decide +kernel
theorem dX8_jobs_56 : decode cX8_jobs 56 = .ok (.i2l, 1) := by decide +kernel
theorem dX8_jobs_57 : decode cX8_jobs 57 = .ok (.lstore_n 3, 1) := by decide +kernel
theorem dX8_jobs_58 : decode cX8_jobs 58 = .ok (.iconst 0, 1) := by decide +kernel
theorem dX8_jobs_59 : decode cX8_jobs 59 = .ok (.istore 5, 2) := by decide +kernel
theorem dX8_jobs_61 : decode cX8_jobs 61 = .ok (.iload 5, 2) := by decide +kernel
theorem dX8_jobs_63 : decode cX8_jobs 63 = .ok (.iload_n 2, 1) := by decide +kernel
theorem dX8_jobs_64 : decode cX8_jobs 64 = .ok (.if_icmp .ge 108, 3) := by decide +kernel
theorem dX8_jobs_67 : decode cX8_jobs 67 = .ok (.lload_n 3, 1) := by decide +kernel
theorem dX8_jobs_68 : decode cX8_jobs 68 = .ok (.ldc2_w 290, 3) := by decide +kernel
theorem dX8_jobs_71 : decode cX8_jobs 71 = .ok (.lmul, 1) := by decide +kernel
theorem dX8_jobs_72 : decode cX8_jobs 72 = .ok (.ldc2_w 292, 3) := by decide +kernel
theorem dX8_jobs_75 : decode cX8_jobs 75 = .ok (.ladd, 1) := by decide +kernel
theorem dX8_jobs_76 : decode cX8_jobs 76 = .ok (.ldc2_w 294, 3) := by decide +kernel
theorem dX8_jobs_79 : decode cX8_jobs 79 = .ok (.lrem, 1) := by decide +kernel
theorem dX8_jobs_80 : decode cX8_jobs 80 = .ok (.lstore_n 3, 1) := by decide +kernel
theorem dX8_jobs_81 : decode cX8_jobs 81 = .ok (.lload_n 3, 1) := by decide +kernel
theorem dX8_jobs_82 : decode cX8_jobs 82 = .ok (.ldc2_w 296, 3) := by decide +kernel
theorem dX8_jobs_85 : decode cX8_jobs 85 = .ok (.ldiv, 1) := by decide +kernel
theorem dX8_jobs_86 : decode cX8_jobs 86 = .ok (.ldc2_w 79, 3) := by decide +kernel
theorem dX8_jobs_89 : decode cX8_jobs 89 = .ok (.lrem, 1) := by decide +kernel
theorem dX8_jobs_90 : decode cX8_jobs 90 = .ok (.l2i, 1) := by decide +kernel
theorem dX8_jobs_91 : decode cX8_jobs 91 = .ok (.istore 6, 2) := by decide +kernel
theorem dX8_jobs_93 : decode cX8_jobs 93 = .ok (.lload_n 3, 1) := by decide +kernel
theorem dX8_jobs_94 : decode cX8_jobs 94 = .ok (.ldc2_w 298, 3) := by decide +kernel
theorem dX8_jobs_97 : decode cX8_jobs 97 = .ok (.ldiv, 1) := by decide +kernel
theorem dX8_jobs_98 : decode cX8_jobs 98 = .ok (.ldc2_w 300, 3) := by decide +kernel
theorem dX8_jobs_101 : decode cX8_jobs 101 = .ok (.lrem, 1) := by decide +kernel
theorem dX8_jobs_102 : decode cX8_jobs 102 = .ok (.l2i, 1) := by decide +kernel
theorem dX8_jobs_103 : decode cX8_jobs 103 = .ok (.istore 7, 2) := by decide +kernel
theorem dX8_jobs_105 : decode cX8_jobs 105 = .ok (.aload_n 0, 1) := by decide +kernel
theorem dX8_jobs_106 : decode cX8_jobs 106 = .ok (.iload 6, 2) := by decide +kernel
theorem dX8_jobs_108 : decode cX8_jobs 108 = .ok (.invokevirtual 236, 3) := by decide +kernel
theorem dX8_jobs_111 : decode cX8_jobs 111 = .ok (.ifCond .eq 51, 3) := by decide +kernel
theorem dX8_jobs_114 : decode cX8_jobs 114 = .ok (.aload_n 0, 1) := by decide +kernel
theorem dX8_jobs_115 : decode cX8_jobs 115 = .ok (.getfield 25, 3) := by decide +kernel
theorem dX8_jobs_118 : decode cX8_jobs 118 = .ok (.iconst 5, 1) := by decide +kernel
theorem dX8_jobs_119 : decode cX8_jobs 119 = .ok (.iload 6, 2) := by decide +kernel
theorem dX8_jobs_121 : decode cX8_jobs 121 = .ok (.iadd, 1) := by decide +kernel
theorem dX8_jobs_122 : decode cX8_jobs 122 = .ok (.iload 7, 2) := by decide +kernel
theorem dX8_jobs_124 : decode cX8_jobs 124 = .ok (.iastore, 1) := by decide +kernel
theorem dX8_jobs_125 : decode cX8_jobs 125 = .ok (.aload_n 0, 1) := by decide +kernel
theorem dX8_jobs_126 : decode cX8_jobs 126 = .ok (.getfield 25, 3) := by decide +kernel
theorem dX8_jobs_129 : decode cX8_jobs 129 = .ok (.iconst 1, 1) := by decide +kernel
theorem dX8_jobs_130 : decode cX8_jobs 130 = .ok (.iload 7, 2) := by decide +kernel
theorem dX8_jobs_132 : decode cX8_jobs 132 = .ok (.iadd, 1) := by decide +kernel
theorem dX8_jobs_133 : decode cX8_jobs 133 = .ok (.aload_n 0, 1) := by decide +kernel
theorem dX8_jobs_134 : decode cX8_jobs 134 = .ok (.iload 7, 2) := by decide +kernel
theorem dX8_jobs_136 : decode cX8_jobs 136 = .ok (.invokevirtual 138, 3) := by decide +kernel
theorem dX8_jobs_139 : decode cX8_jobs 139 = .ok (.iconst (-1), 1) := by decide +kernel
theorem dX8_jobs_140 : decode cX8_jobs 140 = .ok (.if_icmp .ne 12, 3) := by decide +kernel
theorem dX8_jobs_143 : decode cX8_jobs 143 = .ok (.aload_n 0, 1) := by decide +kernel
theorem dX8_jobs_144 : decode cX8_jobs 144 = .ok (.getfield 25, 3) := by decide +kernel
theorem dX8_jobs_147 : decode cX8_jobs 147 = .ok (.iconst 0, 1) := by decide +kernel
theorem dX8_jobs_148 : decode cX8_jobs 148 = .ok (.iaload, 1) := by decide +kernel
theorem dX8_jobs_149 : decode cX8_jobs 149 = .ok (.goto 12, 3) := by decide +kernel
theorem dX8_jobs_152 : decode cX8_jobs 152 = .ok (.aload_n 0, 1) := by decide +kernel
theorem dX8_jobs_153 : decode cX8_jobs 153 = .ok (.getfield 25, 3) := by decide +kernel
theorem dX8_jobs_156 : decode cX8_jobs 156 = .ok (.iconst 1, 1) := by decide +kernel
theorem dX8_jobs_157 : decode cX8_jobs 157 = .ok (.iload 7, 2) := by decide +kernel
theorem dX8_jobs_159 : decode cX8_jobs 159 = .ok (.iadd, 1) := by decide +kernel
theorem dX8_jobs_160 : decode cX8_jobs 160 = .ok (.iaload, 1) := by decide +kernel
theorem dX8_jobs_161 : decode cX8_jobs 161 = .ok (.iastore, 1) := by decide +kernel
theorem dX8_jobs_162 : decode cX8_jobs 162 = .ok (.aload_n 0, 1) := by decide +kernel
theorem dX8_jobs_163 : decode cX8_jobs 163 = .ok (.invokevirtual 151, 3) := by decide +kernel
theorem dX8_jobs_166 : decode cX8_jobs 166 = .ok (.iinc 5 1, 3) := by decide +kernel
theorem dX8_jobs_169 : decode cX8_jobs 169 = .ok (.goto (-108), 3) := by decide +kernel
theorem dX8_jobs_172 : decode cX8_jobs 172 = .ok (.aload_n 0, 1) := by decide +kernel
theorem dX8_jobs_173 : decode cX8_jobs 173 = .ok (.invokevirtual 241, 3) := by decide +kernel
theorem dX8_jobs_176 : decode cX8_jobs 176 = .ok (.istore 5, 2) := by decide +kernel
theorem dX8_jobs_178 : decode cX8_jobs 178 = .ok (.iconst 0, 1) := by decide +kernel
theorem dX8_jobs_179 : decode cX8_jobs 179 = .ok (.istore 6, 2) := by decide +kernel
theorem dX8_jobs_181 : decode cX8_jobs 181 = .ok (.iload 6, 2) := by decide +kernel
theorem dX8_jobs_183 : decode cX8_jobs 183 = .ok (.bipush 11, 2) := by decide +kernel
theorem dX8_jobs_185 : decode cX8_jobs 185 = .ok (.if_icmp .ge 23, 3) := by decide +kernel
theorem dX8_jobs_188 : decode cX8_jobs 188 = .ok (.aload_n 0, 1) := by decide +kernel
theorem dX8_jobs_189 : decode cX8_jobs 189 = .ok (.getfield 25, 3) := by decide +kernel
theorem dX8_jobs_192 : decode cX8_jobs 192 = .ok (.iload 6, 2) := by decide +kernel
theorem dX8_jobs_194 : decode cX8_jobs 194 = .ok (.aload_n 0, 1) := by decide +kernel
theorem dX8_jobs_195 : decode cX8_jobs 195 = .ok (.getfield 49, 3) := by decide +kernel
theorem dX8_jobs_198 : decode cX8_jobs 198 = .ok (.iload 6, 2) := by decide +kernel
theorem dX8_jobs_200 : decode cX8_jobs 200 = .ok (.iaload, 1) := by decide +kernel
theorem dX8_jobs_201 : decode cX8_jobs 201 = .ok (.iastore, 1) := by decide +kernel
theorem dX8_jobs_202 : decode cX8_jobs 202 = .ok (.iinc 6 1, 3) := by decide +kernel
theorem dX8_jobs_205 : decode cX8_jobs 205 = .ok (.goto (-24), 3) := by decide +kernel
theorem dX8_jobs_208 : decode cX8_jobs 208 = .ok (.iload 5, 2) := by decide +kernel
theorem dX8_jobs_210 : decode cX8_jobs 210 = .ok (.ireturn, 1) := by decide +kernel
theorem dX8_part_0 : decode cX8_part 0 = .ok (.iload_n 1, 1) := by decide +kernel
theorem dX8_part_1 : decode cX8_part 1 = .ok (.ifCond .ne 10, 3) := by decide +kernel
theorem dX8_part_4 : decode cX8_part 4 = .ok (.aload_n 0, 1) := by decide +kernel
theorem dX8_part_5 : decode cX8_part 5 = .ok (.getfield 283, 3) := by decide +kernel
theorem dX8_part_8 : decode cX8_part 8 = .ok (.goto 20, 3) := by decide +kernel
theorem dX8_part_11 : decode cX8_part 11 = .ok (.iload_n 1, 1) := by decide +kernel
theorem dX8_part_12 : decode cX8_part 12 = .ok (.iconst 1, 1) := by decide +kernel
theorem dX8_part_13 : decode cX8_part 13 = .ok (.if_icmp .ne 10, 3) := by decide +kernel
theorem dX8_part_16 : decode cX8_part 16 = .ok (.aload_n 0, 1) := by decide +kernel
theorem dX8_part_17 : decode cX8_part 17 = .ok (.getfield 62, 3) := by decide +kernel
theorem dX8_part_20 : decode cX8_part 20 = .ok (.goto 8, 3) := by decide +kernel
theorem dX8_part_23 : decode cX8_part 23 = .ok (.aload_n 0, 1) := by decide +kernel
theorem dX8_part_24 : decode cX8_part 24 = .ok (.invokevirtual 101, 3) := by decide +kernel
theorem dX8_part_27 : decode cX8_part 27 = .ok (.i2l, 1) := by decide +kernel
theorem dX8_part_28 : decode cX8_part 28 = .ok (.lreturn, 1) := by decide +kernel
theorem dX8_moves_0 : decode cX8_moves 0 = .ok (.aload_n 0, 1) := by decide +kernel
theorem dX8_moves_1 : decode cX8_moves 1 = .ok (.getfield 52, 3) := by decide +kernel
theorem dX8_moves_4 : decode cX8_moves 4 = .ok (.iload_n 2, 1) := by decide +kernel
theorem dX8_moves_5 : decode cX8_moves 5 = .ok (.iload_n 1, 1) := by decide +kernel
theorem dX8_moves_6 : decode cX8_moves 6 = .ok (.ifCond .eq 7, 3) := by decide +kernel
theorem dX8_moves_9 : decode cX8_moves 9 = .ok (.iload_n 3, 1) := by decide +kernel
theorem dX8_moves_10 : decode cX8_moves 10 = .ok (.goto 9, 3) := by decide +kernel
theorem dX8_moves_13 : decode cX8_moves 13 = .ok (.aload_n 0, 1) := by decide +kernel
theorem dX8_moves_14 : decode cX8_moves 14 = .ok (.getfield 52, 3) := by decide +kernel
theorem dX8_moves_17 : decode cX8_moves 17 = .ok (.iload_n 2, 1) := by decide +kernel
theorem dX8_moves_18 : decode cX8_moves 18 = .ok (.iaload, 1) := by decide +kernel
theorem dX8_moves_19 : decode cX8_moves 19 = .ok (.iastore, 1) := by decide +kernel
theorem dX8_moves_20 : decode cX8_moves 20 = .ok (.aload_n 0, 1) := by decide +kernel
theorem dX8_moves_21 : decode cX8_moves 21 = .ok (.getfield 52, 3) := by decide +kernel
theorem dX8_moves_24 : decode cX8_moves 24 = .ok (.iload_n 2, 1) := by decide +kernel
theorem dX8_moves_25 : decode cX8_moves 25 = .ok (.iaload, 1) := by decide +kernel
theorem dX8_moves_26 : decode cX8_moves 26 = .ok (.ireturn, 1) := by decide +kernel
theorem dX8_moveRow_0 : decode cX8_moveRow 0 = .ok (.iconst 0, 1) := by decide +kernel
theorem dX8_moveRow_1 : decode cX8_moveRow 1 = .ok (.istore 5, 2) := by decide +kernel
theorem dX8_moveRow_3 : decode cX8_moveRow 3 = .ok (.iload 5, 2) := by decide +kernel
theorem dX8_moveRow_5 : decode cX8_moveRow 5 = .ok (.iload 4, 2) := by decide +kernel
theorem dX8_moveRow_7 : decode cX8_moveRow 7 = .ok (.if_icmp .ge 26, 3) := by decide +kernel
theorem dX8_moveRow_10 : decode cX8_moveRow 10 = .ok (.aload_n 3, 1) := by decide +kernel
theorem dX8_moveRow_11 : decode cX8_moveRow 11 = .ok (.iload 5, 2) := by decide +kernel
theorem dX8_moveRow_13 : decode cX8_moveRow 13 = .ok (.aload_n 0, 1) := by decide +kernel
theorem dX8_moveRow_14 : decode cX8_moveRow 14 = .ok (.iload_n 1, 1) := by decide +kernel
theorem dX8_moveRow_15 : decode cX8_moveRow 15 = .ok (.iload_n 2, 1) := by decide +kernel
theorem dX8_moveRow_16 : decode cX8_moveRow 16 = .ok (.iload 5, 2) := by decide +kernel
theorem dX8_moveRow_18 : decode cX8_moveRow 18 = .ok (.iadd, 1) := by decide +kernel
theorem dX8_moveRow_19 : decode cX8_moveRow 19 = .ok (.aload_n 3, 1) := by decide +kernel
theorem dX8_moveRow_20 : decode cX8_moveRow 20 = .ok (.iload 5, 2) := by decide +kernel
theorem dX8_moveRow_22 : decode cX8_moveRow 22 = .ok (.iaload, 1) := by decide +kernel
theorem dX8_moveRow_23 : decode cX8_moveRow 23 = .ok (.invokevirtual 302, 3) := by decide +kernel
theorem dX8_moveRow_26 : decode cX8_moveRow 26 = .ok (.iastore, 1) := by decide +kernel
theorem dX8_moveRow_27 : decode cX8_moveRow 27 = .ok (.iinc 5 1, 3) := by decide +kernel
theorem dX8_moveRow_30 : decode cX8_moveRow 30 = .ok (.goto (-27), 3) := by decide +kernel
theorem dX8_moveRow_33 : decode cX8_moveRow 33 = .ok (.return_, 1) := by decide +kernel
theorem dX8_moveAll_0 : decode cX8_moveAll 0 = .ok (.aload_n 0, 1) := by decide +kernel
theorem dX8_moveAll_1 : decode cX8_moveAll 1 = .ok (.aload_n 0, 1) := by decide +kernel
theorem dX8_moveAll_2 : decode cX8_moveAll 2 = .ok (.iload_n 1, 1) := by decide +kernel
theorem dX8_moveAll_3 : decode cX8_moveAll 3 = .ok (.iload_n 2, 1) := by decide +kernel
theorem dX8_moveAll_4 : decode cX8_moveAll 4 = .ok (.aload_n 0, 1) := by decide +kernel
theorem dX8_moveAll_5 : decode cX8_moveAll 5 = .ok (.getfield 72, 3) := by decide +kernel
theorem dX8_moveAll_8 : decode cX8_moveAll 8 = .ok (.invokevirtual 302, 3) := by decide +kernel
theorem dX8_moveAll_11 : decode cX8_moveAll 11 = .ok (.putfield 72, 3) := by decide +kernel
theorem dX8_moveAll_14 : decode cX8_moveAll 14 = .ok (.aload_n 0, 1) := by decide +kernel
theorem dX8_moveAll_15 : decode cX8_moveAll 15 = .ok (.aload_n 0, 1) := by decide +kernel
theorem dX8_moveAll_16 : decode cX8_moveAll 16 = .ok (.iload_n 1, 1) := by decide +kernel
theorem dX8_moveAll_17 : decode cX8_moveAll 17 = .ok (.iload_n 2, 1) := by decide +kernel
theorem dX8_moveAll_18 : decode cX8_moveAll 18 = .ok (.iconst 1, 1) := by decide +kernel
theorem dX8_moveAll_19 : decode cX8_moveAll 19 = .ok (.iadd, 1) := by decide +kernel
theorem dX8_moveAll_20 : decode cX8_moveAll 20 = .ok (.aload_n 0, 1) := by decide +kernel
theorem dX8_moveAll_21 : decode cX8_moveAll 21 = .ok (.getfield 76, 3) := by decide +kernel
theorem dX8_moveAll_24 : decode cX8_moveAll 24 = .ok (.invokevirtual 302, 3) := by decide +kernel
theorem dX8_moveAll_27 : decode cX8_moveAll 27 = .ok (.putfield 76, 3) := by decide +kernel
theorem dX8_moveAll_30 : decode cX8_moveAll 30 = .ok (.aload_n 0, 1) := by decide +kernel
theorem dX8_moveAll_31 : decode cX8_moveAll 31 = .ok (.aload_n 0, 1) := by decide +kernel
theorem dX8_moveAll_32 : decode cX8_moveAll 32 = .ok (.iload_n 1, 1) := by decide +kernel
theorem dX8_moveAll_33 : decode cX8_moveAll 33 = .ok (.iload_n 2, 1) := by decide +kernel
theorem dX8_moveAll_34 : decode cX8_moveAll 34 = .ok (.iconst 2, 1) := by decide +kernel
theorem dX8_moveAll_35 : decode cX8_moveAll 35 = .ok (.iadd, 1) := by decide +kernel
theorem dX8_moveAll_36 : decode cX8_moveAll 36 = .ok (.aload_n 0, 1) := by decide +kernel
theorem dX8_moveAll_37 : decode cX8_moveAll 37 = .ok (.getfield 81, 3) := by decide +kernel
theorem dX8_moveAll_40 : decode cX8_moveAll 40 = .ok (.invokevirtual 302, 3) := by decide +kernel
theorem dX8_moveAll_43 : decode cX8_moveAll 43 = .ok (.putfield 81, 3) := by decide +kernel
theorem dX8_moveAll_46 : decode cX8_moveAll 46 = .ok (.aload_n 0, 1) := by decide +kernel
theorem dX8_moveAll_47 : decode cX8_moveAll 47 = .ok (.aload_n 0, 1) := by decide +kernel
theorem dX8_moveAll_48 : decode cX8_moveAll 48 = .ok (.iload_n 1, 1) := by decide +kernel
theorem dX8_moveAll_49 : decode cX8_moveAll 49 = .ok (.iload_n 2, 1) := by decide +kernel
theorem dX8_moveAll_50 : decode cX8_moveAll 50 = .ok (.iconst 3, 1) := by decide +kernel
theorem dX8_moveAll_51 : decode cX8_moveAll 51 = .ok (.iadd, 1) := by decide +kernel
theorem dX8_moveAll_52 : decode cX8_moveAll 52 = .ok (.aload_n 0, 1) := by decide +kernel
theorem dX8_moveAll_53 : decode cX8_moveAll 53 = .ok (.getfield 84, 3) := by decide +kernel
theorem dX8_moveAll_56 : decode cX8_moveAll 56 = .ok (.invokevirtual 302, 3) := by decide +kernel
theorem dX8_moveAll_59 : decode cX8_moveAll 59 = .ok (.putfield 84, 3) := by decide +kernel
theorem dX8_moveAll_62 : decode cX8_moveAll 62 = .ok (.aload_n 0, 1) := by decide +kernel
theorem dX8_moveAll_63 : decode cX8_moveAll 63 = .ok (.aload_n 0, 1) := by decide +kernel
theorem dX8_moveAll_64 : decode cX8_moveAll 64 = .ok (.iload_n 1, 1) := by decide +kernel
theorem dX8_moveAll_65 : decode cX8_moveAll 65 = .ok (.iload_n 2, 1) := by decide +kernel
theorem dX8_moveAll_66 : decode cX8_moveAll 66 = .ok (.iconst 4, 1) := by decide +kernel
theorem dX8_moveAll_67 : decode cX8_moveAll 67 = .ok (.iadd, 1) := by decide +kernel
theorem dX8_moveAll_68 : decode cX8_moveAll 68 = .ok (.aload_n 0, 1) := by decide +kernel
theorem dX8_moveAll_69 : decode cX8_moveAll 69 = .ok (.getfield 87, 3) := by decide +kernel
theorem dX8_moveAll_72 : decode cX8_moveAll 72 = .ok (.invokevirtual 302, 3) := by decide +kernel
theorem dX8_moveAll_75 : decode cX8_moveAll 75 = .ok (.putfield 87, 3) := by decide +kernel
theorem dX8_moveAll_78 : decode cX8_moveAll 78 = .ok (.aload_n 0, 1) := by decide +kernel
theorem dX8_moveAll_79 : decode cX8_moveAll 79 = .ok (.aload_n 0, 1) := by decide +kernel
theorem dX8_moveAll_80 : decode cX8_moveAll 80 = .ok (.iload_n 1, 1) := by decide +kernel
theorem dX8_moveAll_81 : decode cX8_moveAll 81 = .ok (.iload_n 2, 1) := by decide +kernel
theorem dX8_moveAll_82 : decode cX8_moveAll 82 = .ok (.iconst 5, 1) := by decide +kernel
theorem dX8_moveAll_83 : decode cX8_moveAll 83 = .ok (.iadd, 1) := by decide +kernel
theorem dX8_moveAll_84 : decode cX8_moveAll 84 = .ok (.aload_n 0, 1) := by decide +kernel
theorem dX8_moveAll_85 : decode cX8_moveAll 85 = .ok (.getfield 90, 3) := by decide +kernel
theorem dX8_moveAll_88 : decode cX8_moveAll 88 = .ok (.invokevirtual 302, 3) := by decide +kernel
theorem dX8_moveAll_91 : decode cX8_moveAll 91 = .ok (.putfield 90, 3) := by decide +kernel
theorem dX8_moveAll_94 : decode cX8_moveAll 94 = .ok (.aload_n 0, 1) := by decide +kernel
theorem dX8_moveAll_95 : decode cX8_moveAll 95 = .ok (.iload_n 1, 1) := by decide +kernel
theorem dX8_moveAll_96 : decode cX8_moveAll 96 = .ok (.iload_n 2, 1) := by decide +kernel
theorem dX8_moveAll_97 : decode cX8_moveAll 97 = .ok (.bipush 6, 2) := by decide +kernel
theorem dX8_moveAll_99 : decode cX8_moveAll 99 = .ok (.iadd, 1) := by decide +kernel
theorem dX8_moveAll_100 : decode cX8_moveAll 100 = .ok (.aload_n 0, 1) := by decide +kernel
theorem dX8_moveAll_101 : decode cX8_moveAll 101 = .ok (.getfield 13, 3) := by decide +kernel
theorem dX8_moveAll_104 : decode cX8_moveAll 104 = .ok (.bipush 8, 2) := by decide +kernel
theorem dX8_moveAll_106 : decode cX8_moveAll 106 = .ok (.invokevirtual 306, 3) := by decide +kernel
theorem dX8_moveAll_109 : decode cX8_moveAll 109 = .ok (.aload_n 0, 1) := by decide +kernel
theorem dX8_moveAll_110 : decode cX8_moveAll 110 = .ok (.iload_n 1, 1) := by decide +kernel
theorem dX8_moveAll_111 : decode cX8_moveAll 111 = .ok (.iload_n 2, 1) := by decide +kernel
theorem dX8_moveAll_112 : decode cX8_moveAll 112 = .ok (.bipush 14, 2) := by decide +kernel
theorem dX8_moveAll_114 : decode cX8_moveAll 114 = .ok (.iadd, 1) := by decide +kernel
theorem dX8_moveAll_115 : decode cX8_moveAll 115 = .ok (.aload_n 0, 1) := by decide +kernel
theorem dX8_moveAll_116 : decode cX8_moveAll 116 = .ok (.getfield 16, 3) := by decide +kernel
theorem dX8_moveAll_119 : decode cX8_moveAll 119 = .ok (.bipush 8, 2) := by decide +kernel
theorem dX8_moveAll_121 : decode cX8_moveAll 121 = .ok (.invokevirtual 306, 3) := by decide +kernel
theorem dX8_moveAll_124 : decode cX8_moveAll 124 = .ok (.aload_n 0, 1) := by decide +kernel
theorem dX8_moveAll_125 : decode cX8_moveAll 125 = .ok (.iload_n 1, 1) := by decide +kernel
theorem dX8_moveAll_126 : decode cX8_moveAll 126 = .ok (.iload_n 2, 1) := by decide +kernel
theorem dX8_moveAll_127 : decode cX8_moveAll 127 = .ok (.bipush 22, 2) := by decide +kernel
theorem dX8_moveAll_129 : decode cX8_moveAll 129 = .ok (.iadd, 1) := by decide +kernel
theorem dX8_moveAll_130 : decode cX8_moveAll 130 = .ok (.aload_n 0, 1) := by decide +kernel
theorem dX8_moveAll_131 : decode cX8_moveAll 131 = .ok (.getfield 19, 3) := by decide +kernel
theorem dX8_moveAll_134 : decode cX8_moveAll 134 = .ok (.bipush 8, 2) := by decide +kernel
theorem dX8_moveAll_136 : decode cX8_moveAll 136 = .ok (.invokevirtual 306, 3) := by decide +kernel
theorem dX8_moveAll_139 : decode cX8_moveAll 139 = .ok (.aload_n 0, 1) := by decide +kernel
theorem dX8_moveAll_140 : decode cX8_moveAll 140 = .ok (.iload_n 1, 1) := by decide +kernel
theorem dX8_moveAll_141 : decode cX8_moveAll 141 = .ok (.iload_n 2, 1) := by decide +kernel
theorem dX8_moveAll_142 : decode cX8_moveAll 142 = .ok (.bipush 30, 2) := by decide +kernel
theorem dX8_moveAll_144 : decode cX8_moveAll 144 = .ok (.iadd, 1) := by decide +kernel
theorem dX8_moveAll_145 : decode cX8_moveAll 145 = .ok (.aload_n 0, 1) := by decide +kernel
theorem dX8_moveAll_146 : decode cX8_moveAll 146 = .ok (.getfield 22, 3) := by decide +kernel
theorem dX8_moveAll_149 : decode cX8_moveAll 149 = .ok (.iconst 3, 1) := by decide +kernel
theorem dX8_moveAll_150 : decode cX8_moveAll 150 = .ok (.invokevirtual 306, 3) := by decide +kernel
theorem dX8_moveAll_153 : decode cX8_moveAll 153 = .ok (.aload_n 0, 1) := by decide +kernel
theorem dX8_moveAll_154 : decode cX8_moveAll 154 = .ok (.iload_n 1, 1) := by decide +kernel
theorem dX8_moveAll_155 : decode cX8_moveAll 155 = .ok (.iload_n 2, 1) := by decide +kernel
theorem dX8_moveAll_156 : decode cX8_moveAll 156 = .ok (.bipush 33, 2) := by decide +kernel
theorem dX8_moveAll_158 : decode cX8_moveAll 158 = .ok (.iadd, 1) := by decide +kernel
theorem dX8_moveAll_159 : decode cX8_moveAll 159 = .ok (.aload_n 0, 1) := by decide +kernel
theorem dX8_moveAll_160 : decode cX8_moveAll 160 = .ok (.getfield 25, 3) := by decide +kernel
theorem dX8_moveAll_163 : decode cX8_moveAll 163 = .ok (.bipush 11, 2) := by decide +kernel
theorem dX8_moveAll_165 : decode cX8_moveAll 165 = .ok (.invokevirtual 306, 3) := by decide +kernel
theorem dX8_moveAll_168 : decode cX8_moveAll 168 = .ok (.aload_n 0, 1) := by decide +kernel
theorem dX8_moveAll_169 : decode cX8_moveAll 169 = .ok (.iload_n 1, 1) := by decide +kernel
theorem dX8_moveAll_170 : decode cX8_moveAll 170 = .ok (.iload_n 2, 1) := by decide +kernel
theorem dX8_moveAll_171 : decode cX8_moveAll 171 = .ok (.bipush 44, 2) := by decide +kernel
theorem dX8_moveAll_173 : decode cX8_moveAll 173 = .ok (.iadd, 1) := by decide +kernel
theorem dX8_moveAll_174 : decode cX8_moveAll 174 = .ok (.aload_n 0, 1) := by decide +kernel
theorem dX8_moveAll_175 : decode cX8_moveAll 175 = .ok (.getfield 37, 3) := by decide +kernel
theorem dX8_moveAll_178 : decode cX8_moveAll 178 = .ok (.bipush 15, 2) := by decide +kernel
theorem dX8_moveAll_180 : decode cX8_moveAll 180 = .ok (.invokevirtual 306, 3) := by decide +kernel
theorem dX8_moveAll_183 : decode cX8_moveAll 183 = .ok (.aload_n 0, 1) := by decide +kernel
theorem dX8_moveAll_184 : decode cX8_moveAll 184 = .ok (.iload_n 1, 1) := by decide +kernel
theorem dX8_moveAll_185 : decode cX8_moveAll 185 = .ok (.iload_n 2, 1) := by decide +kernel
theorem dX8_moveAll_186 : decode cX8_moveAll 186 = .ok (.bipush 59, 2) := by decide +kernel
theorem dX8_moveAll_188 : decode cX8_moveAll 188 = .ok (.iadd, 1) := by decide +kernel
theorem dX8_moveAll_189 : decode cX8_moveAll 189 = .ok (.aload_n 0, 1) := by decide +kernel
theorem dX8_moveAll_190 : decode cX8_moveAll 190 = .ok (.getfield 40, 3) := by decide +kernel
theorem dX8_moveAll_193 : decode cX8_moveAll 193 = .ok (.bipush 24, 2) := by decide +kernel
theorem dX8_moveAll_195 : decode cX8_moveAll 195 = .ok (.invokevirtual 306, 3) := by decide +kernel
theorem dX8_moveAll_198 : decode cX8_moveAll 198 = .ok (.aload_n 0, 1) := by decide +kernel
theorem dX8_moveAll_199 : decode cX8_moveAll 199 = .ok (.iload_n 1, 1) := by decide +kernel
theorem dX8_moveAll_200 : decode cX8_moveAll 200 = .ok (.iload_n 2, 1) := by decide +kernel
theorem dX8_moveAll_201 : decode cX8_moveAll 201 = .ok (.bipush 83, 2) := by decide +kernel
theorem dX8_moveAll_203 : decode cX8_moveAll 203 = .ok (.iadd, 1) := by decide +kernel
theorem dX8_moveAll_204 : decode cX8_moveAll 204 = .ok (.aload_n 0, 1) := by decide +kernel
theorem dX8_moveAll_205 : decode cX8_moveAll 205 = .ok (.getfield 43, 3) := by decide +kernel
theorem dX8_moveAll_208 : decode cX8_moveAll 208 = .ok (.bipush 24, 2) := by decide +kernel
theorem dX8_moveAll_210 : decode cX8_moveAll 210 = .ok (.invokevirtual 306, 3) := by decide +kernel
theorem dX8_moveAll_213 : decode cX8_moveAll 213 = .ok (.aload_n 0, 1) := by decide +kernel
theorem dX8_moveAll_214 : decode cX8_moveAll 214 = .ok (.iload_n 1, 1) := by decide +kernel
theorem dX8_moveAll_215 : decode cX8_moveAll 215 = .ok (.iload_n 2, 1) := by decide +kernel
theorem dX8_moveAll_216 : decode cX8_moveAll 216 = .ok (.bipush 107, 2) := by decide +kernel
theorem dX8_moveAll_218 : decode cX8_moveAll 218 = .ok (.iadd, 1) := by decide +kernel
theorem dX8_moveAll_219 : decode cX8_moveAll 219 = .ok (.aload_n 0, 1) := by decide +kernel
theorem dX8_moveAll_220 : decode cX8_moveAll 220 = .ok (.getfield 34, 3) := by decide +kernel
theorem dX8_moveAll_223 : decode cX8_moveAll 223 = .ok (.bipush 88, 2) := by decide +kernel
theorem dX8_moveAll_225 : decode cX8_moveAll 225 = .ok (.invokevirtual 306, 3) := by decide +kernel
theorem dX8_moveAll_228 : decode cX8_moveAll 228 = .ok (.return_, 1) := by decide +kernel
theorem dX8_image_0 : decode cX8_image 0 = .ok (.iload_n 1, 1) := by decide +kernel
theorem dX8_image_1 : decode cX8_image 1 = .ok (.i2l, 1) := by decide +kernel
theorem dX8_image_2 : decode cX8_image 2 = .ok (.lconst 0, 1) := by decide +kernel
theorem dX8_image_3 : decode cX8_image 3 = .ok (.lconst 1, 1) := by decide +kernel
theorem dX8_image_4 : decode cX8_image 4 = .ok (.invokestatic 68, 3) := by decide +kernel
theorem dX8_image_7 : decode cX8_image 7 = .ok (.ifCond .ne 8, 3) := by decide +kernel
theorem dX8_image_10 : decode cX8_image 10 = .ok (.aload_n 0, 1) := by decide +kernel
theorem dX8_image_11 : decode cX8_image 11 = .ok (.invokevirtual 101, 3) := by decide +kernel
theorem dX8_image_14 : decode cX8_image 14 = .ok (.ireturn, 1) := by decide +kernel
theorem dX8_image_15 : decode cX8_image 15 = .ok (.aload_n 0, 1) := by decide +kernel
theorem dX8_image_16 : decode cX8_image 16 = .ok (.iconst 1, 1) := by decide +kernel
theorem dX8_image_17 : decode cX8_image 17 = .ok (.sipush 196, 3) := by decide +kernel
theorem dX8_image_20 : decode cX8_image 20 = .ok (.iload_n 1, 1) := by decide +kernel
theorem dX8_image_21 : decode cX8_image 21 = .ok (.imul, 1) := by decide +kernel
theorem dX8_image_22 : decode cX8_image 22 = .ok (.invokevirtual 310, 3) := by decide +kernel
theorem dX8_image_25 : decode cX8_image 25 = .ok (.aload_n 0, 1) := by decide +kernel
theorem dX8_image_26 : decode cX8_image 26 = .ok (.getfield 55, 3) := by decide +kernel
theorem dX8_image_29 : decode cX8_image 29 = .ok (.iload_n 1, 1) := by decide +kernel
theorem dX8_image_30 : decode cX8_image 30 = .ok (.iconst 1, 1) := by decide +kernel
theorem dX8_image_31 : decode cX8_image 31 = .ok (.bastore, 1) := by decide +kernel
theorem dX8_image_32 : decode cX8_image 32 = .ok (.iconst 1, 1) := by decide +kernel
theorem dX8_image_33 : decode cX8_image 33 = .ok (.ireturn, 1) := by decide +kernel
theorem dX8_from_0 : decode cX8_from 0 = .ok (.iload_n 1, 1) := by decide +kernel
theorem dX8_from_1 : decode cX8_from 1 = .ok (.i2l, 1) := by decide +kernel
theorem dX8_from_2 : decode cX8_from 2 = .ok (.lconst 0, 1) := by decide +kernel
theorem dX8_from_3 : decode cX8_from 3 = .ok (.lconst 1, 1) := by decide +kernel
theorem dX8_from_4 : decode cX8_from 4 = .ok (.invokestatic 68, 3) := by decide +kernel
theorem dX8_from_7 : decode cX8_from 7 = .ok (.ifCond .ne 8, 3) := by decide +kernel
theorem dX8_from_10 : decode cX8_from 10 = .ok (.aload_n 0, 1) := by decide +kernel
theorem dX8_from_11 : decode cX8_from 11 = .ok (.invokevirtual 101, 3) := by decide +kernel
theorem dX8_from_14 : decode cX8_from 14 = .ok (.ireturn, 1) := by decide +kernel
theorem dX8_from_15 : decode cX8_from 15 = .ok (.aload_n 0, 1) := by decide +kernel
theorem dX8_from_16 : decode cX8_from 16 = .ok (.getfield 55, 3) := by decide +kernel
theorem dX8_from_19 : decode cX8_from 19 = .ok (.iload_n 1, 1) := by decide +kernel
theorem dX8_from_20 : decode cX8_from 20 = .ok (.baload, 1) := by decide +kernel
theorem dX8_from_21 : decode cX8_from 21 = .ok (.ifCond .ne 8, 3) := by decide +kernel
theorem dX8_from_24 : decode cX8_from 24 = .ok (.aload_n 0, 1) := by decide +kernel
theorem dX8_from_25 : decode cX8_from 25 = .ok (.invokevirtual 233, 3) := by decide +kernel
theorem dX8_from_28 : decode cX8_from 28 = .ok (.ireturn, 1) := by decide +kernel
theorem dX8_from_29 : decode cX8_from 29 = .ok (.aload_n 0, 1) := by decide +kernel
theorem dX8_from_30 : decode cX8_from 30 = .ok (.iconst 0, 1) := by decide +kernel
theorem dX8_from_31 : decode cX8_from 31 = .ok (.sipush 196, 3) := by decide +kernel
theorem dX8_from_34 : decode cX8_from 34 = .ok (.iload_n 1, 1) := by decide +kernel
theorem dX8_from_35 : decode cX8_from 35 = .ok (.imul, 1) := by decide +kernel
theorem dX8_from_36 : decode cX8_from 36 = .ok (.invokevirtual 310, 3) := by decide +kernel
theorem dX8_from_39 : decode cX8_from 39 = .ok (.iconst 1, 1) := by decide +kernel
theorem dX8_from_40 : decode cX8_from 40 = .ok (.ireturn, 1) := by decide +kernel
theorem dX8_stripped_0 : decode cX8_stripped 0 = .ok (.iconst 0, 1) := by decide +kernel
theorem dX8_stripped_1 : decode cX8_stripped 1 = .ok (.istore_n 1, 1) := by decide +kernel
theorem dX8_stripped_2 : decode cX8_stripped 2 = .ok (.iconst 0, 1) := by decide +kernel
theorem dX8_stripped_3 : decode cX8_stripped 3 = .ok (.istore_n 2, 1) := by decide +kernel
theorem dX8_stripped_4 : decode cX8_stripped 4 = .ok (.iload_n 2, 1) := by decide +kernel
theorem dX8_stripped_5 : decode cX8_stripped 5 = .ok (.iconst 4, 1) := by decide +kernel
theorem dX8_stripped_6 : decode cX8_stripped 6 = .ok (.if_icmp .ge 28, 3) := by decide +kernel
theorem dX8_stripped_9 : decode cX8_stripped 9 = .ok (.iload_n 1, 1) := by decide +kernel
theorem dX8_stripped_10 : decode cX8_stripped 10 = .ok (.aload_n 0, 1) := by decide +kernel
theorem dX8_stripped_11 : decode cX8_stripped 11 = .ok (.getfield 25, 3) := by decide +kernel
theorem dX8_stripped_14 : decode cX8_stripped 14 = .ok (.iconst 1, 1) := by decide +kernel
theorem dX8_stripped_15 : decode cX8_stripped 15 = .ok (.iload_n 2, 1) := by decide +kernel
theorem dX8_stripped_16 : decode cX8_stripped 16 = .ok (.iadd, 1) := by decide +kernel
theorem dX8_stripped_17 : decode cX8_stripped 17 = .ok (.iaload, 1) := by decide +kernel
theorem dX8_stripped_18 : decode cX8_stripped 18 = .ok (.ifCond .lt 7, 3) := by decide +kernel
theorem dX8_stripped_21 : decode cX8_stripped 21 = .ok (.iconst 1, 1) := by decide +kernel
theorem dX8_stripped_22 : decode cX8_stripped 22 = .ok (.goto 4, 3) := by decide +kernel
theorem dX8_stripped_25 : decode cX8_stripped 25 = .ok (.iconst 0, 1) := by decide +kernel
theorem dX8_stripped_26 : decode cX8_stripped 26 = .ok (.iadd, 1) := by decide +kernel
theorem dX8_stripped_27 : decode cX8_stripped 27 = .ok (.istore_n 1, 1) := by decide +kernel
theorem dX8_stripped_28 : decode cX8_stripped 28 = .ok (.iinc 2 1, 3) := by decide +kernel
theorem dX8_stripped_31 : decode cX8_stripped 31 = .ok (.goto (-27), 3) := by decide +kernel
theorem dX8_stripped_34 : decode cX8_stripped 34 = .ok (.iload_n 1, 1) := by decide +kernel
theorem dX8_stripped_35 : decode cX8_stripped 35 = .ok (.ireturn, 1) := by decide +kernel
theorem dX8_counted_0 : decode cX8_counted 0 = .ok (.iload_n 1, 1) := by decide +kernel
theorem dX8_counted_1 : decode cX8_counted 1 = .ok (.tableswitch 98 0 8 #[51, 56, 61, 68, 73, 78, 83, 88, 93], 51) := by decide +kernel
theorem dX8_counted_52 : decode cX8_counted 52 = .ok (.aload_n 0, 1) := by decide +kernel
theorem dX8_counted_53 : decode cX8_counted 53 = .ok (.getfield 72, 3) := by decide +kernel
theorem dX8_counted_56 : decode cX8_counted 56 = .ok (.ireturn, 1) := by decide +kernel
theorem dX8_counted_57 : decode cX8_counted 57 = .ok (.aload_n 0, 1) := by decide +kernel
theorem dX8_counted_58 : decode cX8_counted 58 = .ok (.getfield 76, 3) := by decide +kernel
theorem dX8_counted_61 : decode cX8_counted 61 = .ok (.ireturn, 1) := by decide +kernel
theorem dX8_counted_62 : decode cX8_counted 62 = .ok (.aload_n 0, 1) := by decide +kernel
theorem dX8_counted_63 : decode cX8_counted 63 = .ok (.getfield 25, 3) := by decide +kernel
theorem dX8_counted_66 : decode cX8_counted 66 = .ok (.iconst 0, 1) := by decide +kernel
theorem dX8_counted_67 : decode cX8_counted 67 = .ok (.iaload, 1) := by decide +kernel
theorem dX8_counted_68 : decode cX8_counted 68 = .ok (.ireturn, 1) := by decide +kernel
theorem dX8_counted_69 : decode cX8_counted 69 = .ok (.aload_n 0, 1) := by decide +kernel
theorem dX8_counted_70 : decode cX8_counted 70 = .ok (.invokevirtual 314, 3) := by decide +kernel
theorem dX8_counted_73 : decode cX8_counted 73 = .ok (.ireturn, 1) := by decide +kernel
theorem dX8_counted_74 : decode cX8_counted 74 = .ok (.aload_n 0, 1) := by decide +kernel
theorem dX8_counted_75 : decode cX8_counted 75 = .ok (.invokevirtual 241, 3) := by decide +kernel
theorem dX8_counted_78 : decode cX8_counted 78 = .ok (.ireturn, 1) := by decide +kernel
theorem dX8_counted_79 : decode cX8_counted 79 = .ok (.aload_n 0, 1) := by decide +kernel
theorem dX8_counted_80 : decode cX8_counted 80 = .ok (.getfield 81, 3) := by decide +kernel
theorem dX8_counted_83 : decode cX8_counted 83 = .ok (.ireturn, 1) := by decide +kernel
theorem dX8_counted_84 : decode cX8_counted 84 = .ok (.aload_n 0, 1) := by decide +kernel
theorem dX8_counted_85 : decode cX8_counted 85 = .ok (.getfield 84, 3) := by decide +kernel
theorem dX8_counted_88 : decode cX8_counted 88 = .ok (.ireturn, 1) := by decide +kernel
theorem dX8_counted_89 : decode cX8_counted 89 = .ok (.aload_n 0, 1) := by decide +kernel
theorem dX8_counted_90 : decode cX8_counted 90 = .ok (.getfield 87, 3) := by decide +kernel
theorem dX8_counted_93 : decode cX8_counted 93 = .ok (.ireturn, 1) := by decide +kernel
theorem dX8_counted_94 : decode cX8_counted 94 = .ok (.aload_n 0, 1) := by decide +kernel
theorem dX8_counted_95 : decode cX8_counted 95 = .ok (.getfield 90, 3) := by decide +kernel
theorem dX8_counted_98 : decode cX8_counted 98 = .ok (.ireturn, 1) := by decide +kernel
theorem dX8_counted_99 : decode cX8_counted 99 = .ok (.aload_n 0, 1) := by decide +kernel
theorem dX8_counted_100 : decode cX8_counted 100 = .ok (.getfield 156, 3) := by decide +kernel
theorem dX8_counted_103 : decode cX8_counted 103 = .ok (.ireturn, 1) := by decide +kernel
theorem dX8_count_0 : decode cX8_count 0 = .ok (.iload_n 1, 1) := by decide +kernel
theorem dX8_count_1 : decode cX8_count 1 = .ok (.i2l, 1) := by decide +kernel
theorem dX8_count_2 : decode cX8_count 2 = .ok (.lconst 0, 1) := by decide +kernel
theorem dX8_count_3 : decode cX8_count 3 = .ok (.ldc2_w 99, 3) := by decide +kernel
theorem dX8_count_6 : decode cX8_count 6 = .ok (.invokestatic 68, 3) := by decide +kernel
theorem dX8_count_9 : decode cX8_count 9 = .ok (.ifCond .eq 11, 3) := by decide +kernel
theorem dX8_count_12 : decode cX8_count 12 = .ok (.aload_n 0, 1) := by decide +kernel
theorem dX8_count_13 : decode cX8_count 13 = .ok (.iload_n 1, 1) := by decide +kernel
theorem dX8_count_14 : decode cX8_count 14 = .ok (.invokevirtual 317, 3) := by decide +kernel
theorem dX8_count_17 : decode cX8_count 17 = .ok (.goto 7, 3) := by decide +kernel
theorem dX8_count_20 : decode cX8_count 20 = .ok (.aload_n 0, 1) := by decide +kernel
theorem dX8_count_21 : decode cX8_count 21 = .ok (.invokevirtual 101, 3) := by decide +kernel
theorem dX8_count_24 : decode cX8_count 24 = .ok (.ireturn, 1) := by decide +kernel
theorem dX8_adds_0 : decode cX8_adds 0 = .ok (.lload_n 0, 1) := by decide +kernel
theorem dX8_adds_1 : decode cX8_adds 1 = .ok (.lstore 4, 2) := by decide +kernel
theorem dX8_adds_3 : decode cX8_adds 3 = .ok (.iconst 0, 1) := by decide +kernel
theorem dX8_adds_4 : decode cX8_adds 4 = .ok (.istore 6, 2) := by decide +kernel
theorem dX8_adds_6 : decode cX8_adds 6 = .ok (.iload 6, 2) := by decide +kernel
theorem dX8_adds_8 : decode cX8_adds 8 = .ok (.iload_n 3, 1) := by decide +kernel
theorem dX8_adds_9 : decode cX8_adds 9 = .ok (.if_icmp .ge 23, 3) := by decide +kernel
theorem dX8_adds_12 : decode cX8_adds 12 = .ok (.ldc2_w 320, 3) := by decide +kernel
theorem dX8_adds_15 : decode cX8_adds 15 = .ok (.lload 4, 2) := by decide +kernel
theorem dX8_adds_17 : decode cX8_adds 17 = .ok (.lmul, 1) := by decide +kernel
theorem dX8_adds_18 : decode cX8_adds 18 = .ok (.aload_n 2, 1) := by decide +kernel
theorem dX8_adds_19 : decode cX8_adds 19 = .ok (.iload 6, 2) := by decide +kernel
theorem dX8_adds_21 : decode cX8_adds 21 = .ok (.iaload, 1) := by decide +kernel
theorem dX8_adds_22 : decode cX8_adds 22 = .ok (.i2l, 1) := by decide +kernel
theorem dX8_adds_23 : decode cX8_adds 23 = .ok (.ladd, 1) := by decide +kernel
theorem dX8_adds_24 : decode cX8_adds 24 = .ok (.lstore 4, 2) := by decide +kernel
theorem dX8_adds_26 : decode cX8_adds 26 = .ok (.iinc 6 1, 3) := by decide +kernel
theorem dX8_adds_29 : decode cX8_adds 29 = .ok (.goto (-23), 3) := by decide +kernel
theorem dX8_adds_32 : decode cX8_adds 32 = .ok (.lload 4, 2) := by decide +kernel
theorem dX8_adds_34 : decode cX8_adds 34 = .ok (.lreturn, 1) := by decide +kernel
theorem dX8_digest_0 : decode cX8_digest 0 = .ok (.ldc2_w 322, 3) := by decide +kernel
theorem dX8_digest_3 : decode cX8_digest 3 = .ok (.lstore_n 1, 1) := by decide +kernel
theorem dX8_digest_4 : decode cX8_digest 4 = .ok (.iconst 0, 1) := by decide +kernel
theorem dX8_digest_5 : decode cX8_digest 5 = .ok (.istore_n 3, 1) := by decide +kernel
theorem dX8_digest_6 : decode cX8_digest 6 = .ok (.iload_n 3, 1) := by decide +kernel
theorem dX8_digest_7 : decode cX8_digest 7 = .ok (.bipush 10, 2) := by decide +kernel
theorem dX8_digest_9 : decode cX8_digest 9 = .ok (.if_icmp .ge 22, 3) := by decide +kernel
theorem dX8_digest_12 : decode cX8_digest 12 = .ok (.ldc2_w 320, 3) := by decide +kernel
theorem dX8_digest_15 : decode cX8_digest 15 = .ok (.lload_n 1, 1) := by decide +kernel
theorem dX8_digest_16 : decode cX8_digest 16 = .ok (.lmul, 1) := by decide +kernel
theorem dX8_digest_17 : decode cX8_digest 17 = .ok (.aload_n 0, 1) := by decide +kernel
theorem dX8_digest_18 : decode cX8_digest 18 = .ok (.iload_n 3, 1) := by decide +kernel
theorem dX8_digest_19 : decode cX8_digest 19 = .ok (.invokevirtual 317, 3) := by decide +kernel
theorem dX8_digest_22 : decode cX8_digest 22 = .ok (.i2l, 1) := by decide +kernel
theorem dX8_digest_23 : decode cX8_digest 23 = .ok (.ladd, 1) := by decide +kernel
theorem dX8_digest_24 : decode cX8_digest 24 = .ok (.lstore_n 1, 1) := by decide +kernel
theorem dX8_digest_25 : decode cX8_digest 25 = .ok (.iinc 3 1, 3) := by decide +kernel
theorem dX8_digest_28 : decode cX8_digest 28 = .ok (.goto (-22), 3) := by decide +kernel
theorem dX8_digest_31 : decode cX8_digest 31 = .ok (.iconst 0, 1) := by decide +kernel
theorem dX8_digest_32 : decode cX8_digest 32 = .ok (.istore_n 3, 1) := by decide +kernel
theorem dX8_digest_33 : decode cX8_digest 33 = .ok (.iload_n 3, 1) := by decide +kernel
theorem dX8_digest_34 : decode cX8_digest 34 = .ok (.iconst 4, 1) := by decide +kernel
theorem dX8_digest_35 : decode cX8_digest 35 = .ok (.if_icmp .ge 22, 3) := by decide +kernel
theorem dX8_digest_38 : decode cX8_digest 38 = .ok (.ldc2_w 320, 3) := by decide +kernel
theorem dX8_digest_41 : decode cX8_digest 41 = .ok (.lload_n 1, 1) := by decide +kernel
theorem dX8_digest_42 : decode cX8_digest 42 = .ok (.lmul, 1) := by decide +kernel
theorem dX8_digest_43 : decode cX8_digest 43 = .ok (.aload_n 0, 1) := by decide +kernel
theorem dX8_digest_44 : decode cX8_digest 44 = .ok (.iload_n 3, 1) := by decide +kernel
theorem dX8_digest_45 : decode cX8_digest 45 = .ok (.invokevirtual 138, 3) := by decide +kernel
theorem dX8_digest_48 : decode cX8_digest 48 = .ok (.i2l, 1) := by decide +kernel
theorem dX8_digest_49 : decode cX8_digest 49 = .ok (.ladd, 1) := by decide +kernel
theorem dX8_digest_50 : decode cX8_digest 50 = .ok (.lstore_n 1, 1) := by decide +kernel
theorem dX8_digest_51 : decode cX8_digest 51 = .ok (.iinc 3 1, 3) := by decide +kernel
theorem dX8_digest_54 : decode cX8_digest 54 = .ok (.goto (-21), 3) := by decide +kernel
theorem dX8_digest_57 : decode cX8_digest 57 = .ok (.iconst 0, 1) := by decide +kernel
theorem dX8_digest_58 : decode cX8_digest 58 = .ok (.istore_n 3, 1) := by decide +kernel
theorem dX8_digest_59 : decode cX8_digest 59 = .ok (.iload_n 3, 1) := by decide +kernel
theorem dX8_digest_60 : decode cX8_digest 60 = .ok (.aload_n 0, 1) := by decide +kernel
theorem dX8_digest_61 : decode cX8_digest 61 = .ok (.getfield 72, 3) := by decide +kernel
theorem dX8_digest_64 : decode cX8_digest 64 = .ok (.if_icmp .ge 47, 3) := by decide +kernel
theorem dX8_digest_67 : decode cX8_digest 67 = .ok (.ldc2_w 320, 3) := by decide +kernel
theorem dX8_digest_70 : decode cX8_digest 70 = .ok (.ldc2_w 320, 3) := by decide +kernel
theorem dX8_digest_73 : decode cX8_digest 73 = .ok (.ldc2_w 320, 3) := by decide +kernel
theorem dX8_digest_76 : decode cX8_digest 76 = .ok (.lload_n 1, 1) := by decide +kernel
theorem dX8_digest_77 : decode cX8_digest 77 = .ok (.lmul, 1) := by decide +kernel
theorem dX8_digest_78 : decode cX8_digest 78 = .ok (.aload_n 0, 1) := by decide +kernel
theorem dX8_digest_79 : decode cX8_digest 79 = .ok (.getfield 13, 3) := by decide +kernel
theorem dX8_digest_82 : decode cX8_digest 82 = .ok (.iload_n 3, 1) := by decide +kernel
theorem dX8_digest_83 : decode cX8_digest 83 = .ok (.iaload, 1) := by decide +kernel
theorem dX8_digest_84 : decode cX8_digest 84 = .ok (.i2l, 1) := by decide +kernel
theorem dX8_digest_85 : decode cX8_digest 85 = .ok (.ladd, 1) := by decide +kernel
theorem dX8_digest_86 : decode cX8_digest 86 = .ok (.lmul, 1) := by decide +kernel
theorem dX8_digest_87 : decode cX8_digest 87 = .ok (.aload_n 0, 1) := by decide +kernel
theorem dX8_digest_88 : decode cX8_digest 88 = .ok (.getfield 16, 3) := by decide +kernel
theorem dX8_digest_91 : decode cX8_digest 91 = .ok (.iload_n 3, 1) := by decide +kernel
theorem dX8_digest_92 : decode cX8_digest 92 = .ok (.iaload, 1) := by decide +kernel
theorem dX8_digest_93 : decode cX8_digest 93 = .ok (.i2l, 1) := by decide +kernel
theorem dX8_digest_94 : decode cX8_digest 94 = .ok (.ladd, 1) := by decide +kernel
theorem dX8_digest_95 : decode cX8_digest 95 = .ok (.lmul, 1) := by decide +kernel
theorem dX8_digest_96 : decode cX8_digest 96 = .ok (.aload_n 0, 1) := by decide +kernel
theorem dX8_digest_97 : decode cX8_digest 97 = .ok (.getfield 19, 3) := by decide +kernel
theorem dX8_digest_100 : decode cX8_digest 100 = .ok (.iload_n 3, 1) := by decide +kernel
theorem dX8_digest_101 : decode cX8_digest 101 = .ok (.iaload, 1) := by decide +kernel
theorem dX8_digest_102 : decode cX8_digest 102 = .ok (.i2l, 1) := by decide +kernel
theorem dX8_digest_103 : decode cX8_digest 103 = .ok (.ladd, 1) := by decide +kernel
theorem dX8_digest_104 : decode cX8_digest 104 = .ok (.lstore_n 1, 1) := by decide +kernel
theorem dX8_digest_105 : decode cX8_digest 105 = .ok (.iinc 3 1, 3) := by decide +kernel
theorem dX8_digest_108 : decode cX8_digest 108 = .ok (.goto (-49), 3) := by decide +kernel
theorem dX8_digest_111 : decode cX8_digest 111 = .ok (.iconst 0, 1) := by decide +kernel
theorem dX8_digest_112 : decode cX8_digest 112 = .ok (.istore_n 3, 1) := by decide +kernel
theorem dX8_digest_113 : decode cX8_digest 113 = .ok (.iload_n 3, 1) := by decide +kernel
theorem dX8_digest_114 : decode cX8_digest 114 = .ok (.aload_n 0, 1) := by decide +kernel
theorem dX8_digest_115 : decode cX8_digest 115 = .ok (.getfield 76, 3) := by decide +kernel
theorem dX8_digest_118 : decode cX8_digest 118 = .ok (.if_icmp .ge 52, 3) := by decide +kernel
theorem dX8_digest_121 : decode cX8_digest 121 = .ok (.ldc2_w 320, 3) := by decide +kernel
theorem dX8_digest_124 : decode cX8_digest 124 = .ok (.ldc2_w 320, 3) := by decide +kernel
theorem dX8_digest_127 : decode cX8_digest 127 = .ok (.ldc2_w 320, 3) := by decide +kernel
theorem dX8_digest_130 : decode cX8_digest 130 = .ok (.lload_n 1, 1) := by decide +kernel
theorem dX8_digest_131 : decode cX8_digest 131 = .ok (.lmul, 1) := by decide +kernel
theorem dX8_digest_132 : decode cX8_digest 132 = .ok (.aload_n 0, 1) := by decide +kernel
theorem dX8_digest_133 : decode cX8_digest 133 = .ok (.getfield 22, 3) := by decide +kernel
theorem dX8_digest_136 : decode cX8_digest 136 = .ok (.iload_n 3, 1) := by decide +kernel
theorem dX8_digest_137 : decode cX8_digest 137 = .ok (.iaload, 1) := by decide +kernel
theorem dX8_digest_138 : decode cX8_digest 138 = .ok (.i2l, 1) := by decide +kernel
theorem dX8_digest_139 : decode cX8_digest 139 = .ok (.ladd, 1) := by decide +kernel
theorem dX8_digest_140 : decode cX8_digest 140 = .ok (.lmul, 1) := by decide +kernel
theorem dX8_digest_141 : decode cX8_digest 141 = .ok (.aload_n 0, 1) := by decide +kernel
theorem dX8_digest_142 : decode cX8_digest 142 = .ok (.getfield 25, 3) := by decide +kernel
theorem dX8_digest_145 : decode cX8_digest 145 = .ok (.iconst 5, 1) := by decide +kernel
theorem dX8_digest_146 : decode cX8_digest 146 = .ok (.iload_n 3, 1) := by decide +kernel
theorem dX8_digest_147 : decode cX8_digest 147 = .ok (.iadd, 1) := by decide +kernel
theorem dX8_digest_148 : decode cX8_digest 148 = .ok (.iaload, 1) := by decide +kernel
theorem dX8_digest_149 : decode cX8_digest 149 = .ok (.i2l, 1) := by decide +kernel
theorem dX8_digest_150 : decode cX8_digest 150 = .ok (.ladd, 1) := by decide +kernel
theorem dX8_digest_151 : decode cX8_digest 151 = .ok (.lmul, 1) := by decide +kernel
theorem dX8_digest_152 : decode cX8_digest 152 = .ok (.aload_n 0, 1) := by decide +kernel
theorem dX8_digest_153 : decode cX8_digest 153 = .ok (.getfield 25, 3) := by decide +kernel
theorem dX8_digest_156 : decode cX8_digest 156 = .ok (.bipush 8, 2) := by decide +kernel
theorem dX8_digest_158 : decode cX8_digest 158 = .ok (.iload_n 3, 1) := by decide +kernel
theorem dX8_digest_159 : decode cX8_digest 159 = .ok (.iadd, 1) := by decide +kernel
theorem dX8_digest_160 : decode cX8_digest 160 = .ok (.iaload, 1) := by decide +kernel
theorem dX8_digest_161 : decode cX8_digest 161 = .ok (.i2l, 1) := by decide +kernel
theorem dX8_digest_162 : decode cX8_digest 162 = .ok (.ladd, 1) := by decide +kernel
theorem dX8_digest_163 : decode cX8_digest 163 = .ok (.lstore_n 1, 1) := by decide +kernel
theorem dX8_digest_164 : decode cX8_digest 164 = .ok (.iinc 3 1, 3) := by decide +kernel
theorem dX8_digest_167 : decode cX8_digest 167 = .ok (.goto (-54), 3) := by decide +kernel
theorem dX8_digest_170 : decode cX8_digest 170 = .ok (.lload_n 1, 1) := by decide +kernel
theorem dX8_digest_171 : decode cX8_digest 171 = .ok (.aload_n 0, 1) := by decide +kernel
theorem dX8_digest_172 : decode cX8_digest 172 = .ok (.getfield 37, 3) := by decide +kernel
theorem dX8_digest_175 : decode cX8_digest 175 = .ok (.iconst 3, 1) := by decide +kernel
theorem dX8_digest_176 : decode cX8_digest 176 = .ok (.aload_n 0, 1) := by decide +kernel
theorem dX8_digest_177 : decode cX8_digest 177 = .ok (.getfield 81, 3) := by decide +kernel
theorem dX8_digest_180 : decode cX8_digest 180 = .ok (.imul, 1) := by decide +kernel
theorem dX8_digest_181 : decode cX8_digest 181 = .ok (.invokestatic 324, 3) := by decide +kernel
theorem dX8_digest_184 : decode cX8_digest 184 = .ok (.lstore_n 1, 1) := by decide +kernel
theorem dX8_digest_185 : decode cX8_digest 185 = .ok (.lload_n 1, 1) := by decide +kernel
theorem dX8_digest_186 : decode cX8_digest 186 = .ok (.aload_n 0, 1) := by decide +kernel
theorem dX8_digest_187 : decode cX8_digest 187 = .ok (.getfield 40, 3) := by decide +kernel
theorem dX8_digest_190 : decode cX8_digest 190 = .ok (.iconst 4, 1) := by decide +kernel
theorem dX8_digest_191 : decode cX8_digest 191 = .ok (.aload_n 0, 1) := by decide +kernel
theorem dX8_digest_192 : decode cX8_digest 192 = .ok (.getfield 84, 3) := by decide +kernel
theorem dX8_digest_195 : decode cX8_digest 195 = .ok (.imul, 1) := by decide +kernel
theorem dX8_digest_196 : decode cX8_digest 196 = .ok (.invokestatic 324, 3) := by decide +kernel
theorem dX8_digest_199 : decode cX8_digest 199 = .ok (.lstore_n 1, 1) := by decide +kernel
theorem dX8_digest_200 : decode cX8_digest 200 = .ok (.lload_n 1, 1) := by decide +kernel
theorem dX8_digest_201 : decode cX8_digest 201 = .ok (.aload_n 0, 1) := by decide +kernel
theorem dX8_digest_202 : decode cX8_digest 202 = .ok (.getfield 43, 3) := by decide +kernel
theorem dX8_digest_205 : decode cX8_digest 205 = .ok (.iconst 4, 1) := by decide +kernel
theorem dX8_digest_206 : decode cX8_digest 206 = .ok (.aload_n 0, 1) := by decide +kernel
theorem dX8_digest_207 : decode cX8_digest 207 = .ok (.getfield 87, 3) := by decide +kernel
theorem dX8_digest_210 : decode cX8_digest 210 = .ok (.imul, 1) := by decide +kernel
theorem dX8_digest_211 : decode cX8_digest 211 = .ok (.invokestatic 324, 3) := by decide +kernel
theorem dX8_digest_214 : decode cX8_digest 214 = .ok (.lstore_n 1, 1) := by decide +kernel
theorem dX8_digest_215 : decode cX8_digest 215 = .ok (.ldc2_w 320, 3) := by decide +kernel
theorem dX8_digest_218 : decode cX8_digest 218 = .ok (.ldc2_w 320, 3) := by decide +kernel
theorem dX8_digest_221 : decode cX8_digest 221 = .ok (.lload_n 1, 1) := by decide +kernel
theorem dX8_digest_222 : decode cX8_digest 222 = .ok (.lmul, 1) := by decide +kernel
theorem dX8_digest_223 : decode cX8_digest 223 = .ok (.aload_n 0, 1) := by decide +kernel
theorem dX8_digest_224 : decode cX8_digest 224 = .ok (.getfield 283, 3) := by decide +kernel
theorem dX8_digest_227 : decode cX8_digest 227 = .ok (.ladd, 1) := by decide +kernel
theorem dX8_digest_228 : decode cX8_digest 228 = .ok (.lmul, 1) := by decide +kernel
theorem dX8_digest_229 : decode cX8_digest 229 = .ok (.aload_n 0, 1) := by decide +kernel
theorem dX8_digest_230 : decode cX8_digest 230 = .ok (.getfield 62, 3) := by decide +kernel
theorem dX8_digest_233 : decode cX8_digest 233 = .ok (.ladd, 1) := by decide +kernel
theorem dX8_digest_234 : decode cX8_digest 234 = .ok (.lreturn, 1) := by decide +kernel
theorem dJ6_bitCount_0f7a4_0 : decode cJ6_bitCount_0f7a4 0 = .ok (.iload_n 0, 1) := by decide +kernel
theorem dJ6_bitCount_0f7a4_1 : decode cJ6_bitCount_0f7a4 1 = .ok (.iload_n 0, 1) := by decide +kernel
theorem dJ6_bitCount_0f7a4_2 : decode cJ6_bitCount_0f7a4 2 = .ok (.iconst 1, 1) := by decide +kernel
theorem dJ6_bitCount_0f7a4_3 : decode cJ6_bitCount_0f7a4 3 = .ok (.iushr, 1) := by decide +kernel
theorem dJ6_bitCount_0f7a4_4 : decode cJ6_bitCount_0f7a4 4 = .ok (.ldc_w 265, 3) := by decide +kernel
theorem dJ6_bitCount_0f7a4_7 : decode cJ6_bitCount_0f7a4 7 = .ok (.iand, 1) := by decide +kernel
theorem dJ6_bitCount_0f7a4_8 : decode cJ6_bitCount_0f7a4 8 = .ok (.isub, 1) := by decide +kernel
theorem dJ6_bitCount_0f7a4_9 : decode cJ6_bitCount_0f7a4 9 = .ok (.istore_n 0, 1) := by decide +kernel
theorem dJ6_bitCount_0f7a4_10 : decode cJ6_bitCount_0f7a4 10 = .ok (.iload_n 0, 1) := by decide +kernel
theorem dJ6_bitCount_0f7a4_11 : decode cJ6_bitCount_0f7a4 11 = .ok (.ldc_w 266, 3) := by decide +kernel
theorem dJ6_bitCount_0f7a4_14 : decode cJ6_bitCount_0f7a4 14 = .ok (.iand, 1) := by decide +kernel
theorem dJ6_bitCount_0f7a4_15 : decode cJ6_bitCount_0f7a4 15 = .ok (.iload_n 0, 1) := by decide +kernel
theorem dJ6_bitCount_0f7a4_16 : decode cJ6_bitCount_0f7a4 16 = .ok (.iconst 2, 1) := by decide +kernel
theorem dJ6_bitCount_0f7a4_17 : decode cJ6_bitCount_0f7a4 17 = .ok (.iushr, 1) := by decide +kernel
theorem dJ6_bitCount_0f7a4_18 : decode cJ6_bitCount_0f7a4 18 = .ok (.ldc_w 266, 3) := by decide +kernel
theorem dJ6_bitCount_0f7a4_21 : decode cJ6_bitCount_0f7a4 21 = .ok (.iand, 1) := by decide +kernel
theorem dJ6_bitCount_0f7a4_22 : decode cJ6_bitCount_0f7a4 22 = .ok (.iadd, 1) := by decide +kernel
theorem dJ6_bitCount_0f7a4_23 : decode cJ6_bitCount_0f7a4 23 = .ok (.istore_n 0, 1) := by decide +kernel
theorem dJ6_bitCount_0f7a4_24 : decode cJ6_bitCount_0f7a4 24 = .ok (.iload_n 0, 1) := by decide +kernel
theorem dJ6_bitCount_0f7a4_25 : decode cJ6_bitCount_0f7a4 25 = .ok (.iload_n 0, 1) := by decide +kernel
theorem dJ6_bitCount_0f7a4_26 : decode cJ6_bitCount_0f7a4 26 = .ok (.iconst 4, 1) := by decide +kernel
theorem dJ6_bitCount_0f7a4_27 : decode cJ6_bitCount_0f7a4 27 = .ok (.iushr, 1) := by decide +kernel
theorem dJ6_bitCount_0f7a4_28 : decode cJ6_bitCount_0f7a4 28 = .ok (.iadd, 1) := by decide +kernel
theorem dJ6_bitCount_0f7a4_29 : decode cJ6_bitCount_0f7a4 29 = .ok (.ldc_w 267, 3) := by decide +kernel
theorem dJ6_bitCount_0f7a4_32 : decode cJ6_bitCount_0f7a4 32 = .ok (.iand, 1) := by decide +kernel
theorem dJ6_bitCount_0f7a4_33 : decode cJ6_bitCount_0f7a4 33 = .ok (.istore_n 0, 1) := by decide +kernel
theorem dJ6_bitCount_0f7a4_34 : decode cJ6_bitCount_0f7a4 34 = .ok (.iload_n 0, 1) := by decide +kernel
theorem dJ6_bitCount_0f7a4_35 : decode cJ6_bitCount_0f7a4 35 = .ok (.iload_n 0, 1) := by decide +kernel
theorem dJ6_bitCount_0f7a4_36 : decode cJ6_bitCount_0f7a4 36 = .ok (.bipush 8, 2) := by decide +kernel
theorem dJ6_bitCount_0f7a4_38 : decode cJ6_bitCount_0f7a4 38 = .ok (.iushr, 1) := by decide +kernel
theorem dJ6_bitCount_0f7a4_39 : decode cJ6_bitCount_0f7a4 39 = .ok (.iadd, 1) := by decide +kernel
theorem dJ6_bitCount_0f7a4_40 : decode cJ6_bitCount_0f7a4 40 = .ok (.istore_n 0, 1) := by decide +kernel
theorem dJ6_bitCount_0f7a4_41 : decode cJ6_bitCount_0f7a4 41 = .ok (.iload_n 0, 1) := by decide +kernel
theorem dJ6_bitCount_0f7a4_42 : decode cJ6_bitCount_0f7a4 42 = .ok (.iload_n 0, 1) := by decide +kernel
theorem dJ6_bitCount_0f7a4_43 : decode cJ6_bitCount_0f7a4 43 = .ok (.bipush 16, 2) := by decide +kernel
theorem dJ6_bitCount_0f7a4_45 : decode cJ6_bitCount_0f7a4 45 = .ok (.iushr, 1) := by decide +kernel
theorem dJ6_bitCount_0f7a4_46 : decode cJ6_bitCount_0f7a4 46 = .ok (.iadd, 1) := by decide +kernel
theorem dJ6_bitCount_0f7a4_47 : decode cJ6_bitCount_0f7a4 47 = .ok (.istore_n 0, 1) := by decide +kernel
theorem dJ6_bitCount_0f7a4_48 : decode cJ6_bitCount_0f7a4 48 = .ok (.iload_n 0, 1) := by decide +kernel
theorem dJ6_bitCount_0f7a4_49 : decode cJ6_bitCount_0f7a4 49 = .ok (.bipush 63, 2) := by decide +kernel
theorem dJ6_bitCount_0f7a4_51 : decode cJ6_bitCount_0f7a4 51 = .ok (.iand, 1) := by decide +kernel
theorem dJ6_bitCount_0f7a4_52 : decode cJ6_bitCount_0f7a4 52 = .ok (.ireturn, 1) := by decide +kernel
theorem dJ9_max_7cf53_0 : decode cJ9_max_7cf53 0 = .ok (.iload_n 0, 1) := by decide +kernel
theorem dJ9_max_7cf53_1 : decode cJ9_max_7cf53 1 = .ok (.iload_n 1, 1) := by decide +kernel
theorem dJ9_max_7cf53_2 : decode cJ9_max_7cf53 2 = .ok (.if_icmp .lt 7, 3) := by decide +kernel
theorem dJ9_max_7cf53_5 : decode cJ9_max_7cf53 5 = .ok (.iload_n 0, 1) := by decide +kernel
theorem dJ9_max_7cf53_6 : decode cJ9_max_7cf53 6 = .ok (.goto 4, 3) := by decide +kernel
theorem dJ9_max_7cf53_9 : decode cJ9_max_7cf53 9 = .ok (.iload_n 1, 1) := by decide +kernel
theorem dJ9_max_7cf53_10 : decode cJ9_max_7cf53 10 = .ok (.ireturn, 1) := by decide +kernel
theorem dJ9_min_7cf53_0 : decode cJ9_min_7cf53 0 = .ok (.iload_n 0, 1) := by decide +kernel
theorem dJ9_min_7cf53_1 : decode cJ9_min_7cf53 1 = .ok (.iload_n 1, 1) := by decide +kernel
theorem dJ9_min_7cf53_2 : decode cJ9_min_7cf53 2 = .ok (.if_icmp .gt 7, 3) := by decide +kernel
theorem dJ9_min_7cf53_5 : decode cJ9_min_7cf53 5 = .ok (.iload_n 0, 1) := by decide +kernel
theorem dJ9_min_7cf53_6 : decode cJ9_min_7cf53 6 = .ok (.goto 4, 3) := by decide +kernel
theorem dJ9_min_7cf53_9 : decode cJ9_min_7cf53 9 = .ok (.iload_n 1, 1) := by decide +kernel
theorem dJ9_min_7cf53_10 : decode cJ9_min_7cf53 10 = .ok (.ireturn, 1) := by decide +kernel
theorem dJ0_length_8abf5_0 : decode cJ0_length_8abf5 0 = .ok (.aload_n 0, 1) := by decide +kernel
theorem dJ0_length_8abf5_1 : decode cJ0_length_8abf5 1 = .ok (.getfield 9, 3) := by decide +kernel
theorem dJ0_length_8abf5_4 : decode cJ0_length_8abf5 4 = .ok (.arraylength, 1) := by decide +kernel
theorem dJ0_length_8abf5_5 : decode cJ0_length_8abf5 5 = .ok (.aload_n 0, 1) := by decide +kernel
theorem dJ0_length_8abf5_6 : decode cJ0_length_8abf5 6 = .ok (.invokevirtual 335, 3) := by decide +kernel
theorem dJ0_length_8abf5_9 : decode cJ0_length_8abf5 9 = .ok (.ishr, 1) := by decide +kernel
theorem dJ0_length_8abf5_10 : decode cJ0_length_8abf5 10 = .ok (.ireturn, 1) := by decide +kernel
theorem dJ0_charAt_5068e_0 : decode cJ0_charAt_5068e 0 = .ok (.aload_n 0, 1) := by decide +kernel
theorem dJ0_charAt_5068e_1 : decode cJ0_charAt_5068e 1 = .ok (.invokevirtual 492, 3) := by decide +kernel
theorem dJ0_charAt_5068e_4 : decode cJ0_charAt_5068e 4 = .ok (.ifCond .eq 12, 3) := by decide +kernel
theorem dJ0_charAt_5068e_7 : decode cJ0_charAt_5068e 7 = .ok (.aload_n 0, 1) := by decide +kernel
theorem dJ0_charAt_5068e_8 : decode cJ0_charAt_5068e 8 = .ok (.getfield 9, 3) := by decide +kernel
theorem dJ0_charAt_5068e_11 : decode cJ0_charAt_5068e 11 = .ok (.iload_n 1, 1) := by decide +kernel
theorem dJ0_charAt_5068e_12 : decode cJ0_charAt_5068e 12 = .ok (.invokestatic 495, 3) := by decide +kernel
theorem dJ0_charAt_5068e_15 : decode cJ0_charAt_5068e 15 = .ok (.ireturn, 1) := by decide +kernel
theorem dJ0_charAt_5068e_16 : decode cJ0_charAt_5068e 16 = .ok (.aload_n 0, 1) := by decide +kernel
theorem dJ0_charAt_5068e_17 : decode cJ0_charAt_5068e 17 = .ok (.getfield 9, 3) := by decide +kernel
theorem dJ0_charAt_5068e_20 : decode cJ0_charAt_5068e 20 = .ok (.iload_n 1, 1) := by decide +kernel
theorem dJ0_charAt_5068e_21 : decode cJ0_charAt_5068e 21 = .ok (.invokestatic 498, 3) := by decide +kernel
theorem dJ0_charAt_5068e_24 : decode cJ0_charAt_5068e 24 = .ok (.ireturn, 1) := by decide +kernel
theorem dJ0_coder_7d493_0 : decode cJ0_coder_7d493 0 = .ok (.getstatic 38, 3) := by decide +kernel
theorem dJ0_coder_7d493_3 : decode cJ0_coder_7d493 3 = .ok (.ifCond .eq 10, 3) := by decide +kernel
theorem dJ0_coder_7d493_6 : decode cJ0_coder_7d493 6 = .ok (.aload_n 0, 1) := by decide +kernel
theorem dJ0_coder_7d493_7 : decode cJ0_coder_7d493 7 = .ok (.getfield 15, 3) := by decide +kernel
theorem dJ0_coder_7d493_10 : decode cJ0_coder_7d493 10 = .ok (.goto 4, 3) := by decide +kernel
theorem dJ0_coder_7d493_13 : decode cJ0_coder_7d493 13 = .ok (.iconst 1, 1) := by decide +kernel
theorem dJ0_coder_7d493_14 : decode cJ0_coder_7d493 14 = .ok (.ireturn, 1) := by decide +kernel
theorem dJ0_isLatin1_aae02_0 : decode cJ0_isLatin1_aae02 0 = .ok (.getstatic 38, 3) := by decide +kernel
theorem dJ0_isLatin1_aae02_3 : decode cJ0_isLatin1_aae02 3 = .ok (.ifCond .eq 14, 3) := by decide +kernel
theorem dJ0_isLatin1_aae02_6 : decode cJ0_isLatin1_aae02 6 = .ok (.aload_n 0, 1) := by decide +kernel
theorem dJ0_isLatin1_aae02_7 : decode cJ0_isLatin1_aae02 7 = .ok (.getfield 15, 3) := by decide +kernel
theorem dJ0_isLatin1_aae02_10 : decode cJ0_isLatin1_aae02 10 = .ok (.ifCond .ne 7, 3) := by decide +kernel
theorem dJ0_isLatin1_aae02_13 : decode cJ0_isLatin1_aae02 13 = .ok (.iconst 1, 1) := by decide +kernel
theorem dJ0_isLatin1_aae02_14 : decode cJ0_isLatin1_aae02 14 = .ok (.goto 4, 3) := by decide +kernel
theorem dJ0_isLatin1_aae02_17 : decode cJ0_isLatin1_aae02 17 = .ok (.iconst 0, 1) := by decide +kernel
theorem dJ0_isLatin1_aae02_18 : decode cJ0_isLatin1_aae02 18 = .ok (.ireturn, 1) := by decide +kernel
theorem dJ0_checkIndex_df160_0 : decode cJ0_checkIndex_df160 0 = .ok (.iload_n 0, 1) := by decide +kernel
theorem dJ0_checkIndex_df160_1 : decode cJ0_checkIndex_df160 1 = .ok (.iload_n 1, 1) := by decide +kernel
theorem dJ0_checkIndex_df160_2 : decode cJ0_checkIndex_df160 2 = .ok (.getstatic 1053, 3) := by decide +kernel
theorem dJ0_checkIndex_df160_5 : decode cJ0_checkIndex_df160 5 = .ok (.invokestatic 1059, 3) := by decide +kernel
theorem dJ0_checkIndex_df160_8 : decode cJ0_checkIndex_df160 8 = .ok (.pop, 1) := by decide +kernel
theorem dJ0_checkIndex_df160_9 : decode cJ0_checkIndex_df160 9 = .ok (.return_, 1) := by decide +kernel
theorem dJ1_charAt_3b067_0 : decode cJ1_charAt_3b067 0 = .ok (.iload_n 1, 1) := by decide +kernel
theorem dJ1_charAt_3b067_1 : decode cJ1_charAt_3b067 1 = .ok (.aload_n 0, 1) := by decide +kernel
theorem dJ1_charAt_3b067_2 : decode cJ1_charAt_3b067 2 = .ok (.arraylength, 1) := by decide +kernel
theorem dJ1_charAt_3b067_3 : decode cJ1_charAt_3b067 3 = .ok (.invokestatic 9, 3) := by decide +kernel
theorem dJ1_charAt_3b067_6 : decode cJ1_charAt_3b067 6 = .ok (.aload_n 0, 1) := by decide +kernel
theorem dJ1_charAt_3b067_7 : decode cJ1_charAt_3b067 7 = .ok (.iload_n 1, 1) := by decide +kernel
theorem dJ1_charAt_3b067_8 : decode cJ1_charAt_3b067 8 = .ok (.baload, 1) := by decide +kernel
theorem dJ1_charAt_3b067_9 : decode cJ1_charAt_3b067 9 = .ok (.sipush 255, 3) := by decide +kernel
theorem dJ1_charAt_3b067_12 : decode cJ1_charAt_3b067 12 = .ok (.iand, 1) := by decide +kernel
theorem dJ1_charAt_3b067_13 : decode cJ1_charAt_3b067 13 = .ok (.i2c, 1) := by decide +kernel
theorem dJ1_charAt_3b067_14 : decode cJ1_charAt_3b067 14 = .ok (.ireturn, 1) := by decide +kernel
theorem dJ2_getChar_3b067_0 : decode cJ2_getChar_3b067 0 = .ok (.getstatic 44, 3) := by decide +kernel
theorem dJ2_getChar_3b067_3 : decode cJ2_getChar_3b067 3 = .ok (.ifCond .ne 25, 3) := by decide +kernel
theorem dJ2_getChar_3b067_6 : decode cJ2_getChar_3b067 6 = .ok (.iload_n 1, 1) := by decide +kernel
theorem dJ2_getChar_3b067_7 : decode cJ2_getChar_3b067 7 = .ok (.ifCond .lt 11, 3) := by decide +kernel
theorem dJ2_getChar_3b067_10 : decode cJ2_getChar_3b067 10 = .ok (.iload_n 1, 1) := by decide +kernel
theorem dJ2_getChar_3b067_11 : decode cJ2_getChar_3b067 11 = .ok (.aload_n 0, 1) := by decide +kernel
theorem dJ2_getChar_3b067_12 : decode cJ2_getChar_3b067 12 = .ok (.invokestatic 48, 3) := by decide +kernel
theorem dJ2_getChar_3b067_15 : decode cJ2_getChar_3b067 15 = .ok (.if_icmp .lt 13, 3) := by decide +kernel
theorem dJ2_getChar_3b067_18 : decode cJ2_getChar_3b067 18 = .ok (.new 52, 3) := by decide +kernel
theorem dJ2_getChar_3b067_21 : decode cJ2_getChar_3b067 21 = .ok (.dup, 1) := by decide +kernel
theorem dJ2_getChar_3b067_22 : decode cJ2_getChar_3b067 22 = .ok (.ldc 54, 2) := by decide +kernel
theorem dJ2_getChar_3b067_24 : decode cJ2_getChar_3b067 24 = .ok (.invokespecial 56, 3) := by decide +kernel
theorem dJ2_getChar_3b067_27 : decode cJ2_getChar_3b067 27 = .ok (.athrow, 1) := by decide +kernel
theorem dJ2_getChar_3b067_28 : decode cJ2_getChar_3b067 28 = .ok (.iload_n 1, 1) := by decide +kernel
theorem dJ2_getChar_3b067_29 : decode cJ2_getChar_3b067 29 = .ok (.iconst 1, 1) := by decide +kernel
theorem dJ2_getChar_3b067_30 : decode cJ2_getChar_3b067 30 = .ok (.ishl, 1) := by decide +kernel
theorem dJ2_getChar_3b067_31 : decode cJ2_getChar_3b067 31 = .ok (.istore_n 1, 1) := by decide +kernel
theorem dJ2_getChar_3b067_32 : decode cJ2_getChar_3b067 32 = .ok (.aload_n 0, 1) := by decide +kernel
theorem dJ2_getChar_3b067_33 : decode cJ2_getChar_3b067 33 = .ok (.iload_n 1, 1) := by decide +kernel
theorem dJ2_getChar_3b067_34 : decode cJ2_getChar_3b067 34 = .ok (.iinc 1 1, 3) := by decide +kernel
theorem dJ2_getChar_3b067_37 : decode cJ2_getChar_3b067 37 = .ok (.baload, 1) := by decide +kernel
theorem dJ2_getChar_3b067_38 : decode cJ2_getChar_3b067 38 = .ok (.sipush 255, 3) := by decide +kernel
theorem dJ2_getChar_3b067_41 : decode cJ2_getChar_3b067 41 = .ok (.iand, 1) := by decide +kernel
theorem dJ2_getChar_3b067_42 : decode cJ2_getChar_3b067 42 = .ok (.getstatic 59, 3) := by decide +kernel
theorem dJ2_getChar_3b067_45 : decode cJ2_getChar_3b067 45 = .ok (.ishl, 1) := by decide +kernel
theorem dJ2_getChar_3b067_46 : decode cJ2_getChar_3b067 46 = .ok (.aload_n 0, 1) := by decide +kernel
theorem dJ2_getChar_3b067_47 : decode cJ2_getChar_3b067 47 = .ok (.iload_n 1, 1) := by decide +kernel
theorem dJ2_getChar_3b067_48 : decode cJ2_getChar_3b067 48 = .ok (.baload, 1) := by decide +kernel
theorem dJ2_getChar_3b067_49 : decode cJ2_getChar_3b067 49 = .ok (.sipush 255, 3) := by decide +kernel
theorem dJ2_getChar_3b067_52 : decode cJ2_getChar_3b067 52 = .ok (.iand, 1) := by decide +kernel
theorem dJ2_getChar_3b067_53 : decode cJ2_getChar_3b067 53 = .ok (.getstatic 63, 3) := by decide +kernel
theorem dJ2_getChar_3b067_56 : decode cJ2_getChar_3b067 56 = .ok (.ishl, 1) := by decide +kernel
theorem dJ2_getChar_3b067_57 : decode cJ2_getChar_3b067 57 = .ok (.ior, 1) := by decide +kernel
theorem dJ2_getChar_3b067_58 : decode cJ2_getChar_3b067 58 = .ok (.i2c, 1) := by decide +kernel
theorem dJ2_getChar_3b067_59 : decode cJ2_getChar_3b067 59 = .ok (.ireturn, 1) := by decide +kernel
theorem dJ2_length_9d52b_0 : decode cJ2_length_9d52b 0 = .ok (.aload_n 0, 1) := by decide +kernel
theorem dJ2_length_9d52b_1 : decode cJ2_length_9d52b 1 = .ok (.arraylength, 1) := by decide +kernel
theorem dJ2_length_9d52b_2 : decode cJ2_length_9d52b 2 = .ok (.iconst 1, 1) := by decide +kernel
theorem dJ2_length_9d52b_3 : decode cJ2_length_9d52b 3 = .ok (.ishr, 1) := by decide +kernel
theorem dJ2_length_9d52b_4 : decode cJ2_length_9d52b 4 = .ok (.ireturn, 1) := by decide +kernel
theorem dJ2_charAt_3b067_0 : decode cJ2_charAt_3b067 0 = .ok (.iload_n 1, 1) := by decide +kernel
theorem dJ2_charAt_3b067_1 : decode cJ2_charAt_3b067 1 = .ok (.aload_n 0, 1) := by decide +kernel
theorem dJ2_charAt_3b067_2 : decode cJ2_charAt_3b067 2 = .ok (.invokestatic 67, 3) := by decide +kernel
theorem dJ2_charAt_3b067_5 : decode cJ2_charAt_3b067 5 = .ok (.aload_n 0, 1) := by decide +kernel
theorem dJ2_charAt_3b067_6 : decode cJ2_charAt_3b067 6 = .ok (.iload_n 1, 1) := by decide +kernel
theorem dJ2_charAt_3b067_7 : decode cJ2_charAt_3b067 7 = .ok (.invokestatic 71, 3) := by decide +kernel
theorem dJ2_charAt_3b067_10 : decode cJ2_charAt_3b067 10 = .ok (.ireturn, 1) := by decide +kernel
theorem dJ2_checkIndex_2214a_0 : decode cJ2_checkIndex_2214a 0 = .ok (.iload_n 0, 1) := by decide +kernel
theorem dJ2_checkIndex_2214a_1 : decode cJ2_checkIndex_2214a 1 = .ok (.aload_n 1, 1) := by decide +kernel
theorem dJ2_checkIndex_2214a_2 : decode cJ2_checkIndex_2214a 2 = .ok (.invokestatic 48, 3) := by decide +kernel
theorem dJ2_checkIndex_2214a_5 : decode cJ2_checkIndex_2214a 5 = .ok (.invokestatic 414, 3) := by decide +kernel
theorem dJ2_checkIndex_2214a_8 : decode cJ2_checkIndex_2214a 8 = .ok (.return_, 1) := by decide +kernel
theorem dJ3_checkIndex_8e157_0 : decode cJ3_checkIndex_8e157 0 = .ok (.iload_n 0, 1) := by decide +kernel
theorem dJ3_checkIndex_8e157_1 : decode cJ3_checkIndex_8e157 1 = .ok (.ifCond .lt 8, 3) := by decide +kernel
theorem dJ3_checkIndex_8e157_4 : decode cJ3_checkIndex_8e157 4 = .ok (.iload_n 0, 1) := by decide +kernel
theorem dJ3_checkIndex_8e157_5 : decode cJ3_checkIndex_8e157 5 = .ok (.iload_n 1, 1) := by decide +kernel
theorem dJ3_checkIndex_8e157_6 : decode cJ3_checkIndex_8e157 6 = .ok (.if_icmp .lt 10, 3) := by decide +kernel
theorem dJ3_checkIndex_8e157_9 : decode cJ3_checkIndex_8e157 9 = .ok (.aload_n 2, 1) := by decide +kernel
theorem dJ3_checkIndex_8e157_10 : decode cJ3_checkIndex_8e157 10 = .ok (.iload_n 0, 1) := by decide +kernel
theorem dJ3_checkIndex_8e157_11 : decode cJ3_checkIndex_8e157 11 = .ok (.iload_n 1, 1) := by decide +kernel
theorem dJ3_checkIndex_8e157_12 : decode cJ3_checkIndex_8e157 12 = .ok (.invokestatic 95, 3) := by decide +kernel
theorem dJ3_checkIndex_8e157_15 : decode cJ3_checkIndex_8e157 15 = .ok (.athrow, 1) := by decide +kernel
theorem dJ3_checkIndex_8e157_16 : decode cJ3_checkIndex_8e157 16 = .ok (.iload_n 0, 1) := by decide +kernel
theorem dJ3_checkIndex_8e157_17 : decode cJ3_checkIndex_8e157 17 = .ok (.ireturn, 1) := by decide +kernel
theorem dL_law_0 : decode cL_law 0 = .ok (.new 7, 3) := by decide +kernel
theorem dL_law_3 : decode cL_law 3 = .ok (.dup, 1) := by decide +kernel
theorem dL_law_4 : decode cL_law 4 = .ok (.invokespecial 9, 3) := by decide +kernel
theorem dL_law_7 : decode cL_law 7 = .ok (.astore_n 1, 1) := by decide +kernel
theorem dL_law_8 : decode cL_law 8 = .ok (.new 10, 3) := by decide +kernel
theorem dL_law_11 : decode cL_law 11 = .ok (.dup, 1) := by decide +kernel
theorem dL_law_12 : decode cL_law 12 = .ok (.invokespecial 12, 3) := by decide +kernel
theorem dL_law_15 : decode cL_law 15 = .ok (.astore_n 2, 1) := by decide +kernel
theorem dL_law_16 : decode cL_law 16 = .ok (.iconst 0, 1) := by decide +kernel
theorem dL_law_17 : decode cL_law 17 = .ok (.istore_n 3, 1) := by decide +kernel
theorem dL_law_18 : decode cL_law 18 = .ok (.iload_n 3, 1) := by decide +kernel
theorem dL_law_19 : decode cL_law 19 = .ok (.aload_n 0, 1) := by decide +kernel
theorem dL_law_20 : decode cL_law 20 = .ok (.arraylength, 1) := by decide +kernel
theorem dL_law_21 : decode cL_law 21 = .ok (.iconst 5, 1) := by decide +kernel
theorem dL_law_22 : decode cL_law 22 = .ok (.isub, 1) := by decide +kernel
theorem dL_law_23 : decode cL_law 23 = .ok (.if_icmp .gt 1195, 3) := by decide +kernel
theorem dL_law_26 : decode cL_law 26 = .ok (.aload_n 0, 1) := by decide +kernel
theorem dL_law_27 : decode cL_law 27 = .ok (.iload_n 3, 1) := by decide +kernel
theorem dL_law_28 : decode cL_law 28 = .ok (.iaload, 1) := by decide +kernel
theorem dL_law_29 : decode cL_law 29 = .ok (.bipush 63, 2) := by decide +kernel
theorem dL_law_31 : decode cL_law 31 = .ok (.iand, 1) := by decide +kernel
theorem dL_law_32 : decode cL_law 32 = .ok (.tableswitch 1180 0 35 #[160, 173, 216, 239, 262, 275, 288, 311, 334, 367, 390, 403, 436, 469, 502, 535, 568, 621, 654, 697, 730, 783, 836, 859, 882, 905, 928, 951, 974, 1017, 1050, 1074, 1097, 1120, 1143, 1166], 160) := by decide +kernel
theorem dL_law_192 : decode cL_law 192 = .ok (.aload_n 1, 1) := by decide +kernel
theorem dL_law_193 : decode cL_law 193 = .ok (.invokevirtual 13, 3) := by decide +kernel
theorem dL_law_196 : decode cL_law 196 = .ok (.aload_n 2, 1) := by decide +kernel
theorem dL_law_197 : decode cL_law 197 = .ok (.invokevirtual 17, 3) := by decide +kernel
theorem dL_law_200 : decode cL_law 200 = .ok (.if_icmp .eq 1012, 3) := by decide +kernel
theorem dL_law_203 : decode cL_law 203 = .ok (.iconst 0, 1) := by decide +kernel
theorem dL_law_204 : decode cL_law 204 = .ok (.ireturn, 1) := by decide +kernel
theorem dL_law_205 : decode cL_law 205 = .ok (.aload_n 1, 1) := by decide +kernel
theorem dL_law_206 : decode cL_law 206 = .ok (.aload_n 0, 1) := by decide +kernel
theorem dL_law_207 : decode cL_law 207 = .ok (.iload_n 3, 1) := by decide +kernel
theorem dL_law_208 : decode cL_law 208 = .ok (.iconst 1, 1) := by decide +kernel
theorem dL_law_209 : decode cL_law 209 = .ok (.iadd, 1) := by decide +kernel
theorem dL_law_210 : decode cL_law 210 = .ok (.iaload, 1) := by decide +kernel
theorem dL_law_211 : decode cL_law 211 = .ok (.aload_n 0, 1) := by decide +kernel
theorem dL_law_212 : decode cL_law 212 = .ok (.iload_n 3, 1) := by decide +kernel
theorem dL_law_213 : decode cL_law 213 = .ok (.iconst 2, 1) := by decide +kernel
theorem dL_law_214 : decode cL_law 214 = .ok (.iadd, 1) := by decide +kernel
theorem dL_law_215 : decode cL_law 215 = .ok (.iaload, 1) := by decide +kernel
theorem dL_law_216 : decode cL_law 216 = .ok (.aload_n 0, 1) := by decide +kernel
theorem dL_law_217 : decode cL_law 217 = .ok (.iload_n 3, 1) := by decide +kernel
theorem dL_law_218 : decode cL_law 218 = .ok (.iconst 3, 1) := by decide +kernel
theorem dL_law_219 : decode cL_law 219 = .ok (.iadd, 1) := by decide +kernel
theorem dL_law_220 : decode cL_law 220 = .ok (.iaload, 1) := by decide +kernel
theorem dL_law_221 : decode cL_law 221 = .ok (.invokevirtual 18, 3) := by decide +kernel
theorem dL_law_224 : decode cL_law 224 = .ok (.aload_n 2, 1) := by decide +kernel
theorem dL_law_225 : decode cL_law 225 = .ok (.aload_n 0, 1) := by decide +kernel
theorem dL_law_226 : decode cL_law 226 = .ok (.iload_n 3, 1) := by decide +kernel
theorem dL_law_227 : decode cL_law 227 = .ok (.iconst 1, 1) := by decide +kernel
theorem dL_law_228 : decode cL_law 228 = .ok (.iadd, 1) := by decide +kernel
theorem dL_law_229 : decode cL_law 229 = .ok (.iaload, 1) := by decide +kernel
theorem dL_law_230 : decode cL_law 230 = .ok (.aload_n 0, 1) := by decide +kernel
theorem dL_law_231 : decode cL_law 231 = .ok (.iload_n 3, 1) := by decide +kernel
theorem dL_law_232 : decode cL_law 232 = .ok (.iconst 2, 1) := by decide +kernel
theorem dL_law_233 : decode cL_law 233 = .ok (.iadd, 1) := by decide +kernel
theorem dL_law_234 : decode cL_law 234 = .ok (.iaload, 1) := by decide +kernel
theorem dL_law_235 : decode cL_law 235 = .ok (.aload_n 0, 1) := by decide +kernel
theorem dL_law_236 : decode cL_law 236 = .ok (.iload_n 3, 1) := by decide +kernel
theorem dL_law_237 : decode cL_law 237 = .ok (.iconst 3, 1) := by decide +kernel
theorem dL_law_238 : decode cL_law 238 = .ok (.iadd, 1) := by decide +kernel
theorem dL_law_239 : decode cL_law 239 = .ok (.iaload, 1) := by decide +kernel
theorem dL_law_240 : decode cL_law 240 = .ok (.invokevirtual 22, 3) := by decide +kernel
theorem dL_law_243 : decode cL_law 243 = .ok (.if_icmp .eq 969, 3) := by decide +kernel
theorem dL_law_246 : decode cL_law 246 = .ok (.iconst 0, 1) := by decide +kernel
theorem dL_law_247 : decode cL_law 247 = .ok (.ireturn, 1) := by decide +kernel
theorem dL_law_248 : decode cL_law 248 = .ok (.aload_n 1, 1) := by decide +kernel
theorem dL_law_249 : decode cL_law 249 = .ok (.aload_n 0, 1) := by decide +kernel
theorem dL_law_250 : decode cL_law 250 = .ok (.iload_n 3, 1) := by decide +kernel
theorem dL_law_251 : decode cL_law 251 = .ok (.iconst 1, 1) := by decide +kernel
theorem dL_law_252 : decode cL_law 252 = .ok (.iadd, 1) := by decide +kernel
theorem dL_law_253 : decode cL_law 253 = .ok (.iaload, 1) := by decide +kernel
theorem dL_law_254 : decode cL_law 254 = .ok (.invokevirtual 23, 3) := by decide +kernel
theorem dL_law_257 : decode cL_law 257 = .ok (.aload_n 2, 1) := by decide +kernel
theorem dL_law_258 : decode cL_law 258 = .ok (.aload_n 0, 1) := by decide +kernel
theorem dL_law_259 : decode cL_law 259 = .ok (.iload_n 3, 1) := by decide +kernel
theorem dL_law_260 : decode cL_law 260 = .ok (.iconst 1, 1) := by decide +kernel
theorem dL_law_261 : decode cL_law 261 = .ok (.iadd, 1) := by decide +kernel
theorem dL_law_262 : decode cL_law 262 = .ok (.iaload, 1) := by decide +kernel
theorem dL_law_263 : decode cL_law 263 = .ok (.invokevirtual 27, 3) := by decide +kernel
theorem dL_law_266 : decode cL_law 266 = .ok (.if_icmp .eq 946, 3) := by decide +kernel
theorem dL_law_269 : decode cL_law 269 = .ok (.iconst 0, 1) := by decide +kernel
theorem dL_law_270 : decode cL_law 270 = .ok (.ireturn, 1) := by decide +kernel
theorem dL_law_271 : decode cL_law 271 = .ok (.aload_n 1, 1) := by decide +kernel
theorem dL_law_272 : decode cL_law 272 = .ok (.aload_n 0, 1) := by decide +kernel
theorem dL_law_273 : decode cL_law 273 = .ok (.iload_n 3, 1) := by decide +kernel
theorem dL_law_274 : decode cL_law 274 = .ok (.iconst 1, 1) := by decide +kernel
theorem dL_law_275 : decode cL_law 275 = .ok (.iadd, 1) := by decide +kernel
theorem dL_law_276 : decode cL_law 276 = .ok (.iaload, 1) := by decide +kernel
theorem dL_law_277 : decode cL_law 277 = .ok (.invokevirtual 28, 3) := by decide +kernel
theorem dL_law_280 : decode cL_law 280 = .ok (.aload_n 2, 1) := by decide +kernel
theorem dL_law_281 : decode cL_law 281 = .ok (.aload_n 0, 1) := by decide +kernel
theorem dL_law_282 : decode cL_law 282 = .ok (.iload_n 3, 1) := by decide +kernel
theorem dL_law_283 : decode cL_law 283 = .ok (.iconst 1, 1) := by decide +kernel
theorem dL_law_284 : decode cL_law 284 = .ok (.iadd, 1) := by decide +kernel
theorem dL_law_285 : decode cL_law 285 = .ok (.iaload, 1) := by decide +kernel
theorem dL_law_286 : decode cL_law 286 = .ok (.invokevirtual 31, 3) := by decide +kernel
theorem dL_law_289 : decode cL_law 289 = .ok (.if_icmp .eq 923, 3) := by decide +kernel
theorem dL_law_292 : decode cL_law 292 = .ok (.iconst 0, 1) := by decide +kernel
theorem dL_law_293 : decode cL_law 293 = .ok (.ireturn, 1) := by decide +kernel
theorem dL_law_294 : decode cL_law 294 = .ok (.aload_n 1, 1) := by decide +kernel
theorem dL_law_295 : decode cL_law 295 = .ok (.invokevirtual 32, 3) := by decide +kernel
theorem dL_law_298 : decode cL_law 298 = .ok (.aload_n 2, 1) := by decide +kernel
theorem dL_law_299 : decode cL_law 299 = .ok (.invokevirtual 35, 3) := by decide +kernel
theorem dL_law_302 : decode cL_law 302 = .ok (.if_icmp .eq 910, 3) := by decide +kernel
theorem dL_law_305 : decode cL_law 305 = .ok (.iconst 0, 1) := by decide +kernel
theorem dL_law_306 : decode cL_law 306 = .ok (.ireturn, 1) := by decide +kernel
theorem dL_law_307 : decode cL_law 307 = .ok (.aload_n 1, 1) := by decide +kernel
theorem dL_law_308 : decode cL_law 308 = .ok (.invokevirtual 36, 3) := by decide +kernel
theorem dL_law_311 : decode cL_law 311 = .ok (.aload_n 2, 1) := by decide +kernel
theorem dL_law_312 : decode cL_law 312 = .ok (.invokevirtual 39, 3) := by decide +kernel
theorem dL_law_315 : decode cL_law 315 = .ok (.if_icmp .eq 897, 3) := by decide +kernel
theorem dL_law_318 : decode cL_law 318 = .ok (.iconst 0, 1) := by decide +kernel
theorem dL_law_319 : decode cL_law 319 = .ok (.ireturn, 1) := by decide +kernel
theorem dL_law_320 : decode cL_law 320 = .ok (.aload_n 1, 1) := by decide +kernel
theorem dL_law_321 : decode cL_law 321 = .ok (.aload_n 0, 1) := by decide +kernel
theorem dL_law_322 : decode cL_law 322 = .ok (.iload_n 3, 1) := by decide +kernel
theorem dL_law_323 : decode cL_law 323 = .ok (.iconst 1, 1) := by decide +kernel
theorem dL_law_324 : decode cL_law 324 = .ok (.iadd, 1) := by decide +kernel
theorem dL_law_325 : decode cL_law 325 = .ok (.iaload, 1) := by decide +kernel
theorem dL_law_326 : decode cL_law 326 = .ok (.invokevirtual 40, 3) := by decide +kernel
theorem dL_law_329 : decode cL_law 329 = .ok (.aload_n 2, 1) := by decide +kernel
theorem dL_law_330 : decode cL_law 330 = .ok (.aload_n 0, 1) := by decide +kernel
theorem dL_law_331 : decode cL_law 331 = .ok (.iload_n 3, 1) := by decide +kernel
theorem dL_law_332 : decode cL_law 332 = .ok (.iconst 1, 1) := by decide +kernel
theorem dL_law_333 : decode cL_law 333 = .ok (.iadd, 1) := by decide +kernel
theorem dL_law_334 : decode cL_law 334 = .ok (.iaload, 1) := by decide +kernel
theorem dL_law_335 : decode cL_law 335 = .ok (.invokevirtual 43, 3) := by decide +kernel
theorem dL_law_338 : decode cL_law 338 = .ok (.if_icmp .eq 874, 3) := by decide +kernel
theorem dL_law_341 : decode cL_law 341 = .ok (.iconst 0, 1) := by decide +kernel
theorem dL_law_342 : decode cL_law 342 = .ok (.ireturn, 1) := by decide +kernel
theorem dL_law_343 : decode cL_law 343 = .ok (.aload_n 1, 1) := by decide +kernel
theorem dL_law_344 : decode cL_law 344 = .ok (.aload_n 0, 1) := by decide +kernel
theorem dL_law_345 : decode cL_law 345 = .ok (.iload_n 3, 1) := by decide +kernel
theorem dL_law_346 : decode cL_law 346 = .ok (.iconst 1, 1) := by decide +kernel
theorem dL_law_347 : decode cL_law 347 = .ok (.iadd, 1) := by decide +kernel
theorem dL_law_348 : decode cL_law 348 = .ok (.iaload, 1) := by decide +kernel
theorem dL_law_349 : decode cL_law 349 = .ok (.invokevirtual 44, 3) := by decide +kernel
theorem dL_law_352 : decode cL_law 352 = .ok (.aload_n 2, 1) := by decide +kernel
theorem dL_law_353 : decode cL_law 353 = .ok (.aload_n 0, 1) := by decide +kernel
theorem dL_law_354 : decode cL_law 354 = .ok (.iload_n 3, 1) := by decide +kernel
theorem dL_law_355 : decode cL_law 355 = .ok (.iconst 1, 1) := by decide +kernel
theorem dL_law_356 : decode cL_law 356 = .ok (.iadd, 1) := by decide +kernel
theorem dL_law_357 : decode cL_law 357 = .ok (.iaload, 1) := by decide +kernel
theorem dL_law_358 : decode cL_law 358 = .ok (.invokevirtual 47, 3) := by decide +kernel
theorem dL_law_361 : decode cL_law 361 = .ok (.if_icmp .eq 851, 3) := by decide +kernel
theorem dL_law_364 : decode cL_law 364 = .ok (.iconst 0, 1) := by decide +kernel
theorem dL_law_365 : decode cL_law 365 = .ok (.ireturn, 1) := by decide +kernel
theorem dL_law_366 : decode cL_law 366 = .ok (.aload_n 1, 1) := by decide +kernel
theorem dL_law_367 : decode cL_law 367 = .ok (.aload_n 0, 1) := by decide +kernel
theorem dL_law_368 : decode cL_law 368 = .ok (.iload_n 3, 1) := by decide +kernel
theorem dL_law_369 : decode cL_law 369 = .ok (.iconst 1, 1) := by decide +kernel
theorem dL_law_370 : decode cL_law 370 = .ok (.iadd, 1) := by decide +kernel
theorem dL_law_371 : decode cL_law 371 = .ok (.iaload, 1) := by decide +kernel
theorem dL_law_372 : decode cL_law 372 = .ok (.aload_n 0, 1) := by decide +kernel
theorem dL_law_373 : decode cL_law 373 = .ok (.iload_n 3, 1) := by decide +kernel
theorem dL_law_374 : decode cL_law 374 = .ok (.iconst 2, 1) := by decide +kernel
theorem dL_law_375 : decode cL_law 375 = .ok (.iadd, 1) := by decide +kernel
theorem dL_law_376 : decode cL_law 376 = .ok (.iaload, 1) := by decide +kernel
theorem dL_law_377 : decode cL_law 377 = .ok (.invokevirtual 48, 3) := by decide +kernel
theorem dL_law_380 : decode cL_law 380 = .ok (.aload_n 2, 1) := by decide +kernel
theorem dL_law_381 : decode cL_law 381 = .ok (.aload_n 0, 1) := by decide +kernel
theorem dL_law_382 : decode cL_law 382 = .ok (.iload_n 3, 1) := by decide +kernel
theorem dL_law_383 : decode cL_law 383 = .ok (.iconst 1, 1) := by decide +kernel
theorem dL_law_384 : decode cL_law 384 = .ok (.iadd, 1) := by decide +kernel
theorem dL_law_385 : decode cL_law 385 = .ok (.iaload, 1) := by decide +kernel
theorem dL_law_386 : decode cL_law 386 = .ok (.aload_n 0, 1) := by decide +kernel
theorem dL_law_387 : decode cL_law 387 = .ok (.iload_n 3, 1) := by decide +kernel
theorem dL_law_388 : decode cL_law 388 = .ok (.iconst 2, 1) := by decide +kernel
theorem dL_law_389 : decode cL_law 389 = .ok (.iadd, 1) := by decide +kernel
theorem dL_law_390 : decode cL_law 390 = .ok (.iaload, 1) := by decide +kernel
theorem dL_law_391 : decode cL_law 391 = .ok (.invokevirtual 52, 3) := by decide +kernel
theorem dL_law_394 : decode cL_law 394 = .ok (.if_icmp .eq 818, 3) := by decide +kernel
theorem dL_law_397 : decode cL_law 397 = .ok (.iconst 0, 1) := by decide +kernel
theorem dL_law_398 : decode cL_law 398 = .ok (.ireturn, 1) := by decide +kernel
theorem dL_law_399 : decode cL_law 399 = .ok (.aload_n 1, 1) := by decide +kernel
theorem dL_law_400 : decode cL_law 400 = .ok (.aload_n 0, 1) := by decide +kernel
theorem dL_law_401 : decode cL_law 401 = .ok (.iload_n 3, 1) := by decide +kernel
theorem dL_law_402 : decode cL_law 402 = .ok (.iconst 1, 1) := by decide +kernel
theorem dL_law_403 : decode cL_law 403 = .ok (.iadd, 1) := by decide +kernel
theorem dL_law_404 : decode cL_law 404 = .ok (.iaload, 1) := by decide +kernel
theorem dL_law_405 : decode cL_law 405 = .ok (.invokevirtual 53, 3) := by decide +kernel
theorem dL_law_408 : decode cL_law 408 = .ok (.aload_n 2, 1) := by decide +kernel
theorem dL_law_409 : decode cL_law 409 = .ok (.aload_n 0, 1) := by decide +kernel
theorem dL_law_410 : decode cL_law 410 = .ok (.iload_n 3, 1) := by decide +kernel
theorem dL_law_411 : decode cL_law 411 = .ok (.iconst 1, 1) := by decide +kernel
theorem dL_law_412 : decode cL_law 412 = .ok (.iadd, 1) := by decide +kernel
theorem dL_law_413 : decode cL_law 413 = .ok (.iaload, 1) := by decide +kernel
theorem dL_law_414 : decode cL_law 414 = .ok (.invokevirtual 56, 3) := by decide +kernel
theorem dL_law_417 : decode cL_law 417 = .ok (.if_icmp .eq 795, 3) := by decide +kernel
theorem dL_law_420 : decode cL_law 420 = .ok (.iconst 0, 1) := by decide +kernel
theorem dL_law_421 : decode cL_law 421 = .ok (.ireturn, 1) := by decide +kernel
theorem dL_law_422 : decode cL_law 422 = .ok (.aload_n 1, 1) := by decide +kernel
theorem dL_law_423 : decode cL_law 423 = .ok (.invokevirtual 57, 3) := by decide +kernel
theorem dL_law_426 : decode cL_law 426 = .ok (.aload_n 2, 1) := by decide +kernel
theorem dL_law_427 : decode cL_law 427 = .ok (.invokevirtual 60, 3) := by decide +kernel
theorem dL_law_430 : decode cL_law 430 = .ok (.if_icmp .eq 782, 3) := by decide +kernel
theorem dL_law_433 : decode cL_law 433 = .ok (.iconst 0, 1) := by decide +kernel
theorem dL_law_434 : decode cL_law 434 = .ok (.ireturn, 1) := by decide +kernel
theorem dL_law_435 : decode cL_law 435 = .ok (.aload_n 1, 1) := by decide +kernel
theorem dL_law_436 : decode cL_law 436 = .ok (.aload_n 0, 1) := by decide +kernel
theorem dL_law_437 : decode cL_law 437 = .ok (.iload_n 3, 1) := by decide +kernel
theorem dL_law_438 : decode cL_law 438 = .ok (.iconst 1, 1) := by decide +kernel
theorem dL_law_439 : decode cL_law 439 = .ok (.iadd, 1) := by decide +kernel
theorem dL_law_440 : decode cL_law 440 = .ok (.iaload, 1) := by decide +kernel
theorem dL_law_441 : decode cL_law 441 = .ok (.aload_n 0, 1) := by decide +kernel
theorem dL_law_442 : decode cL_law 442 = .ok (.iload_n 3, 1) := by decide +kernel
theorem dL_law_443 : decode cL_law 443 = .ok (.iconst 2, 1) := by decide +kernel
theorem dL_law_444 : decode cL_law 444 = .ok (.iadd, 1) := by decide +kernel
theorem dL_law_445 : decode cL_law 445 = .ok (.iaload, 1) := by decide +kernel
theorem dL_law_446 : decode cL_law 446 = .ok (.invokevirtual 61, 3) := by decide +kernel
theorem dL_law_449 : decode cL_law 449 = .ok (.aload_n 2, 1) := by decide +kernel
theorem dL_law_450 : decode cL_law 450 = .ok (.aload_n 0, 1) := by decide +kernel
theorem dL_law_451 : decode cL_law 451 = .ok (.iload_n 3, 1) := by decide +kernel
theorem dL_law_452 : decode cL_law 452 = .ok (.iconst 1, 1) := by decide +kernel
theorem dL_law_453 : decode cL_law 453 = .ok (.iadd, 1) := by decide +kernel
theorem dL_law_454 : decode cL_law 454 = .ok (.iaload, 1) := by decide +kernel
theorem dL_law_455 : decode cL_law 455 = .ok (.aload_n 0, 1) := by decide +kernel
theorem dL_law_456 : decode cL_law 456 = .ok (.iload_n 3, 1) := by decide +kernel
theorem dL_law_457 : decode cL_law 457 = .ok (.iconst 2, 1) := by decide +kernel
theorem dL_law_458 : decode cL_law 458 = .ok (.iadd, 1) := by decide +kernel
theorem dL_law_459 : decode cL_law 459 = .ok (.iaload, 1) := by decide +kernel
theorem dL_law_460 : decode cL_law 460 = .ok (.invokevirtual 64, 3) := by decide +kernel
theorem dL_law_463 : decode cL_law 463 = .ok (.if_icmp .eq 749, 3) := by decide +kernel
theorem dL_law_466 : decode cL_law 466 = .ok (.iconst 0, 1) := by decide +kernel
theorem dL_law_467 : decode cL_law 467 = .ok (.ireturn, 1) := by decide +kernel
theorem dL_law_468 : decode cL_law 468 = .ok (.aload_n 1, 1) := by decide +kernel
theorem dL_law_469 : decode cL_law 469 = .ok (.aload_n 0, 1) := by decide +kernel
theorem dL_law_470 : decode cL_law 470 = .ok (.iload_n 3, 1) := by decide +kernel
theorem dL_law_471 : decode cL_law 471 = .ok (.iconst 1, 1) := by decide +kernel
theorem dL_law_472 : decode cL_law 472 = .ok (.iadd, 1) := by decide +kernel
theorem dL_law_473 : decode cL_law 473 = .ok (.iaload, 1) := by decide +kernel
theorem dL_law_474 : decode cL_law 474 = .ok (.aload_n 0, 1) := by decide +kernel
theorem dL_law_475 : decode cL_law 475 = .ok (.iload_n 3, 1) := by decide +kernel
theorem dL_law_476 : decode cL_law 476 = .ok (.iconst 2, 1) := by decide +kernel
theorem dL_law_477 : decode cL_law 477 = .ok (.iadd, 1) := by decide +kernel
theorem dL_law_478 : decode cL_law 478 = .ok (.iaload, 1) := by decide +kernel
theorem dL_law_479 : decode cL_law 479 = .ok (.invokevirtual 65, 3) := by decide +kernel
theorem dL_law_482 : decode cL_law 482 = .ok (.aload_n 2, 1) := by decide +kernel
theorem dL_law_483 : decode cL_law 483 = .ok (.aload_n 0, 1) := by decide +kernel
theorem dL_law_484 : decode cL_law 484 = .ok (.iload_n 3, 1) := by decide +kernel
theorem dL_law_485 : decode cL_law 485 = .ok (.iconst 1, 1) := by decide +kernel
theorem dL_law_486 : decode cL_law 486 = .ok (.iadd, 1) := by decide +kernel
theorem dL_law_487 : decode cL_law 487 = .ok (.iaload, 1) := by decide +kernel
theorem dL_law_488 : decode cL_law 488 = .ok (.aload_n 0, 1) := by decide +kernel
theorem dL_law_489 : decode cL_law 489 = .ok (.iload_n 3, 1) := by decide +kernel
theorem dL_law_490 : decode cL_law 490 = .ok (.iconst 2, 1) := by decide +kernel
theorem dL_law_491 : decode cL_law 491 = .ok (.iadd, 1) := by decide +kernel
theorem dL_law_492 : decode cL_law 492 = .ok (.iaload, 1) := by decide +kernel
theorem dL_law_493 : decode cL_law 493 = .ok (.invokevirtual 68, 3) := by decide +kernel
theorem dL_law_496 : decode cL_law 496 = .ok (.if_icmp .eq 716, 3) := by decide +kernel
theorem dL_law_499 : decode cL_law 499 = .ok (.iconst 0, 1) := by decide +kernel
theorem dL_law_500 : decode cL_law 500 = .ok (.ireturn, 1) := by decide +kernel
theorem dL_law_501 : decode cL_law 501 = .ok (.aload_n 1, 1) := by decide +kernel
theorem dL_law_502 : decode cL_law 502 = .ok (.aload_n 0, 1) := by decide +kernel
theorem dL_law_503 : decode cL_law 503 = .ok (.iload_n 3, 1) := by decide +kernel
theorem dL_law_504 : decode cL_law 504 = .ok (.iconst 1, 1) := by decide +kernel
theorem dL_law_505 : decode cL_law 505 = .ok (.iadd, 1) := by decide +kernel
theorem dL_law_506 : decode cL_law 506 = .ok (.iaload, 1) := by decide +kernel
theorem dL_law_507 : decode cL_law 507 = .ok (.aload_n 0, 1) := by decide +kernel
theorem dL_law_508 : decode cL_law 508 = .ok (.iload_n 3, 1) := by decide +kernel
theorem dL_law_509 : decode cL_law 509 = .ok (.iconst 2, 1) := by decide +kernel
theorem dL_law_510 : decode cL_law 510 = .ok (.iadd, 1) := by decide +kernel
theorem dL_law_511 : decode cL_law 511 = .ok (.iaload, 1) := by decide +kernel
theorem dL_law_512 : decode cL_law 512 = .ok (.invokevirtual 69, 3) := by decide +kernel
theorem dL_law_515 : decode cL_law 515 = .ok (.aload_n 2, 1) := by decide +kernel
theorem dL_law_516 : decode cL_law 516 = .ok (.aload_n 0, 1) := by decide +kernel
theorem dL_law_517 : decode cL_law 517 = .ok (.iload_n 3, 1) := by decide +kernel
theorem dL_law_518 : decode cL_law 518 = .ok (.iconst 1, 1) := by decide +kernel
theorem dL_law_519 : decode cL_law 519 = .ok (.iadd, 1) := by decide +kernel
theorem dL_law_520 : decode cL_law 520 = .ok (.iaload, 1) := by decide +kernel
theorem dL_law_521 : decode cL_law 521 = .ok (.aload_n 0, 1) := by decide +kernel
theorem dL_law_522 : decode cL_law 522 = .ok (.iload_n 3, 1) := by decide +kernel
theorem dL_law_523 : decode cL_law 523 = .ok (.iconst 2, 1) := by decide +kernel
theorem dL_law_524 : decode cL_law 524 = .ok (.iadd, 1) := by decide +kernel
theorem dL_law_525 : decode cL_law 525 = .ok (.iaload, 1) := by decide +kernel
theorem dL_law_526 : decode cL_law 526 = .ok (.invokevirtual 72, 3) := by decide +kernel
theorem dL_law_529 : decode cL_law 529 = .ok (.if_icmp .eq 683, 3) := by decide +kernel
theorem dL_law_532 : decode cL_law 532 = .ok (.iconst 0, 1) := by decide +kernel
theorem dL_law_533 : decode cL_law 533 = .ok (.ireturn, 1) := by decide +kernel
theorem dL_law_534 : decode cL_law 534 = .ok (.aload_n 1, 1) := by decide +kernel
theorem dL_law_535 : decode cL_law 535 = .ok (.aload_n 0, 1) := by decide +kernel
theorem dL_law_536 : decode cL_law 536 = .ok (.iload_n 3, 1) := by decide +kernel
theorem dL_law_537 : decode cL_law 537 = .ok (.iconst 1, 1) := by decide +kernel
theorem dL_law_538 : decode cL_law 538 = .ok (.iadd, 1) := by decide +kernel
theorem dL_law_539 : decode cL_law 539 = .ok (.iaload, 1) := by decide +kernel
theorem dL_law_540 : decode cL_law 540 = .ok (.aload_n 0, 1) := by decide +kernel
theorem dL_law_541 : decode cL_law 541 = .ok (.iload_n 3, 1) := by decide +kernel
theorem dL_law_542 : decode cL_law 542 = .ok (.iconst 2, 1) := by decide +kernel
theorem dL_law_543 : decode cL_law 543 = .ok (.iadd, 1) := by decide +kernel
theorem dL_law_544 : decode cL_law 544 = .ok (.iaload, 1) := by decide +kernel
theorem dL_law_545 : decode cL_law 545 = .ok (.invokevirtual 73, 3) := by decide +kernel
theorem dL_law_548 : decode cL_law 548 = .ok (.aload_n 2, 1) := by decide +kernel
theorem dL_law_549 : decode cL_law 549 = .ok (.aload_n 0, 1) := by decide +kernel
theorem dL_law_550 : decode cL_law 550 = .ok (.iload_n 3, 1) := by decide +kernel
theorem dL_law_551 : decode cL_law 551 = .ok (.iconst 1, 1) := by decide +kernel
theorem dL_law_552 : decode cL_law 552 = .ok (.iadd, 1) := by decide +kernel
theorem dL_law_553 : decode cL_law 553 = .ok (.iaload, 1) := by decide +kernel
theorem dL_law_554 : decode cL_law 554 = .ok (.aload_n 0, 1) := by decide +kernel
theorem dL_law_555 : decode cL_law 555 = .ok (.iload_n 3, 1) := by decide +kernel
theorem dL_law_556 : decode cL_law 556 = .ok (.iconst 2, 1) := by decide +kernel
theorem dL_law_557 : decode cL_law 557 = .ok (.iadd, 1) := by decide +kernel
theorem dL_law_558 : decode cL_law 558 = .ok (.iaload, 1) := by decide +kernel
theorem dL_law_559 : decode cL_law 559 = .ok (.invokevirtual 76, 3) := by decide +kernel
theorem dL_law_562 : decode cL_law 562 = .ok (.if_icmp .eq 650, 3) := by decide +kernel
theorem dL_law_565 : decode cL_law 565 = .ok (.iconst 0, 1) := by decide +kernel
theorem dL_law_566 : decode cL_law 566 = .ok (.ireturn, 1) := by decide +kernel
theorem dL_law_567 : decode cL_law 567 = .ok (.aload_n 1, 1) := by decide +kernel
theorem dL_law_568 : decode cL_law 568 = .ok (.aload_n 0, 1) := by decide +kernel
theorem dL_law_569 : decode cL_law 569 = .ok (.iload_n 3, 1) := by decide +kernel
theorem dL_law_570 : decode cL_law 570 = .ok (.iconst 1, 1) := by decide +kernel
theorem dL_law_571 : decode cL_law 571 = .ok (.iadd, 1) := by decide +kernel
theorem dL_law_572 : decode cL_law 572 = .ok (.iaload, 1) := by decide +kernel
theorem dL_law_573 : decode cL_law 573 = .ok (.aload_n 0, 1) := by decide +kernel
theorem dL_law_574 : decode cL_law 574 = .ok (.iload_n 3, 1) := by decide +kernel
theorem dL_law_575 : decode cL_law 575 = .ok (.iconst 2, 1) := by decide +kernel
theorem dL_law_576 : decode cL_law 576 = .ok (.iadd, 1) := by decide +kernel
theorem dL_law_577 : decode cL_law 577 = .ok (.iaload, 1) := by decide +kernel
theorem dL_law_578 : decode cL_law 578 = .ok (.invokevirtual 77, 3) := by decide +kernel
theorem dL_law_581 : decode cL_law 581 = .ok (.aload_n 2, 1) := by decide +kernel
theorem dL_law_582 : decode cL_law 582 = .ok (.aload_n 0, 1) := by decide +kernel
theorem dL_law_583 : decode cL_law 583 = .ok (.iload_n 3, 1) := by decide +kernel
theorem dL_law_584 : decode cL_law 584 = .ok (.iconst 1, 1) := by decide +kernel
theorem dL_law_585 : decode cL_law 585 = .ok (.iadd, 1) := by decide +kernel
theorem dL_law_586 : decode cL_law 586 = .ok (.iaload, 1) := by decide +kernel
theorem dL_law_587 : decode cL_law 587 = .ok (.aload_n 0, 1) := by decide +kernel
theorem dL_law_588 : decode cL_law 588 = .ok (.iload_n 3, 1) := by decide +kernel
theorem dL_law_589 : decode cL_law 589 = .ok (.iconst 2, 1) := by decide +kernel
theorem dL_law_590 : decode cL_law 590 = .ok (.iadd, 1) := by decide +kernel
theorem dL_law_591 : decode cL_law 591 = .ok (.iaload, 1) := by decide +kernel
theorem dL_law_592 : decode cL_law 592 = .ok (.invokevirtual 80, 3) := by decide +kernel
theorem dL_law_595 : decode cL_law 595 = .ok (.if_icmp .eq 617, 3) := by decide +kernel
theorem dL_law_598 : decode cL_law 598 = .ok (.iconst 0, 1) := by decide +kernel
theorem dL_law_599 : decode cL_law 599 = .ok (.ireturn, 1) := by decide +kernel
theorem dL_law_600 : decode cL_law 600 = .ok (.aload_n 1, 1) := by decide +kernel
theorem dL_law_601 : decode cL_law 601 = .ok (.aload_n 0, 1) := by decide +kernel
theorem dL_law_602 : decode cL_law 602 = .ok (.iload_n 3, 1) := by decide +kernel
theorem dL_law_603 : decode cL_law 603 = .ok (.iconst 1, 1) := by decide +kernel
theorem dL_law_604 : decode cL_law 604 = .ok (.iadd, 1) := by decide +kernel
theorem dL_law_605 : decode cL_law 605 = .ok (.iaload, 1) := by decide +kernel
theorem dL_law_606 : decode cL_law 606 = .ok (.aload_n 0, 1) := by decide +kernel
theorem dL_law_607 : decode cL_law 607 = .ok (.iload_n 3, 1) := by decide +kernel
theorem dL_law_608 : decode cL_law 608 = .ok (.iconst 2, 1) := by decide +kernel
theorem dL_law_609 : decode cL_law 609 = .ok (.iadd, 1) := by decide +kernel
theorem dL_law_610 : decode cL_law 610 = .ok (.iaload, 1) := by decide +kernel
theorem dL_law_611 : decode cL_law 611 = .ok (.aload_n 0, 1) := by decide +kernel
theorem dL_law_612 : decode cL_law 612 = .ok (.iload_n 3, 1) := by decide +kernel
theorem dL_law_613 : decode cL_law 613 = .ok (.iconst 3, 1) := by decide +kernel
theorem dL_law_614 : decode cL_law 614 = .ok (.iadd, 1) := by decide +kernel
theorem dL_law_615 : decode cL_law 615 = .ok (.iaload, 1) := by decide +kernel
theorem dL_law_616 : decode cL_law 616 = .ok (.aload_n 0, 1) := by decide +kernel
theorem dL_law_617 : decode cL_law 617 = .ok (.iload_n 3, 1) := by decide +kernel
theorem dL_law_618 : decode cL_law 618 = .ok (.iconst 4, 1) := by decide +kernel
theorem dL_law_619 : decode cL_law 619 = .ok (.iadd, 1) := by decide +kernel
theorem dL_law_620 : decode cL_law 620 = .ok (.iaload, 1) := by decide +kernel
theorem dL_law_621 : decode cL_law 621 = .ok (.invokevirtual 81, 3) := by decide +kernel
theorem dL_law_624 : decode cL_law 624 = .ok (.aload_n 2, 1) := by decide +kernel
theorem dL_law_625 : decode cL_law 625 = .ok (.aload_n 0, 1) := by decide +kernel
theorem dL_law_626 : decode cL_law 626 = .ok (.iload_n 3, 1) := by decide +kernel
theorem dL_law_627 : decode cL_law 627 = .ok (.iconst 1, 1) := by decide +kernel
theorem dL_law_628 : decode cL_law 628 = .ok (.iadd, 1) := by decide +kernel
theorem dL_law_629 : decode cL_law 629 = .ok (.iaload, 1) := by decide +kernel
theorem dL_law_630 : decode cL_law 630 = .ok (.aload_n 0, 1) := by decide +kernel
theorem dL_law_631 : decode cL_law 631 = .ok (.iload_n 3, 1) := by decide +kernel
theorem dL_law_632 : decode cL_law 632 = .ok (.iconst 2, 1) := by decide +kernel
theorem dL_law_633 : decode cL_law 633 = .ok (.iadd, 1) := by decide +kernel
theorem dL_law_634 : decode cL_law 634 = .ok (.iaload, 1) := by decide +kernel
theorem dL_law_635 : decode cL_law 635 = .ok (.aload_n 0, 1) := by decide +kernel
theorem dL_law_636 : decode cL_law 636 = .ok (.iload_n 3, 1) := by decide +kernel
theorem dL_law_637 : decode cL_law 637 = .ok (.iconst 3, 1) := by decide +kernel
theorem dL_law_638 : decode cL_law 638 = .ok (.iadd, 1) := by decide +kernel
theorem dL_law_639 : decode cL_law 639 = .ok (.iaload, 1) := by decide +kernel
theorem dL_law_640 : decode cL_law 640 = .ok (.aload_n 0, 1) := by decide +kernel
theorem dL_law_641 : decode cL_law 641 = .ok (.iload_n 3, 1) := by decide +kernel
theorem dL_law_642 : decode cL_law 642 = .ok (.iconst 4, 1) := by decide +kernel
theorem dL_law_643 : decode cL_law 643 = .ok (.iadd, 1) := by decide +kernel
theorem dL_law_644 : decode cL_law 644 = .ok (.iaload, 1) := by decide +kernel
theorem dL_law_645 : decode cL_law 645 = .ok (.invokevirtual 85, 3) := by decide +kernel
theorem dL_law_648 : decode cL_law 648 = .ok (.if_icmp .eq 564, 3) := by decide +kernel
theorem dL_law_651 : decode cL_law 651 = .ok (.iconst 0, 1) := by decide +kernel
theorem dL_law_652 : decode cL_law 652 = .ok (.ireturn, 1) := by decide +kernel
theorem dL_law_653 : decode cL_law 653 = .ok (.aload_n 1, 1) := by decide +kernel
theorem dL_law_654 : decode cL_law 654 = .ok (.aload_n 0, 1) := by decide +kernel
theorem dL_law_655 : decode cL_law 655 = .ok (.iload_n 3, 1) := by decide +kernel
theorem dL_law_656 : decode cL_law 656 = .ok (.iconst 1, 1) := by decide +kernel
theorem dL_law_657 : decode cL_law 657 = .ok (.iadd, 1) := by decide +kernel
theorem dL_law_658 : decode cL_law 658 = .ok (.iaload, 1) := by decide +kernel
theorem dL_law_659 : decode cL_law 659 = .ok (.aload_n 0, 1) := by decide +kernel
theorem dL_law_660 : decode cL_law 660 = .ok (.iload_n 3, 1) := by decide +kernel
theorem dL_law_661 : decode cL_law 661 = .ok (.iconst 2, 1) := by decide +kernel
theorem dL_law_662 : decode cL_law 662 = .ok (.iadd, 1) := by decide +kernel
theorem dL_law_663 : decode cL_law 663 = .ok (.iaload, 1) := by decide +kernel
theorem dL_law_664 : decode cL_law 664 = .ok (.invokevirtual 86, 3) := by decide +kernel
theorem dL_law_667 : decode cL_law 667 = .ok (.aload_n 2, 1) := by decide +kernel
theorem dL_law_668 : decode cL_law 668 = .ok (.aload_n 0, 1) := by decide +kernel
theorem dL_law_669 : decode cL_law 669 = .ok (.iload_n 3, 1) := by decide +kernel
theorem dL_law_670 : decode cL_law 670 = .ok (.iconst 1, 1) := by decide +kernel
theorem dL_law_671 : decode cL_law 671 = .ok (.iadd, 1) := by decide +kernel
theorem dL_law_672 : decode cL_law 672 = .ok (.iaload, 1) := by decide +kernel
theorem dL_law_673 : decode cL_law 673 = .ok (.aload_n 0, 1) := by decide +kernel
theorem dL_law_674 : decode cL_law 674 = .ok (.iload_n 3, 1) := by decide +kernel
theorem dL_law_675 : decode cL_law 675 = .ok (.iconst 2, 1) := by decide +kernel
theorem dL_law_676 : decode cL_law 676 = .ok (.iadd, 1) := by decide +kernel
theorem dL_law_677 : decode cL_law 677 = .ok (.iaload, 1) := by decide +kernel
theorem dL_law_678 : decode cL_law 678 = .ok (.invokevirtual 89, 3) := by decide +kernel
theorem dL_law_681 : decode cL_law 681 = .ok (.if_icmp .eq 531, 3) := by decide +kernel
theorem dL_law_684 : decode cL_law 684 = .ok (.iconst 0, 1) := by decide +kernel
theorem dL_law_685 : decode cL_law 685 = .ok (.ireturn, 1) := by decide +kernel
theorem dL_law_686 : decode cL_law 686 = .ok (.aload_n 1, 1) := by decide +kernel
theorem dL_law_687 : decode cL_law 687 = .ok (.aload_n 0, 1) := by decide +kernel
theorem dL_law_688 : decode cL_law 688 = .ok (.iload_n 3, 1) := by decide +kernel
theorem dL_law_689 : decode cL_law 689 = .ok (.iconst 1, 1) := by decide +kernel
theorem dL_law_690 : decode cL_law 690 = .ok (.iadd, 1) := by decide +kernel
theorem dL_law_691 : decode cL_law 691 = .ok (.iaload, 1) := by decide +kernel
theorem dL_law_692 : decode cL_law 692 = .ok (.aload_n 0, 1) := by decide +kernel
theorem dL_law_693 : decode cL_law 693 = .ok (.iload_n 3, 1) := by decide +kernel
theorem dL_law_694 : decode cL_law 694 = .ok (.iconst 2, 1) := by decide +kernel
theorem dL_law_695 : decode cL_law 695 = .ok (.iadd, 1) := by decide +kernel
theorem dL_law_696 : decode cL_law 696 = .ok (.iaload, 1) := by decide +kernel
theorem dL_law_697 : decode cL_law 697 = .ok (.aload_n 0, 1) := by decide +kernel
theorem dL_law_698 : decode cL_law 698 = .ok (.iload_n 3, 1) := by decide +kernel
theorem dL_law_699 : decode cL_law 699 = .ok (.iconst 3, 1) := by decide +kernel
theorem dL_law_700 : decode cL_law 700 = .ok (.iadd, 1) := by decide +kernel
theorem dL_law_701 : decode cL_law 701 = .ok (.iaload, 1) := by decide +kernel
theorem dL_law_702 : decode cL_law 702 = .ok (.invokevirtual 90, 3) := by decide +kernel
theorem dL_law_705 : decode cL_law 705 = .ok (.aload_n 2, 1) := by decide +kernel
theorem dL_law_706 : decode cL_law 706 = .ok (.aload_n 0, 1) := by decide +kernel
theorem dL_law_707 : decode cL_law 707 = .ok (.iload_n 3, 1) := by decide +kernel
theorem dL_law_708 : decode cL_law 708 = .ok (.iconst 1, 1) := by decide +kernel
theorem dL_law_709 : decode cL_law 709 = .ok (.iadd, 1) := by decide +kernel
theorem dL_law_710 : decode cL_law 710 = .ok (.iaload, 1) := by decide +kernel
theorem dL_law_711 : decode cL_law 711 = .ok (.aload_n 0, 1) := by decide +kernel
theorem dL_law_712 : decode cL_law 712 = .ok (.iload_n 3, 1) := by decide +kernel
theorem dL_law_713 : decode cL_law 713 = .ok (.iconst 2, 1) := by decide +kernel
theorem dL_law_714 : decode cL_law 714 = .ok (.iadd, 1) := by decide +kernel
theorem dL_law_715 : decode cL_law 715 = .ok (.iaload, 1) := by decide +kernel
theorem dL_law_716 : decode cL_law 716 = .ok (.aload_n 0, 1) := by decide +kernel
theorem dL_law_717 : decode cL_law 717 = .ok (.iload_n 3, 1) := by decide +kernel
theorem dL_law_718 : decode cL_law 718 = .ok (.iconst 3, 1) := by decide +kernel
theorem dL_law_719 : decode cL_law 719 = .ok (.iadd, 1) := by decide +kernel
theorem dL_law_720 : decode cL_law 720 = .ok (.iaload, 1) := by decide +kernel
theorem dL_law_721 : decode cL_law 721 = .ok (.invokevirtual 93, 3) := by decide +kernel
theorem dL_law_724 : decode cL_law 724 = .ok (.if_icmp .eq 488, 3) := by decide +kernel
theorem dL_law_727 : decode cL_law 727 = .ok (.iconst 0, 1) := by decide +kernel
theorem dL_law_728 : decode cL_law 728 = .ok (.ireturn, 1) := by decide +kernel
theorem dL_law_729 : decode cL_law 729 = .ok (.aload_n 1, 1) := by decide +kernel
theorem dL_law_730 : decode cL_law 730 = .ok (.aload_n 0, 1) := by decide +kernel
theorem dL_law_731 : decode cL_law 731 = .ok (.iload_n 3, 1) := by decide +kernel
theorem dL_law_732 : decode cL_law 732 = .ok (.iconst 1, 1) := by decide +kernel
theorem dL_law_733 : decode cL_law 733 = .ok (.iadd, 1) := by decide +kernel
theorem dL_law_734 : decode cL_law 734 = .ok (.iaload, 1) := by decide +kernel
theorem dL_law_735 : decode cL_law 735 = .ok (.aload_n 0, 1) := by decide +kernel
theorem dL_law_736 : decode cL_law 736 = .ok (.iload_n 3, 1) := by decide +kernel
theorem dL_law_737 : decode cL_law 737 = .ok (.iconst 2, 1) := by decide +kernel
theorem dL_law_738 : decode cL_law 738 = .ok (.iadd, 1) := by decide +kernel
theorem dL_law_739 : decode cL_law 739 = .ok (.iaload, 1) := by decide +kernel
theorem dL_law_740 : decode cL_law 740 = .ok (.invokevirtual 94, 3) := by decide +kernel
theorem dL_law_743 : decode cL_law 743 = .ok (.aload_n 2, 1) := by decide +kernel
theorem dL_law_744 : decode cL_law 744 = .ok (.aload_n 0, 1) := by decide +kernel
theorem dL_law_745 : decode cL_law 745 = .ok (.iload_n 3, 1) := by decide +kernel
theorem dL_law_746 : decode cL_law 746 = .ok (.iconst 1, 1) := by decide +kernel
theorem dL_law_747 : decode cL_law 747 = .ok (.iadd, 1) := by decide +kernel
theorem dL_law_748 : decode cL_law 748 = .ok (.iaload, 1) := by decide +kernel
theorem dL_law_749 : decode cL_law 749 = .ok (.aload_n 0, 1) := by decide +kernel
theorem dL_law_750 : decode cL_law 750 = .ok (.iload_n 3, 1) := by decide +kernel
theorem dL_law_751 : decode cL_law 751 = .ok (.iconst 2, 1) := by decide +kernel
theorem dL_law_752 : decode cL_law 752 = .ok (.iadd, 1) := by decide +kernel
theorem dL_law_753 : decode cL_law 753 = .ok (.iaload, 1) := by decide +kernel
theorem dL_law_754 : decode cL_law 754 = .ok (.invokevirtual 97, 3) := by decide +kernel
theorem dL_law_757 : decode cL_law 757 = .ok (.if_icmp .eq 455, 3) := by decide +kernel
theorem dL_law_760 : decode cL_law 760 = .ok (.iconst 0, 1) := by decide +kernel
theorem dL_law_761 : decode cL_law 761 = .ok (.ireturn, 1) := by decide +kernel
theorem dL_law_762 : decode cL_law 762 = .ok (.aload_n 1, 1) := by decide +kernel
theorem dL_law_763 : decode cL_law 763 = .ok (.aload_n 0, 1) := by decide +kernel
theorem dL_law_764 : decode cL_law 764 = .ok (.iload_n 3, 1) := by decide +kernel
theorem dL_law_765 : decode cL_law 765 = .ok (.iconst 1, 1) := by decide +kernel
theorem dL_law_766 : decode cL_law 766 = .ok (.iadd, 1) := by decide +kernel
theorem dL_law_767 : decode cL_law 767 = .ok (.iaload, 1) := by decide +kernel
theorem dL_law_768 : decode cL_law 768 = .ok (.aload_n 0, 1) := by decide +kernel
theorem dL_law_769 : decode cL_law 769 = .ok (.iload_n 3, 1) := by decide +kernel
theorem dL_law_770 : decode cL_law 770 = .ok (.iconst 2, 1) := by decide +kernel
theorem dL_law_771 : decode cL_law 771 = .ok (.iadd, 1) := by decide +kernel
theorem dL_law_772 : decode cL_law 772 = .ok (.iaload, 1) := by decide +kernel
theorem dL_law_773 : decode cL_law 773 = .ok (.aload_n 0, 1) := by decide +kernel
theorem dL_law_774 : decode cL_law 774 = .ok (.iload_n 3, 1) := by decide +kernel
theorem dL_law_775 : decode cL_law 775 = .ok (.iconst 3, 1) := by decide +kernel
theorem dL_law_776 : decode cL_law 776 = .ok (.iadd, 1) := by decide +kernel
theorem dL_law_777 : decode cL_law 777 = .ok (.iaload, 1) := by decide +kernel
theorem dL_law_778 : decode cL_law 778 = .ok (.aload_n 0, 1) := by decide +kernel
theorem dL_law_779 : decode cL_law 779 = .ok (.iload_n 3, 1) := by decide +kernel
theorem dL_law_780 : decode cL_law 780 = .ok (.iconst 4, 1) := by decide +kernel
theorem dL_law_781 : decode cL_law 781 = .ok (.iadd, 1) := by decide +kernel
theorem dL_law_782 : decode cL_law 782 = .ok (.iaload, 1) := by decide +kernel
theorem dL_law_783 : decode cL_law 783 = .ok (.invokevirtual 98, 3) := by decide +kernel
theorem dL_law_786 : decode cL_law 786 = .ok (.aload_n 2, 1) := by decide +kernel
theorem dL_law_787 : decode cL_law 787 = .ok (.aload_n 0, 1) := by decide +kernel
theorem dL_law_788 : decode cL_law 788 = .ok (.iload_n 3, 1) := by decide +kernel
theorem dL_law_789 : decode cL_law 789 = .ok (.iconst 1, 1) := by decide +kernel
theorem dL_law_790 : decode cL_law 790 = .ok (.iadd, 1) := by decide +kernel
theorem dL_law_791 : decode cL_law 791 = .ok (.iaload, 1) := by decide +kernel
theorem dL_law_792 : decode cL_law 792 = .ok (.aload_n 0, 1) := by decide +kernel
theorem dL_law_793 : decode cL_law 793 = .ok (.iload_n 3, 1) := by decide +kernel
theorem dL_law_794 : decode cL_law 794 = .ok (.iconst 2, 1) := by decide +kernel
theorem dL_law_795 : decode cL_law 795 = .ok (.iadd, 1) := by decide +kernel
theorem dL_law_796 : decode cL_law 796 = .ok (.iaload, 1) := by decide +kernel
theorem dL_law_797 : decode cL_law 797 = .ok (.aload_n 0, 1) := by decide +kernel
theorem dL_law_798 : decode cL_law 798 = .ok (.iload_n 3, 1) := by decide +kernel
theorem dL_law_799 : decode cL_law 799 = .ok (.iconst 3, 1) := by decide +kernel
theorem dL_law_800 : decode cL_law 800 = .ok (.iadd, 1) := by decide +kernel
theorem dL_law_801 : decode cL_law 801 = .ok (.iaload, 1) := by decide +kernel
theorem dL_law_802 : decode cL_law 802 = .ok (.aload_n 0, 1) := by decide +kernel
theorem dL_law_803 : decode cL_law 803 = .ok (.iload_n 3, 1) := by decide +kernel
theorem dL_law_804 : decode cL_law 804 = .ok (.iconst 4, 1) := by decide +kernel
theorem dL_law_805 : decode cL_law 805 = .ok (.iadd, 1) := by decide +kernel
theorem dL_law_806 : decode cL_law 806 = .ok (.iaload, 1) := by decide +kernel
theorem dL_law_807 : decode cL_law 807 = .ok (.invokevirtual 101, 3) := by decide +kernel
theorem dL_law_810 : decode cL_law 810 = .ok (.if_icmp .eq 402, 3) := by decide +kernel
theorem dL_law_813 : decode cL_law 813 = .ok (.iconst 0, 1) := by decide +kernel
theorem dL_law_814 : decode cL_law 814 = .ok (.ireturn, 1) := by decide +kernel
theorem dL_law_815 : decode cL_law 815 = .ok (.aload_n 1, 1) := by decide +kernel
theorem dL_law_816 : decode cL_law 816 = .ok (.aload_n 0, 1) := by decide +kernel
theorem dL_law_817 : decode cL_law 817 = .ok (.iload_n 3, 1) := by decide +kernel
theorem dL_law_818 : decode cL_law 818 = .ok (.iconst 1, 1) := by decide +kernel
theorem dL_law_819 : decode cL_law 819 = .ok (.iadd, 1) := by decide +kernel
theorem dL_law_820 : decode cL_law 820 = .ok (.iaload, 1) := by decide +kernel
theorem dL_law_821 : decode cL_law 821 = .ok (.aload_n 0, 1) := by decide +kernel
theorem dL_law_822 : decode cL_law 822 = .ok (.iload_n 3, 1) := by decide +kernel
theorem dL_law_823 : decode cL_law 823 = .ok (.iconst 2, 1) := by decide +kernel
theorem dL_law_824 : decode cL_law 824 = .ok (.iadd, 1) := by decide +kernel
theorem dL_law_825 : decode cL_law 825 = .ok (.iaload, 1) := by decide +kernel
theorem dL_law_826 : decode cL_law 826 = .ok (.aload_n 0, 1) := by decide +kernel
theorem dL_law_827 : decode cL_law 827 = .ok (.iload_n 3, 1) := by decide +kernel
theorem dL_law_828 : decode cL_law 828 = .ok (.iconst 3, 1) := by decide +kernel
theorem dL_law_829 : decode cL_law 829 = .ok (.iadd, 1) := by decide +kernel
theorem dL_law_830 : decode cL_law 830 = .ok (.iaload, 1) := by decide +kernel
theorem dL_law_831 : decode cL_law 831 = .ok (.aload_n 0, 1) := by decide +kernel
theorem dL_law_832 : decode cL_law 832 = .ok (.iload_n 3, 1) := by decide +kernel
theorem dL_law_833 : decode cL_law 833 = .ok (.iconst 4, 1) := by decide +kernel
theorem dL_law_834 : decode cL_law 834 = .ok (.iadd, 1) := by decide +kernel
theorem dL_law_835 : decode cL_law 835 = .ok (.iaload, 1) := by decide +kernel
theorem dL_law_836 : decode cL_law 836 = .ok (.invokevirtual 102, 3) := by decide +kernel
theorem dL_law_839 : decode cL_law 839 = .ok (.aload_n 2, 1) := by decide +kernel
theorem dL_law_840 : decode cL_law 840 = .ok (.aload_n 0, 1) := by decide +kernel
theorem dL_law_841 : decode cL_law 841 = .ok (.iload_n 3, 1) := by decide +kernel
theorem dL_law_842 : decode cL_law 842 = .ok (.iconst 1, 1) := by decide +kernel
theorem dL_law_843 : decode cL_law 843 = .ok (.iadd, 1) := by decide +kernel
theorem dL_law_844 : decode cL_law 844 = .ok (.iaload, 1) := by decide +kernel
theorem dL_law_845 : decode cL_law 845 = .ok (.aload_n 0, 1) := by decide +kernel
theorem dL_law_846 : decode cL_law 846 = .ok (.iload_n 3, 1) := by decide +kernel
theorem dL_law_847 : decode cL_law 847 = .ok (.iconst 2, 1) := by decide +kernel
theorem dL_law_848 : decode cL_law 848 = .ok (.iadd, 1) := by decide +kernel
theorem dL_law_849 : decode cL_law 849 = .ok (.iaload, 1) := by decide +kernel
theorem dL_law_850 : decode cL_law 850 = .ok (.aload_n 0, 1) := by decide +kernel
theorem dL_law_851 : decode cL_law 851 = .ok (.iload_n 3, 1) := by decide +kernel
theorem dL_law_852 : decode cL_law 852 = .ok (.iconst 3, 1) := by decide +kernel
theorem dL_law_853 : decode cL_law 853 = .ok (.iadd, 1) := by decide +kernel
theorem dL_law_854 : decode cL_law 854 = .ok (.iaload, 1) := by decide +kernel
theorem dL_law_855 : decode cL_law 855 = .ok (.aload_n 0, 1) := by decide +kernel
theorem dL_law_856 : decode cL_law 856 = .ok (.iload_n 3, 1) := by decide +kernel
theorem dL_law_857 : decode cL_law 857 = .ok (.iconst 4, 1) := by decide +kernel
theorem dL_law_858 : decode cL_law 858 = .ok (.iadd, 1) := by decide +kernel
theorem dL_law_859 : decode cL_law 859 = .ok (.iaload, 1) := by decide +kernel
theorem dL_law_860 : decode cL_law 860 = .ok (.invokevirtual 105, 3) := by decide +kernel
theorem dL_law_863 : decode cL_law 863 = .ok (.if_icmp .eq 349, 3) := by decide +kernel
theorem dL_law_866 : decode cL_law 866 = .ok (.iconst 0, 1) := by decide +kernel
theorem dL_law_867 : decode cL_law 867 = .ok (.ireturn, 1) := by decide +kernel
theorem dL_law_868 : decode cL_law 868 = .ok (.aload_n 1, 1) := by decide +kernel
theorem dL_law_869 : decode cL_law 869 = .ok (.aload_n 0, 1) := by decide +kernel
theorem dL_law_870 : decode cL_law 870 = .ok (.iload_n 3, 1) := by decide +kernel
theorem dL_law_871 : decode cL_law 871 = .ok (.iconst 1, 1) := by decide +kernel
theorem dL_law_872 : decode cL_law 872 = .ok (.iadd, 1) := by decide +kernel
theorem dL_law_873 : decode cL_law 873 = .ok (.iaload, 1) := by decide +kernel
theorem dL_law_874 : decode cL_law 874 = .ok (.invokevirtual 106, 3) := by decide +kernel
theorem dL_law_877 : decode cL_law 877 = .ok (.aload_n 2, 1) := by decide +kernel
theorem dL_law_878 : decode cL_law 878 = .ok (.aload_n 0, 1) := by decide +kernel
theorem dL_law_879 : decode cL_law 879 = .ok (.iload_n 3, 1) := by decide +kernel
theorem dL_law_880 : decode cL_law 880 = .ok (.iconst 1, 1) := by decide +kernel
theorem dL_law_881 : decode cL_law 881 = .ok (.iadd, 1) := by decide +kernel
theorem dL_law_882 : decode cL_law 882 = .ok (.iaload, 1) := by decide +kernel
theorem dL_law_883 : decode cL_law 883 = .ok (.invokevirtual 109, 3) := by decide +kernel
theorem dL_law_886 : decode cL_law 886 = .ok (.if_icmp .eq 326, 3) := by decide +kernel
theorem dL_law_889 : decode cL_law 889 = .ok (.iconst 0, 1) := by decide +kernel
theorem dL_law_890 : decode cL_law 890 = .ok (.ireturn, 1) := by decide +kernel
theorem dL_law_891 : decode cL_law 891 = .ok (.aload_n 1, 1) := by decide +kernel
theorem dL_law_892 : decode cL_law 892 = .ok (.aload_n 0, 1) := by decide +kernel
theorem dL_law_893 : decode cL_law 893 = .ok (.iload_n 3, 1) := by decide +kernel
theorem dL_law_894 : decode cL_law 894 = .ok (.iconst 1, 1) := by decide +kernel
theorem dL_law_895 : decode cL_law 895 = .ok (.iadd, 1) := by decide +kernel
theorem dL_law_896 : decode cL_law 896 = .ok (.iaload, 1) := by decide +kernel
theorem dL_law_897 : decode cL_law 897 = .ok (.invokevirtual 110, 3) := by decide +kernel
theorem dL_law_900 : decode cL_law 900 = .ok (.aload_n 2, 1) := by decide +kernel
theorem dL_law_901 : decode cL_law 901 = .ok (.aload_n 0, 1) := by decide +kernel
theorem dL_law_902 : decode cL_law 902 = .ok (.iload_n 3, 1) := by decide +kernel
theorem dL_law_903 : decode cL_law 903 = .ok (.iconst 1, 1) := by decide +kernel
theorem dL_law_904 : decode cL_law 904 = .ok (.iadd, 1) := by decide +kernel
theorem dL_law_905 : decode cL_law 905 = .ok (.iaload, 1) := by decide +kernel
theorem dL_law_906 : decode cL_law 906 = .ok (.invokevirtual 113, 3) := by decide +kernel
theorem dL_law_909 : decode cL_law 909 = .ok (.if_icmp .eq 303, 3) := by decide +kernel
theorem dL_law_912 : decode cL_law 912 = .ok (.iconst 0, 1) := by decide +kernel
theorem dL_law_913 : decode cL_law 913 = .ok (.ireturn, 1) := by decide +kernel
theorem dL_law_914 : decode cL_law 914 = .ok (.aload_n 1, 1) := by decide +kernel
theorem dL_law_915 : decode cL_law 915 = .ok (.aload_n 0, 1) := by decide +kernel
theorem dL_law_916 : decode cL_law 916 = .ok (.iload_n 3, 1) := by decide +kernel
theorem dL_law_917 : decode cL_law 917 = .ok (.iconst 1, 1) := by decide +kernel
theorem dL_law_918 : decode cL_law 918 = .ok (.iadd, 1) := by decide +kernel
theorem dL_law_919 : decode cL_law 919 = .ok (.iaload, 1) := by decide +kernel
theorem dL_law_920 : decode cL_law 920 = .ok (.invokevirtual 114, 3) := by decide +kernel
theorem dL_law_923 : decode cL_law 923 = .ok (.aload_n 2, 1) := by decide +kernel
theorem dL_law_924 : decode cL_law 924 = .ok (.aload_n 0, 1) := by decide +kernel
theorem dL_law_925 : decode cL_law 925 = .ok (.iload_n 3, 1) := by decide +kernel
theorem dL_law_926 : decode cL_law 926 = .ok (.iconst 1, 1) := by decide +kernel
theorem dL_law_927 : decode cL_law 927 = .ok (.iadd, 1) := by decide +kernel
theorem dL_law_928 : decode cL_law 928 = .ok (.iaload, 1) := by decide +kernel
theorem dL_law_929 : decode cL_law 929 = .ok (.invokevirtual 117, 3) := by decide +kernel
theorem dL_law_932 : decode cL_law 932 = .ok (.if_icmp .eq 280, 3) := by decide +kernel
theorem dL_law_935 : decode cL_law 935 = .ok (.iconst 0, 1) := by decide +kernel
theorem dL_law_936 : decode cL_law 936 = .ok (.ireturn, 1) := by decide +kernel
theorem dL_law_937 : decode cL_law 937 = .ok (.aload_n 1, 1) := by decide +kernel
theorem dL_law_938 : decode cL_law 938 = .ok (.aload_n 0, 1) := by decide +kernel
theorem dL_law_939 : decode cL_law 939 = .ok (.iload_n 3, 1) := by decide +kernel
theorem dL_law_940 : decode cL_law 940 = .ok (.iconst 1, 1) := by decide +kernel
theorem dL_law_941 : decode cL_law 941 = .ok (.iadd, 1) := by decide +kernel
theorem dL_law_942 : decode cL_law 942 = .ok (.iaload, 1) := by decide +kernel
theorem dL_law_943 : decode cL_law 943 = .ok (.invokevirtual 118, 3) := by decide +kernel
theorem dL_law_946 : decode cL_law 946 = .ok (.aload_n 2, 1) := by decide +kernel
theorem dL_law_947 : decode cL_law 947 = .ok (.aload_n 0, 1) := by decide +kernel
theorem dL_law_948 : decode cL_law 948 = .ok (.iload_n 3, 1) := by decide +kernel
theorem dL_law_949 : decode cL_law 949 = .ok (.iconst 1, 1) := by decide +kernel
theorem dL_law_950 : decode cL_law 950 = .ok (.iadd, 1) := by decide +kernel
theorem dL_law_951 : decode cL_law 951 = .ok (.iaload, 1) := by decide +kernel
theorem dL_law_952 : decode cL_law 952 = .ok (.invokevirtual 121, 3) := by decide +kernel
theorem dL_law_955 : decode cL_law 955 = .ok (.if_icmp .eq 257, 3) := by decide +kernel
theorem dL_law_958 : decode cL_law 958 = .ok (.iconst 0, 1) := by decide +kernel
theorem dL_law_959 : decode cL_law 959 = .ok (.ireturn, 1) := by decide +kernel
theorem dL_law_960 : decode cL_law 960 = .ok (.aload_n 1, 1) := by decide +kernel
theorem dL_law_961 : decode cL_law 961 = .ok (.aload_n 0, 1) := by decide +kernel
theorem dL_law_962 : decode cL_law 962 = .ok (.iload_n 3, 1) := by decide +kernel
theorem dL_law_963 : decode cL_law 963 = .ok (.iconst 1, 1) := by decide +kernel
theorem dL_law_964 : decode cL_law 964 = .ok (.iadd, 1) := by decide +kernel
theorem dL_law_965 : decode cL_law 965 = .ok (.iaload, 1) := by decide +kernel
theorem dL_law_966 : decode cL_law 966 = .ok (.invokevirtual 122, 3) := by decide +kernel
theorem dL_law_969 : decode cL_law 969 = .ok (.aload_n 2, 1) := by decide +kernel
theorem dL_law_970 : decode cL_law 970 = .ok (.aload_n 0, 1) := by decide +kernel
theorem dL_law_971 : decode cL_law 971 = .ok (.iload_n 3, 1) := by decide +kernel
theorem dL_law_972 : decode cL_law 972 = .ok (.iconst 1, 1) := by decide +kernel
theorem dL_law_973 : decode cL_law 973 = .ok (.iadd, 1) := by decide +kernel
theorem dL_law_974 : decode cL_law 974 = .ok (.iaload, 1) := by decide +kernel
theorem dL_law_975 : decode cL_law 975 = .ok (.invokevirtual 125, 3) := by decide +kernel
theorem dL_law_978 : decode cL_law 978 = .ok (.if_icmp .eq 234, 3) := by decide +kernel
theorem dL_law_981 : decode cL_law 981 = .ok (.iconst 0, 1) := by decide +kernel
theorem dL_law_982 : decode cL_law 982 = .ok (.ireturn, 1) := by decide +kernel
theorem dL_law_983 : decode cL_law 983 = .ok (.aload_n 1, 1) := by decide +kernel
theorem dL_law_984 : decode cL_law 984 = .ok (.aload_n 0, 1) := by decide +kernel
theorem dL_law_985 : decode cL_law 985 = .ok (.iload_n 3, 1) := by decide +kernel
theorem dL_law_986 : decode cL_law 986 = .ok (.iconst 1, 1) := by decide +kernel
theorem dL_law_987 : decode cL_law 987 = .ok (.iadd, 1) := by decide +kernel
theorem dL_law_988 : decode cL_law 988 = .ok (.iaload, 1) := by decide +kernel
theorem dL_law_989 : decode cL_law 989 = .ok (.invokevirtual 126, 3) := by decide +kernel
theorem dL_law_992 : decode cL_law 992 = .ok (.aload_n 2, 1) := by decide +kernel
theorem dL_law_993 : decode cL_law 993 = .ok (.aload_n 0, 1) := by decide +kernel
theorem dL_law_994 : decode cL_law 994 = .ok (.iload_n 3, 1) := by decide +kernel
theorem dL_law_995 : decode cL_law 995 = .ok (.iconst 1, 1) := by decide +kernel
theorem dL_law_996 : decode cL_law 996 = .ok (.iadd, 1) := by decide +kernel
theorem dL_law_997 : decode cL_law 997 = .ok (.iaload, 1) := by decide +kernel
theorem dL_law_998 : decode cL_law 998 = .ok (.invokevirtual 129, 3) := by decide +kernel
theorem dL_law_1001 : decode cL_law 1001 = .ok (.if_icmp .eq 211, 3) := by decide +kernel
theorem dL_law_1004 : decode cL_law 1004 = .ok (.iconst 0, 1) := by decide +kernel
theorem dL_law_1005 : decode cL_law 1005 = .ok (.ireturn, 1) := by decide +kernel
theorem dL_law_1006 : decode cL_law 1006 = .ok (.aload_n 1, 1) := by decide +kernel
theorem dL_law_1007 : decode cL_law 1007 = .ok (.aload_n 0, 1) := by decide +kernel
theorem dL_law_1008 : decode cL_law 1008 = .ok (.iload_n 3, 1) := by decide +kernel
theorem dL_law_1009 : decode cL_law 1009 = .ok (.iconst 1, 1) := by decide +kernel
theorem dL_law_1010 : decode cL_law 1010 = .ok (.iadd, 1) := by decide +kernel
theorem dL_law_1011 : decode cL_law 1011 = .ok (.iaload, 1) := by decide +kernel
theorem dL_law_1012 : decode cL_law 1012 = .ok (.aload_n 0, 1) := by decide +kernel
theorem dL_law_1013 : decode cL_law 1013 = .ok (.iload_n 3, 1) := by decide +kernel
theorem dL_law_1014 : decode cL_law 1014 = .ok (.iconst 2, 1) := by decide +kernel
theorem dL_law_1015 : decode cL_law 1015 = .ok (.iadd, 1) := by decide +kernel
theorem dL_law_1016 : decode cL_law 1016 = .ok (.iaload, 1) := by decide +kernel
theorem dL_law_1017 : decode cL_law 1017 = .ok (.aload_n 0, 1) := by decide +kernel
theorem dL_law_1018 : decode cL_law 1018 = .ok (.iload_n 3, 1) := by decide +kernel
theorem dL_law_1019 : decode cL_law 1019 = .ok (.iconst 3, 1) := by decide +kernel
theorem dL_law_1020 : decode cL_law 1020 = .ok (.iadd, 1) := by decide +kernel
theorem dL_law_1021 : decode cL_law 1021 = .ok (.iaload, 1) := by decide +kernel
theorem dL_law_1022 : decode cL_law 1022 = .ok (.invokevirtual 130, 3) := by decide +kernel
theorem dL_law_1025 : decode cL_law 1025 = .ok (.aload_n 2, 1) := by decide +kernel
theorem dL_law_1026 : decode cL_law 1026 = .ok (.aload_n 0, 1) := by decide +kernel
theorem dL_law_1027 : decode cL_law 1027 = .ok (.iload_n 3, 1) := by decide +kernel
theorem dL_law_1028 : decode cL_law 1028 = .ok (.iconst 1, 1) := by decide +kernel
theorem dL_law_1029 : decode cL_law 1029 = .ok (.iadd, 1) := by decide +kernel
theorem dL_law_1030 : decode cL_law 1030 = .ok (.iaload, 1) := by decide +kernel
theorem dL_law_1031 : decode cL_law 1031 = .ok (.aload_n 0, 1) := by decide +kernel
theorem dL_law_1032 : decode cL_law 1032 = .ok (.iload_n 3, 1) := by decide +kernel
theorem dL_law_1033 : decode cL_law 1033 = .ok (.iconst 2, 1) := by decide +kernel
theorem dL_law_1034 : decode cL_law 1034 = .ok (.iadd, 1) := by decide +kernel
theorem dL_law_1035 : decode cL_law 1035 = .ok (.iaload, 1) := by decide +kernel
theorem dL_law_1036 : decode cL_law 1036 = .ok (.aload_n 0, 1) := by decide +kernel
theorem dL_law_1037 : decode cL_law 1037 = .ok (.iload_n 3, 1) := by decide +kernel
theorem dL_law_1038 : decode cL_law 1038 = .ok (.iconst 3, 1) := by decide +kernel
theorem dL_law_1039 : decode cL_law 1039 = .ok (.iadd, 1) := by decide +kernel
theorem dL_law_1040 : decode cL_law 1040 = .ok (.iaload, 1) := by decide +kernel
theorem dL_law_1041 : decode cL_law 1041 = .ok (.invokevirtual 133, 3) := by decide +kernel
theorem dL_law_1044 : decode cL_law 1044 = .ok (.if_icmp .eq 168, 3) := by decide +kernel
theorem dL_law_1047 : decode cL_law 1047 = .ok (.iconst 0, 1) := by decide +kernel
theorem dL_law_1048 : decode cL_law 1048 = .ok (.ireturn, 1) := by decide +kernel
theorem dL_law_1049 : decode cL_law 1049 = .ok (.aload_n 1, 1) := by decide +kernel
theorem dL_law_1050 : decode cL_law 1050 = .ok (.aload_n 0, 1) := by decide +kernel
theorem dL_law_1051 : decode cL_law 1051 = .ok (.iload_n 3, 1) := by decide +kernel
theorem dL_law_1052 : decode cL_law 1052 = .ok (.iconst 1, 1) := by decide +kernel
theorem dL_law_1053 : decode cL_law 1053 = .ok (.iadd, 1) := by decide +kernel
theorem dL_law_1054 : decode cL_law 1054 = .ok (.iaload, 1) := by decide +kernel
theorem dL_law_1055 : decode cL_law 1055 = .ok (.aload_n 0, 1) := by decide +kernel
theorem dL_law_1056 : decode cL_law 1056 = .ok (.iload_n 3, 1) := by decide +kernel
theorem dL_law_1057 : decode cL_law 1057 = .ok (.iconst 2, 1) := by decide +kernel
theorem dL_law_1058 : decode cL_law 1058 = .ok (.iadd, 1) := by decide +kernel
theorem dL_law_1059 : decode cL_law 1059 = .ok (.iaload, 1) := by decide +kernel
theorem dL_law_1060 : decode cL_law 1060 = .ok (.invokevirtual 134, 3) := by decide +kernel
theorem dL_law_1063 : decode cL_law 1063 = .ok (.aload_n 2, 1) := by decide +kernel
theorem dL_law_1064 : decode cL_law 1064 = .ok (.aload_n 0, 1) := by decide +kernel
theorem dL_law_1065 : decode cL_law 1065 = .ok (.iload_n 3, 1) := by decide +kernel
theorem dL_law_1066 : decode cL_law 1066 = .ok (.iconst 1, 1) := by decide +kernel
theorem dL_law_1067 : decode cL_law 1067 = .ok (.iadd, 1) := by decide +kernel
theorem dL_law_1068 : decode cL_law 1068 = .ok (.iaload, 1) := by decide +kernel
theorem dL_law_1069 : decode cL_law 1069 = .ok (.aload_n 0, 1) := by decide +kernel
theorem dL_law_1070 : decode cL_law 1070 = .ok (.iload_n 3, 1) := by decide +kernel
theorem dL_law_1071 : decode cL_law 1071 = .ok (.iconst 2, 1) := by decide +kernel
theorem dL_law_1072 : decode cL_law 1072 = .ok (.iadd, 1) := by decide +kernel
theorem dL_law_1073 : decode cL_law 1073 = .ok (.iaload, 1) := by decide +kernel
theorem dL_law_1074 : decode cL_law 1074 = .ok (.invokevirtual 137, 3) := by decide +kernel
theorem dL_law_1077 : decode cL_law 1077 = .ok (.if_icmp .eq 135, 3) := by decide +kernel
theorem dL_law_1080 : decode cL_law 1080 = .ok (.iconst 0, 1) := by decide +kernel
theorem dL_law_1081 : decode cL_law 1081 = .ok (.ireturn, 1) := by decide +kernel
theorem dL_law_1082 : decode cL_law 1082 = .ok (.aload_n 1, 1) := by decide +kernel
theorem dL_law_1083 : decode cL_law 1083 = .ok (.aload_n 0, 1) := by decide +kernel
theorem dL_law_1084 : decode cL_law 1084 = .ok (.iload_n 3, 1) := by decide +kernel
theorem dL_law_1085 : decode cL_law 1085 = .ok (.iconst 1, 1) := by decide +kernel
theorem dL_law_1086 : decode cL_law 1086 = .ok (.iadd, 1) := by decide +kernel
theorem dL_law_1087 : decode cL_law 1087 = .ok (.iaload, 1) := by decide +kernel
theorem dL_law_1088 : decode cL_law 1088 = .ok (.invokevirtual 138, 3) := by decide +kernel
theorem dL_law_1091 : decode cL_law 1091 = .ok (.aload_n 2, 1) := by decide +kernel
theorem dL_law_1092 : decode cL_law 1092 = .ok (.aload_n 0, 1) := by decide +kernel
theorem dL_law_1093 : decode cL_law 1093 = .ok (.iload_n 3, 1) := by decide +kernel
theorem dL_law_1094 : decode cL_law 1094 = .ok (.iconst 1, 1) := by decide +kernel
theorem dL_law_1095 : decode cL_law 1095 = .ok (.iadd, 1) := by decide +kernel
theorem dL_law_1096 : decode cL_law 1096 = .ok (.iaload, 1) := by decide +kernel
theorem dL_law_1097 : decode cL_law 1097 = .ok (.invokevirtual 142, 3) := by decide +kernel
theorem dL_law_1100 : decode cL_law 1100 = .ok (.lcmp, 1) := by decide +kernel
theorem dL_law_1101 : decode cL_law 1101 = .ok (.ifCond .eq 111, 3) := by decide +kernel
theorem dL_law_1104 : decode cL_law 1104 = .ok (.iconst 0, 1) := by decide +kernel
theorem dL_law_1105 : decode cL_law 1105 = .ok (.ireturn, 1) := by decide +kernel
theorem dL_law_1106 : decode cL_law 1106 = .ok (.aload_n 1, 1) := by decide +kernel
theorem dL_law_1107 : decode cL_law 1107 = .ok (.aload_n 0, 1) := by decide +kernel
theorem dL_law_1108 : decode cL_law 1108 = .ok (.iload_n 3, 1) := by decide +kernel
theorem dL_law_1109 : decode cL_law 1109 = .ok (.iconst 1, 1) := by decide +kernel
theorem dL_law_1110 : decode cL_law 1110 = .ok (.iadd, 1) := by decide +kernel
theorem dL_law_1111 : decode cL_law 1111 = .ok (.iaload, 1) := by decide +kernel
theorem dL_law_1112 : decode cL_law 1112 = .ok (.invokevirtual 143, 3) := by decide +kernel
theorem dL_law_1115 : decode cL_law 1115 = .ok (.aload_n 2, 1) := by decide +kernel
theorem dL_law_1116 : decode cL_law 1116 = .ok (.aload_n 0, 1) := by decide +kernel
theorem dL_law_1117 : decode cL_law 1117 = .ok (.iload_n 3, 1) := by decide +kernel
theorem dL_law_1118 : decode cL_law 1118 = .ok (.iconst 1, 1) := by decide +kernel
theorem dL_law_1119 : decode cL_law 1119 = .ok (.iadd, 1) := by decide +kernel
theorem dL_law_1120 : decode cL_law 1120 = .ok (.iaload, 1) := by decide +kernel
theorem dL_law_1121 : decode cL_law 1121 = .ok (.invokevirtual 146, 3) := by decide +kernel
theorem dL_law_1124 : decode cL_law 1124 = .ok (.if_icmp .eq 88, 3) := by decide +kernel
theorem dL_law_1127 : decode cL_law 1127 = .ok (.iconst 0, 1) := by decide +kernel
theorem dL_law_1128 : decode cL_law 1128 = .ok (.ireturn, 1) := by decide +kernel
theorem dL_law_1129 : decode cL_law 1129 = .ok (.aload_n 1, 1) := by decide +kernel
theorem dL_law_1130 : decode cL_law 1130 = .ok (.aload_n 0, 1) := by decide +kernel
theorem dL_law_1131 : decode cL_law 1131 = .ok (.iload_n 3, 1) := by decide +kernel
theorem dL_law_1132 : decode cL_law 1132 = .ok (.iconst 1, 1) := by decide +kernel
theorem dL_law_1133 : decode cL_law 1133 = .ok (.iadd, 1) := by decide +kernel
theorem dL_law_1134 : decode cL_law 1134 = .ok (.iaload, 1) := by decide +kernel
theorem dL_law_1135 : decode cL_law 1135 = .ok (.invokevirtual 147, 3) := by decide +kernel
theorem dL_law_1138 : decode cL_law 1138 = .ok (.aload_n 2, 1) := by decide +kernel
theorem dL_law_1139 : decode cL_law 1139 = .ok (.aload_n 0, 1) := by decide +kernel
theorem dL_law_1140 : decode cL_law 1140 = .ok (.iload_n 3, 1) := by decide +kernel
theorem dL_law_1141 : decode cL_law 1141 = .ok (.iconst 1, 1) := by decide +kernel
theorem dL_law_1142 : decode cL_law 1142 = .ok (.iadd, 1) := by decide +kernel
theorem dL_law_1143 : decode cL_law 1143 = .ok (.iaload, 1) := by decide +kernel
theorem dL_law_1144 : decode cL_law 1144 = .ok (.invokevirtual 150, 3) := by decide +kernel
theorem dL_law_1147 : decode cL_law 1147 = .ok (.if_icmp .eq 65, 3) := by decide +kernel
theorem dL_law_1150 : decode cL_law 1150 = .ok (.iconst 0, 1) := by decide +kernel
theorem dL_law_1151 : decode cL_law 1151 = .ok (.ireturn, 1) := by decide +kernel
theorem dL_law_1152 : decode cL_law 1152 = .ok (.aload_n 1, 1) := by decide +kernel
theorem dL_law_1153 : decode cL_law 1153 = .ok (.aload_n 0, 1) := by decide +kernel
theorem dL_law_1154 : decode cL_law 1154 = .ok (.iload_n 3, 1) := by decide +kernel
theorem dL_law_1155 : decode cL_law 1155 = .ok (.iconst 1, 1) := by decide +kernel
theorem dL_law_1156 : decode cL_law 1156 = .ok (.iadd, 1) := by decide +kernel
theorem dL_law_1157 : decode cL_law 1157 = .ok (.iaload, 1) := by decide +kernel
theorem dL_law_1158 : decode cL_law 1158 = .ok (.invokevirtual 151, 3) := by decide +kernel
theorem dL_law_1161 : decode cL_law 1161 = .ok (.aload_n 2, 1) := by decide +kernel
theorem dL_law_1162 : decode cL_law 1162 = .ok (.aload_n 0, 1) := by decide +kernel
theorem dL_law_1163 : decode cL_law 1163 = .ok (.iload_n 3, 1) := by decide +kernel
theorem dL_law_1164 : decode cL_law 1164 = .ok (.iconst 1, 1) := by decide +kernel
theorem dL_law_1165 : decode cL_law 1165 = .ok (.iadd, 1) := by decide +kernel
theorem dL_law_1166 : decode cL_law 1166 = .ok (.iaload, 1) := by decide +kernel
theorem dL_law_1167 : decode cL_law 1167 = .ok (.invokevirtual 154, 3) := by decide +kernel
theorem dL_law_1170 : decode cL_law 1170 = .ok (.if_icmp .eq 42, 3) := by decide +kernel
theorem dL_law_1173 : decode cL_law 1173 = .ok (.iconst 0, 1) := by decide +kernel
theorem dL_law_1174 : decode cL_law 1174 = .ok (.ireturn, 1) := by decide +kernel
theorem dL_law_1175 : decode cL_law 1175 = .ok (.aload_n 1, 1) := by decide +kernel
theorem dL_law_1176 : decode cL_law 1176 = .ok (.aload_n 0, 1) := by decide +kernel
theorem dL_law_1177 : decode cL_law 1177 = .ok (.iload_n 3, 1) := by decide +kernel
theorem dL_law_1178 : decode cL_law 1178 = .ok (.iconst 1, 1) := by decide +kernel
theorem dL_law_1179 : decode cL_law 1179 = .ok (.iadd, 1) := by decide +kernel
theorem dL_law_1180 : decode cL_law 1180 = .ok (.iaload, 1) := by decide +kernel
theorem dL_law_1181 : decode cL_law 1181 = .ok (.invokevirtual 155, 3) := by decide +kernel
theorem dL_law_1184 : decode cL_law 1184 = .ok (.aload_n 2, 1) := by decide +kernel
theorem dL_law_1185 : decode cL_law 1185 = .ok (.aload_n 0, 1) := by decide +kernel
theorem dL_law_1186 : decode cL_law 1186 = .ok (.iload_n 3, 1) := by decide +kernel
theorem dL_law_1187 : decode cL_law 1187 = .ok (.iconst 1, 1) := by decide +kernel
theorem dL_law_1188 : decode cL_law 1188 = .ok (.iadd, 1) := by decide +kernel
theorem dL_law_1189 : decode cL_law 1189 = .ok (.iaload, 1) := by decide +kernel
theorem dL_law_1190 : decode cL_law 1190 = .ok (.invokevirtual 158, 3) := by decide +kernel
theorem dL_law_1193 : decode cL_law 1193 = .ok (.if_icmp .eq 19, 3) := by decide +kernel
theorem dL_law_1196 : decode cL_law 1196 = .ok (.iconst 0, 1) := by decide +kernel
theorem dL_law_1197 : decode cL_law 1197 = .ok (.ireturn, 1) := by decide +kernel
theorem dL_law_1198 : decode cL_law 1198 = .ok (.aload_n 1, 1) := by decide +kernel
theorem dL_law_1199 : decode cL_law 1199 = .ok (.invokevirtual 159, 3) := by decide +kernel
theorem dL_law_1202 : decode cL_law 1202 = .ok (.aload_n 2, 1) := by decide +kernel
theorem dL_law_1203 : decode cL_law 1203 = .ok (.invokevirtual 163, 3) := by decide +kernel
theorem dL_law_1206 : decode cL_law 1206 = .ok (.lcmp, 1) := by decide +kernel
theorem dL_law_1207 : decode cL_law 1207 = .ok (.ifCond .eq 5, 3) := by decide +kernel
theorem dL_law_1210 : decode cL_law 1210 = .ok (.iconst 0, 1) := by decide +kernel
theorem dL_law_1211 : decode cL_law 1211 = .ok (.ireturn, 1) := by decide +kernel
theorem dL_law_1212 : decode cL_law 1212 = .ok (.iinc 3 5, 3) := by decide +kernel
theorem dL_law_1215 : decode cL_law 1215 = .ok (.goto (-1197), 3) := by decide +kernel
theorem dL_law_1218 : decode cL_law 1218 = .ok (.iconst 1, 1) := by decide +kernel
theorem dL_law_1219 : decode cL_law 1219 = .ok (.ireturn, 1) := by decide +kernel
abbrev vwCl : List vw_C := [(RX1, TX1, 2), (RX2, TX2, 8), (RX4, TX4, 1), (RX5, TX5, 7), (RX6, TX6, 4), (RX7, TX7, 12), (RX8, TX8, 27)]
end
section
/-! ===== CORE: a static world of cells by their places, a judgement J over W, a row an instruction ===== -/
-- words
def BG : List Cond := lw_tbl.filter goodWord
theorem bg_of (k : Nat) {w : Cond} (h : lw_tbl[k]? = some w) (hg : goodWord w = true) : w ∈ BG := List.mem_filter.mpr ⟨List.mem_of_getElem? h, hg⟩
def wY (y : MethodName) (cc : ByteArray) (n : Nat) (ret : Option FieldType) : List Cond := .code y cc n ret :: BG
theorem good_BG {w : Cond} (h : w ∈ BG) : (w.onTables && w.keeps) = true ∨ ∃ ty, w = .arrayClass ty := good_of_word (List.mem_filter.mp h).2
theorem good_wY {y : MethodName} {cc : ByteArray} {n : Nat} {ret : Option FieldType} (h : Cond.code y cc n ret ∈ BG) : GoodIn BG (wY y cc n ret) := by
  intro w hw
  rcases List.mem_cons.mp hw with rfl | hw
  · exact ⟨h, good_BG h⟩
  · exact ⟨hw, good_BG hw⟩
def nestL : List Cond := [.methodLinkNest RX5 112 yX7_within RX7, .methodLinkNest RX2 70 yX7_isSpeakingMinute RX7, .methodLinkNest RX2 82 yX7_isIn RX7, .methodLinkNest RX4 36 yX7_isIn RX7, .methodLinkNest RX0 60 yX7_isIn RX7, .methodLinkNest RX1 52 yX7_isIn RX7]
-- numbers: a state is the ints and the longs of all places
abbrev Sg : Type := (Nat → Nat → Int32) × (Nat → Nat → Int64)
def si (σ : Sg) (k j : Nat) (x : Int32) : Sg := (fun a b => if a = k ∧ b = j then x else σ.1 a b, σ.2)
def sl (σ : Sg) (k j : Nat) (x : Int64) : Sg := (σ.1, fun a b => if a = k ∧ b = j then x else σ.2 a b)
-- the classes' fields: 0 an int, 1 a long, 2 a reference
def ftab : List (List Nat) := [[1, 1], [0, 2, 2, 2, 2, 2, 2, 2], [2], [2, 0, 0, 0, 0, 0, 0], [0, 0, 2, 0], [2, 2, 2, 2, 0, 0, 2, 2, 2, 0, 0, 0], [2, 0, 2, 2, 2, 0, 2, 2, 2, 0, 0, 0, 2, 2, 0, 2, 0, 2, 0, 2, 0, 2, 1, 1, 2, 2, 2]]
def fcl (ci : Nat) : List Nat := ftab.getD ci []
-- the places: which class (7 an int array, 8 a boolean array), how long
def layL : List Nat := [5] ++ (List.replicate 4 [1, 4, 7, 4, 7, 4, 7, 4, 7, 4, 7, 4, 7, 4, 7]).flatten ++ [3, 4, 7, 2, 4, 7, 0, 6, 7, 7, 7, 7, 7, 7, 7, 7, 7, 7, 7, 7, 7, 7, 7, 8]
def lenL : List Nat := [0] ++ (List.replicate 4 [0, 0, 24, 0, 9, 0, 4, 0, 15, 0, 24, 0, 24, 0, 88]).flatten ++ [0, 0, 150, 0, 0, 8, 0, 0, 3, 8, 8, 8, 3, 11, 150, 152, 88, 15, 24, 24, 8, 11, 392, 2]
def lay (k : Nat) : Nat := layL.getD k 9
def len (k : Nat) : Nat := lenL.getD k 0
/-- the finished references: of the field j of the place k, 1 more than the place that it names -/
def refs5 : List Nat := [2, 17, 32, 47, 0, 0, 62, 65, 68, 0, 0, 0]
def refs6 : List Nat := [70, 0, 71, 72, 73, 0, 74, 75, 76, 0, 0, 0, 77, 78, 0, 79, 0, 80, 0, 81, 0, 82, 0, 0, 83, 84, 85]
def RF (k j : Nat) : Nat := match lay k with
  | 1 => k + 2 * j
  | 2 => k + 2
  | 3 => k + 2
  | 4 => k + 2
  | 5 => refs5.getD j 0
  | 6 => refs6.getD j 0
  | _ => 0
def rv (ad : Nat → Nat) : Nat → Value
  | 0 => .null
  | p + 1 => .ref (ad p)
def fv (ad : Nat → Nat) (ρ : Nat → Nat → Nat) (σ : Sg) (k j : Nat) : Nat → Value
  | 0 => .int (σ.1 k j)
  | 1 => .long (σ.2 k j)
  | _ => rv ad (ρ k j)
def fs (ad : Nat → Nat) (ρ : Nat → Nat → Nat) (σ : Sg) (k ci : Nat) : List Value := (List.range (fcl ci).length).map (fun j => fv ad ρ σ k j ((fcl ci).getD j 0))
abbrev Ev : Type := va_G × (ClassId × ClassId) × (Nat → Nat) × (Nat → Nat) × Nat
def ent (E : Ev) (ad : Nat → Nat) (ρ : Nat → Nat → Nat) (σ : Sg) (k : Nat) : va_E := if lay k < 7 then .inr (lay k, fs ad ρ σ k (lay k)) else .inl (if lay k = 7 then E.2.1.1 else E.2.1.2, (len k, .inl (σ.1 k)))
def wl (E : Ev) (ad : Nat → Nat) (ρ : Nat → Nat → Nat) (N : Nat) (σ : Sg) : va_W := (List.range N).map (fun k => (ad k, ent E ad ρ σ k))
theorem wl_at {E : Ev} {ad : Nat → Nat} {ρ : Nat → Nat → Nat} {N : Nat} {σ : Sg} {k : Nat} (h : k < N) : (wl E ad ρ N σ)[k]? = some (ad k, ent E ad ρ σ k) := by
  simp [wl, List.getElem?_map, List.getElem?_range h]
theorem wl_len {E : Ev} {ad : Nat → Nat} {ρ : Nat → Nat → Nat} {N : Nat} {σ : Sg} : (wl E ad ρ N σ).length = N := by simp [wl]
theorem wl_inv {E : Ev} {ad : Nat → Nat} {ρ : Nat → Nat → Nat} {N : Nat} {σ : Sg} {k : Nat} {q : Nat × va_E} (h : (wl E ad ρ N σ)[k]? = some q) : k < N ∧ q = (ad k, ent E ad ρ σ k) := by
  have hk : k < N := by
    have := (List.getElem?_eq_some_iff.mp h).1
    rwa [wl_len] at this
  exact ⟨hk, (Option.some.inj (h.symm.trans (wl_at hk)))⟩
theorem wl_set {E : Ev} {ad : Nat → Nat} {ρ ρ' : Nat → Nat → Nat} {N : Nat} {σ σ' : Sg} {k : Nat} {e : va_E} (h0 : e = ent E ad ρ' σ' k) (h : ∀ i, i ≠ k → ent E ad ρ' σ' i = ent E ad ρ σ i) : (wl E ad ρ N σ).set k (ad k, e) = wl E ad ρ' N σ' := by
  apply List.ext_getElem?
  intro i
  rw [List.getElem?_set]
  by_cases hi : i < N
  · by_cases hk : k = i
    · subst hk
      rw [if_pos rfl, if_pos (by rw [wl_len]; exact hi), wl_at hi, h0]
    · rw [if_neg hk, wl_at hi, wl_at hi, h i (fun q => hk q.symm)]
  · have n1 : (wl E ad ρ N σ)[i]? = none := by rw [List.getElem?_eq_none_iff, wl_len]; omega
    have n2 : (wl E ad ρ' N σ')[i]? = none := by rw [List.getElem?_eq_none_iff, wl_len]; omega
    by_cases hk : k = i
    · subst hk
      simp [wl_len, hi, n2]
    · rw [if_neg hk, n1, n2]
def AD (ad : Nat → Nat) (N B0 : Nat) : Prop := (∀ i j, i < N → j < N → ad i = ad j → i = j) ∧ ∀ k, k < N → B0 ≤ ad k
theorem AD.D {ad : Nat → Nat} {N : Nat} {E : Ev} {ρ : Nat → Nat → Nat} {σ : Sg} (h : AD ad N E.2.2.2.2) : va_D (fun q => E.2.2.2.2 ≤ q) (wl E ad ρ N σ) := by
  refine ⟨fun i j p q hi hj e => ?_, fun k q hk => ?_⟩
  · obtain ⟨h1, rfl⟩ := wl_inv hi
    obtain ⟨h2, rfl⟩ := wl_inv hj
    exact h.1 i j h1 h2 e
  · obtain ⟨h1, rfl⟩ := wl_inv hk
    exact h.2 k h1
theorem fs_get {ad : Nat → Nat} {ρ : Nat → Nat → Nat} {σ : Sg} {k ci j t : Nat} (h : (fcl ci)[j]? = some t) : (fs ad ρ σ k ci)[j]? = some (fv ad ρ σ k j t) := by
  have hj : j < (fcl ci).length := (List.getElem?_eq_some_iff.mp h).1
  have hd : (fcl ci).getD j 0 = t := by simp [List.getD, h]
  simp only [fs, List.getElem?_map, List.getElem?_range hj, Option.map_some, hd]
theorem fs_len {ad : Nat → Nat} {ρ : Nat → Nat → Nat} {σ : Sg} {k ci : Nat} : (fs ad ρ σ k ci).length = (fcl ci).length := by simp [fs]
theorem fs_set {ad : Nat → Nat} {ρ ρ' : Nat → Nat → Nat} {σ σ' : Sg} {k ci j t : Nat} {v : Value} (h : (fcl ci)[j]? = some t) (hv : v = fv ad ρ' σ' k j t) (ho : ∀ i t', i ≠ j → fv ad ρ' σ' k i t' = fv ad ρ σ k i t') : (fs ad ρ σ k ci).set j v = fs ad ρ' σ' k ci := by
  have hj : j < (fcl ci).length := (List.getElem?_eq_some_iff.mp h).1
  apply List.ext_getElem?
  intro i
  rw [List.getElem?_set]
  by_cases hi : i < (fcl ci).length
  · obtain ⟨t', ht'⟩ : ∃ t', (fcl ci)[i]? = some t' := ⟨_, List.getElem?_eq_getElem hi⟩
    by_cases hk : j = i
    · subst hk
      rw [h] at ht'
      cases ht'
      rw [if_pos rfl, if_pos (by rw [fs_len]; exact hi), fs_get h, hv]
    · rw [if_neg hk, fs_get ht', fs_get ht', ho i t' (fun q => hk q.symm)]
  · have n1 : (fs ad ρ σ k ci)[i]? = none := by rw [List.getElem?_eq_none_iff, fs_len]; omega
    have n2 : (fs ad ρ' σ' k ci)[i]? = none := by rw [List.getElem?_eq_none_iff, fs_len]; omega
    by_cases hk : j = i
    · subst hk
      exact absurd hj hi
    · rw [if_neg hk, n1, n2]
theorem ent_obj {E : Ev} {ad : Nat → Nat} {ρ : Nat → Nat → Nat} {σ : Sg} {k ci : Nat} (h : lay k = ci) (h7 : ci < 7) : ent E ad ρ σ k = .inr (ci, fs ad ρ σ k ci) := by
  subst h
  simp [ent, h7]
theorem ent_int {E : Ev} {ad : Nat → Nat} {ρ : Nat → Nat → Nat} {σ : Sg} {k : Nat} (h : lay k = 7) : ent E ad ρ σ k = .inl (E.2.1.1, (len k, .inl (σ.1 k))) := by
  simp [ent, h]
theorem ent_bool {E : Ev} {ad : Nat → Nat} {ρ : Nat → Nat → Nat} {σ : Sg} {k : Nat} (h : lay k = 8) : ent E ad ρ σ k = .inl (E.2.1.2, (len k, .inl (σ.1 k))) := by
  simp [ent, h]
theorem ent_same {E : Ev} {ad : Nat → Nat} {ρ ρ' : Nat → Nat → Nat} {σ σ' : Sg} {k : Nat} (h1 : σ'.1 k = σ.1 k) (h2 : σ'.2 k = σ.2 k) (h3 : ρ' k = ρ k) : ent E ad ρ' σ' k = ent E ad ρ σ k := by
  have hf : ∀ j t, fv ad ρ' σ' k j t = fv ad ρ σ k j t := fun j t => by
    unfold fv
    rw [h1, h2, h3]
  unfold ent fs
  simp only [hf, h1]
-- what a state's machine and its old cells hold: the classes, the nest's words, the literals, a static
def litT (i : Nat) : String := ["house", "say", "ear", "strip", "paper", "minutes"].getD i ""
def litK (i : Nat) : Nat := [32, 64, 66, 68, 70, 72].getD i 0
def litN : List Nat := [5, 3, 3, 5, 5, 7]
def litB : List (List Int32) := [[104, 111, 117, 115, 101], [115, 97, 121], [101, 97, 114], [115, 116, 114, 105, 112], [112, 97, 112, 101, 114], [109, 105, 110, 117, 116, 101, 115]]
abbrev EA (E : Ev) : Nat → Prop := fun q => E.2.2.2.2 ≤ q
def VmOK (E : Ev) (U : State) : Prop :=
  va_K E.1 vwCl [(E.2.1.1, .int), (E.2.1.2, .boolean)] U ∧ (∀ w ∈ nestL, va_Nw w U) ∧ (∀ i, i < 6 → vk_R RX5 (litK i) (litT i) (E.2.2.1 i) U) ∧
  vk_S 6 litN litB E.2.2.1 E.2.2.2.1 (EA E) U U.heap ∧ va_Z "java/lang/String" "COMPACT_STRINGS" "Z" (.int 1) (EA E) U U.heap ∧ E.2.2.2.2 ≤ U.heap.size ∧ va_Zq "jdk/internal/util/Preconditions" "SIOOBE_FORMATTER" "Ljava/util/function/BiFunction;" (EA E) U U.heap
theorem VmOK.next {E : Ev} {s U : State} (h : VmOK E s) (hW : s.WarmedH U.vm) (hk : ∀ q : Nat, q < s.heap.size → ¬ EA E q → U.heap[q]? = s.heap[q]?) (hz : s.heap.size ≤ U.heap.size) : VmOK E U := by
  obtain ⟨h1, h2, h3, h4, h5, h6, h7⟩ := h
  refine ⟨va_K.moved hW.alike h1, fun w hw => ?_, fun i hi => (h3 i hi).warm hW, (vk_S.moved hW.alike h4).kept hk, (va_Z.moved hW.alike h5).kept hk, Nat.le_trans h6 hz, (va_Zq.moved hW.alike h7).kept hk⟩
  have h := h2 w hw
  simp only [nestL, List.mem_cons, List.not_mem_nil, or_false] at hw
  rcases hw with rfl | rfl | rfl | rfl | rfl | rfl <;> exact h.warmM hW
theorem VmOK.same {E : Ev} {s U : State} (h : VmOK E s) (hv : U.vm = s.vm) (hh : U.heap = s.heap) : VmOK E U := by
  obtain ⟨h1, h2, h3, h4, h5, h6, h7⟩ := h
  have ha : s.vm.Alike U.vm := by rw [hv]; exact Vm.Alike.refl _
  refine ⟨va_K.moved ha h1, fun w hw => ?_, fun i hi => (h3 i hi).same hv, (vk_S.moved ha h4).kept (fun q _ _ => by rw [hh]), (va_Z.moved ha h5).kept (fun q _ _ => by rw [hh]), by rw [hh]; exact h6, (va_Zq.moved ha h7).kept (fun q _ _ => by rw [hh])⟩
  have h := h2 w hw
  simp only [nestL, List.mem_cons, List.not_mem_nil, or_false] at hw
  rcases hw with rfl | rfl | rfl | rfl | rfl | rfl <;> exact va_Nw.same rfl hv.symm h
-- a method's start and end
def PreU (E : Ev) (ad : Nat → Nat) (ρ : Nat → Nat → Nat) (N : Nat) (σ : Sg) (U : State) : Prop := va_P E.1 vwCl (wl E ad ρ N σ) U.heap ∧ AD ad N E.2.2.2.2 ∧ VmOK E U
def QcN (E : Ev) (ad : Nat → Nat) (res : Option Value × Sg) : Array Value → State → Outcome → State → Prop := fun _ st oc t => oc = .returned res.1 ∧ va_P E.1 vwCl (wl E ad RF 85 res.2) t.heap ∧ va_F (EA E) st t
def QcC (E : Ev) (ad : Nat → Nat) (N N' : Nat) (ρ' : Nat → Nat → Nat) (σ' : Sg) : Array Value → State → Outcome → State → Prop := fun _ st oc t => oc = .returned none ∧ (∃ ad', (∀ k, k < N → ad' k = ad k) ∧ AD ad' N' E.2.2.2.2 ∧ va_P E.1 vwCl (wl E ad' ρ' N' σ') t.heap) ∧ va_F (EA E) st t
theorem blindU {E : Ev} {ad : Nat → Nat} {ρ : Nat → Nat → Nat} {N : Nat} {σ : Sg} {av : List Value} : FrameBlind (va_Pc av (PreU E ad ρ N σ)) := by
  intro a U g mk h
  obtain ⟨h1, h2, h3, h4⟩ := h
  exact ⟨h1, h2, h3, h4.same (s := U) rfl rfl⟩
-- the judgement
abbrev Cx : Type := Program × Launch × Env × Room × State × MethodId × Array Value × List Frame × Method × Code × (State → Prop)
abbrev Cx.p (Γ : Cx) := Γ.1
abbrev Cx.s (Γ : Cx) := Γ.2.2.2.2.1
abbrev Cx.m (Γ : Cx) := Γ.2.2.2.2.2.1
abbrev Cx.args (Γ : Cx) := Γ.2.2.2.2.2.2.1
abbrev Cx.c (Γ : Cx) := Γ.2.2.2.2.2.2.2.2.2.1
def CW (Γ : Cx) (H : Heap) (locs : List Loc) (cells slots : Nat) (g : JFrame) : Prop :=
  W Γ.1 Γ.2.1 Γ.2.2.1 Γ.2.2.2.1 Γ.2.2.2.2.1 Γ.2.2.2.2.2.1 Γ.2.2.2.2.2.2.1 Γ.2.2.2.2.2.2.2.1 Γ.2.2.2.2.2.2.2.2.1 Γ.2.2.2.2.2.2.2.2.2.1 H locs cells slots Γ.2.2.2.2.2.2.2.2.2.2 g
/-- what holds all through a method: the machine, its code, its class, its words, the old cells -/
def XC (Γ : Cx) (E : Ev) (rm : Room) (cc : ByteArray) (nL : Nat) (own : String) : Prop :=
  Γ.p.tables.exec = Jvm.exec ∧ Γ.c.code = cc ∧ Γ.c.maxLocals = nL ∧ Γ.s.vm.findClass own = some Γ.m.cls ∧ (∀ w ∈ BG, w.before Γ.args Γ.s = true) ∧ VmOK E Γ.s ∧ Γ.2.2.2.1 = rm
/-- how a method that answers ends -/
def XQ (Γ : Cx) (E : Ev) (ad : Nat → Nat) (ret : Option FieldType) (res : Option Value × Sg) : Prop :=
  Γ.2.2.2.2.2.2.2.2.1.sig.returnType = ret ∧ Γ.2.2.2.2.2.2.2.2.1.locks = false ∧ Γ.2.2.2.2.2.2.2.2.2.2 = MQ Γ.2.2.2.2.2.2.2.1 (QcN E ad res) Γ.args Γ.s 0 0 (EA E)
def J (Γ : Cx) (E : Ev) (nL : Nat) (ad : Nat → Nat) (ρ : Nat → Nat → Nat) (N : Nat) (σ : Sg) (cs sz : Nat) (pc : Nat) (L : List (Nat × Value)) (st : List Value) : Prop :=
  ∀ (H : Heap) (locs : List Loc) (ls : Array Slot), lv_has ls nL L → va_P E.1 vwCl (wl E ad ρ N σ) H → AD ad N E.2.2.2.2 → va_S (EA E) Γ.s.heap H locs → CW Γ H locs cs sz (F0 Γ.m pc ls st)
theorem J.sub {Γ : Cx} {E : Ev} {nL : Nat} {ad : Nat → Nat} {ρ : Nat → Nat → Nat} {N : Nat} {σ : Sg} {cs sz pc : Nat} {L L' : List (Nat × Value)} {st : List Value} (ks : List Nat) (hl : lv_pick L ks = L') (h : J Γ E nL ad ρ N σ cs sz pc L' st) : J Γ E nL ad ρ N σ cs sz pc L st :=
  fun H locs ls h1 h2 h3 h4 => h H locs ls (lv_sub h1 ks hl) h2 h3 h4
end
section
/-! ===== J ROWS: printed by wip/gen/mkrows.py ===== -/
theorem j_iconst {Γ : Cx} {E : Ev} {rm : Room} {cc : ByteArray} {nL : Nat} {own : String} {ad : Nat → Nat} {ρ : Nat → Nat → Nat} {N : Nat} {σ : Sg} {cs sz pc : Nat} {L : List (Nat × Value)} {st : List Value} (X : XC Γ E rm cc nL own) {n : Int} {v : Int32} (hv : Int32.ofInt n = v) (hd : decode cc pc = .ok (.iconst n, 1)) (kk : J Γ E nL ad ρ N σ cs sz (pc + 1) L (.int v :: st)) : J Γ E nL ad ρ N σ cs sz pc L st :=
  fun H locs ls hl hP hA hS => lv_iconst X.1 X.2.1 hd hv (kk H locs ls hl hP hA hS)
theorem j_bipush {Γ : Cx} {E : Ev} {rm : Room} {cc : ByteArray} {nL : Nat} {own : String} {ad : Nat → Nat} {ρ : Nat → Nat → Nat} {N : Nat} {σ : Sg} {cs sz pc : Nat} {L : List (Nat × Value)} {st : List Value} (X : XC Γ E rm cc nL own) {n : Int} {v : Int32} (hv : (Int8.ofInt n).toInt32 = v) (hd : decode cc pc = .ok (.bipush n, 2)) (kk : J Γ E nL ad ρ N σ cs sz (pc + 2) L (.int v :: st)) : J Γ E nL ad ρ N σ cs sz pc L st :=
  fun H locs ls hl hP hA hS => lv_bipush X.1 X.2.1 hd hv (kk H locs ls hl hP hA hS)
theorem j_sipush {Γ : Cx} {E : Ev} {rm : Room} {cc : ByteArray} {nL : Nat} {own : String} {ad : Nat → Nat} {ρ : Nat → Nat → Nat} {N : Nat} {σ : Sg} {cs sz pc : Nat} {L : List (Nat × Value)} {st : List Value} (X : XC Γ E rm cc nL own) {n : Int} {v : Int32} (hv : (Int16.ofInt n).toInt32 = v) (hd : decode cc pc = .ok (.sipush n, 3)) (kk : J Γ E nL ad ρ N σ cs sz (pc + 3) L (.int v :: st)) : J Γ E nL ad ρ N σ cs sz pc L st :=
  fun H locs ls hl hP hA hS => lv_sipush X.1 X.2.1 hd hv (kk H locs ls hl hP hA hS)
theorem j_lconst {Γ : Cx} {E : Ev} {rm : Room} {cc : ByteArray} {nL : Nat} {own : String} {ad : Nat → Nat} {ρ : Nat → Nat → Nat} {N : Nat} {σ : Sg} {cs sz pc : Nat} {L : List (Nat × Value)} {st : List Value} (X : XC Γ E rm cc nL own) {n : Fin 2} {v : Int64} (hv : Int64.ofNat (n : Nat) = v) (hd : decode cc pc = .ok (.lconst n, 1)) (kk : J Γ E nL ad ρ N σ cs sz (pc + 1) L (.long v :: st)) : J Γ E nL ad ρ N σ cs sz pc L st :=
  fun H locs ls hl hP hA hS => lv_lconst X.1 X.2.1 hd hv (kk H locs ls hl hP hA hS)
theorem j_ldc {Γ : Cx} {E : Ev} {rm : Room} {cc : ByteArray} {nL : Nat} {own : String} {ad : Nat → Nat} {ρ : Nat → Nat → Nat} {N : Nat} {σ : Sg} {cs sz pc : Nat} {L : List (Nat × Value)} {st : List Value} (X : XC Γ E rm cc nL own) {index : Nat} {v : Int32} (hw : Cond.constant own index v ∈ BG) (hd : decode cc pc = .ok (.ldc index, 2)) (kk : J Γ E nL ad ρ N σ cs sz (pc + 2) L (.int v :: st)) : J Γ E nL ad ρ N σ cs sz pc L st :=
  fun H locs ls hl hP hA hS => lv_ldc X.1 X.2.1 X.2.2.2.1 (X.2.2.2.2.1 _ hw) hd (kk H locs ls hl hP hA hS)
theorem j_ldcw {Γ : Cx} {E : Ev} {rm : Room} {cc : ByteArray} {nL : Nat} {own : String} {ad : Nat → Nat} {ρ : Nat → Nat → Nat} {N : Nat} {σ : Sg} {cs sz pc : Nat} {L : List (Nat × Value)} {st : List Value} (X : XC Γ E rm cc nL own) {index : Nat} {v : Int32} (hw : Cond.constant own index v ∈ BG) (hd : decode cc pc = .ok (.ldc_w index, 3)) (kk : J Γ E nL ad ρ N σ cs sz (pc + 3) L (.int v :: st)) : J Γ E nL ad ρ N σ cs sz pc L st :=
  fun H locs ls hl hP hA hS => lv_ldcw X.1 X.2.1 X.2.2.2.1 (X.2.2.2.2.1 _ hw) hd (kk H locs ls hl hP hA hS)
theorem j_ldc2 {Γ : Cx} {E : Ev} {rm : Room} {cc : ByteArray} {nL : Nat} {own : String} {ad : Nat → Nat} {ρ : Nat → Nat → Nat} {N : Nat} {σ : Sg} {cs sz pc : Nat} {L : List (Nat × Value)} {st : List Value} (X : XC Γ E rm cc nL own) {index : Nat} {v : Int64} (hw : Cond.constantLong own index v ∈ BG) (hd : decode cc pc = .ok (.ldc2_w index, 3)) (kk : J Γ E nL ad ρ N σ cs sz (pc + 3) L (.long v :: st)) : J Γ E nL ad ρ N σ cs sz pc L st :=
  fun H locs ls hl hP hA hS => lv_ldc2 X.1 X.2.1 X.2.2.2.1 (X.2.2.2.2.1 _ hw) hd (kk H locs ls hl hP hA hS)
theorem j_iload_n {Γ : Cx} {E : Ev} {rm : Room} {cc : ByteArray} {nL : Nat} {own : String} {ad : Nat → Nat} {ρ : Nat → Nat → Nat} {N : Nat} {σ : Sg} {cs sz pc : Nat} {L : List (Nat × Value)} {st : List Value} (X : XC Γ E rm cc nL own) {k : Fin 4} {i : Nat} {x : Int32} (j : Nat) (hi : (k : Nat) = i) (hj : L[j]? = some (i, .int x)) (hd : decode cc pc = .ok (.iload_n k, 1)) (kk : J Γ E nL ad ρ N σ cs sz (pc + 1) L (.int x :: st)) : J Γ E nL ad ρ N σ cs sz pc L st :=
  fun H locs ls hl hP hA hS => lv_iload_n X.1 X.2.1 hd hi (lv_at hl j hj) (kk H locs ls hl hP hA hS)
theorem j_iload {Γ : Cx} {E : Ev} {rm : Room} {cc : ByteArray} {nL : Nat} {own : String} {ad : Nat → Nat} {ρ : Nat → Nat → Nat} {N : Nat} {σ : Sg} {cs sz pc : Nat} {L : List (Nat × Value)} {st : List Value} (X : XC Γ E rm cc nL own) {i : Nat} {x : Int32} (j : Nat) (hj : L[j]? = some (i, .int x)) (hd : decode cc pc = .ok (.iload i, 2)) (kk : J Γ E nL ad ρ N σ cs sz (pc + 2) L (.int x :: st)) : J Γ E nL ad ρ N σ cs sz pc L st :=
  fun H locs ls hl hP hA hS => lv_iload X.1 X.2.1 hd (lv_at hl j hj) (kk H locs ls hl hP hA hS)
theorem j_lload_n {Γ : Cx} {E : Ev} {rm : Room} {cc : ByteArray} {nL : Nat} {own : String} {ad : Nat → Nat} {ρ : Nat → Nat → Nat} {N : Nat} {σ : Sg} {cs sz pc : Nat} {L : List (Nat × Value)} {st : List Value} (X : XC Γ E rm cc nL own) {k : Fin 4} {i : Nat} {x : Int64} (j : Nat) (hi : (k : Nat) = i) (hj : L[j]? = some (i, .long x)) (hd : decode cc pc = .ok (.lload_n k, 1)) (kk : J Γ E nL ad ρ N σ cs sz (pc + 1) L (.long x :: st)) : J Γ E nL ad ρ N σ cs sz pc L st :=
  fun H locs ls hl hP hA hS => lv_lload_n X.1 X.2.1 hd hi (lv_at hl j hj) (kk H locs ls hl hP hA hS)
theorem j_lload {Γ : Cx} {E : Ev} {rm : Room} {cc : ByteArray} {nL : Nat} {own : String} {ad : Nat → Nat} {ρ : Nat → Nat → Nat} {N : Nat} {σ : Sg} {cs sz pc : Nat} {L : List (Nat × Value)} {st : List Value} (X : XC Γ E rm cc nL own) {i : Nat} {x : Int64} (j : Nat) (hj : L[j]? = some (i, .long x)) (hd : decode cc pc = .ok (.lload i, 2)) (kk : J Γ E nL ad ρ N σ cs sz (pc + 2) L (.long x :: st)) : J Γ E nL ad ρ N σ cs sz pc L st :=
  fun H locs ls hl hP hA hS => lv_lload X.1 X.2.1 hd (lv_at hl j hj) (kk H locs ls hl hP hA hS)
theorem j_aload_n {Γ : Cx} {E : Ev} {rm : Room} {cc : ByteArray} {nL : Nat} {own : String} {ad : Nat → Nat} {ρ : Nat → Nat → Nat} {N : Nat} {σ : Sg} {cs sz pc : Nat} {L : List (Nat × Value)} {st : List Value} (X : XC Γ E rm cc nL own) {k : Fin 4} {i : Nat} {x : Nat} (j : Nat) (hi : (k : Nat) = i) (hj : L[j]? = some (i, .ref x)) (hd : decode cc pc = .ok (.aload_n k, 1)) (kk : J Γ E nL ad ρ N σ cs sz (pc + 1) L (.ref x :: st)) : J Γ E nL ad ρ N σ cs sz pc L st :=
  fun H locs ls hl hP hA hS => lv_aload_n X.1 X.2.1 hd hi (lv_at hl j hj) (kk H locs ls hl hP hA hS)
theorem j_aload {Γ : Cx} {E : Ev} {rm : Room} {cc : ByteArray} {nL : Nat} {own : String} {ad : Nat → Nat} {ρ : Nat → Nat → Nat} {N : Nat} {σ : Sg} {cs sz pc : Nat} {L : List (Nat × Value)} {st : List Value} (X : XC Γ E rm cc nL own) {i : Nat} {x : Nat} (j : Nat) (hj : L[j]? = some (i, .ref x)) (hd : decode cc pc = .ok (.aload i, 2)) (kk : J Γ E nL ad ρ N σ cs sz (pc + 2) L (.ref x :: st)) : J Γ E nL ad ρ N σ cs sz pc L st :=
  fun H locs ls hl hP hA hS => lv_aload X.1 X.2.1 hd (lv_at hl j hj) (kk H locs ls hl hP hA hS)
theorem j_istore_n {Γ : Cx} {E : Ev} {rm : Room} {cc : ByteArray} {nL : Nat} {own : String} {ad : Nat → Nat} {ρ : Nat → Nat → Nat} {N : Nat} {σ : Sg} {cs sz pc : Nat} {L : List (Nat × Value)} {st : List Value} (X : XC Γ E rm cc nL own) {k : Fin 4} {i : Nat} {x e : Int32} {L' : List (Nat × Value)} (hx : x = e) (hi : (k : Nat) = i) (hn : i < nL) (hL : (i, Value.int x) :: L.filter (fun q => !(q.1 == i) && !(q.1 + 1 == i && q.2.category == 2)) = L') (hd : decode cc pc = .ok (.istore_n k, 1)) (kk : J Γ E nL ad ρ N σ cs sz (pc + 1) L' st) : J Γ E nL ad ρ N σ cs sz pc L (.int e :: st) := by
  subst hx
  exact fun H locs ls hl hP hA hS => lv_istore_n X.1 X.2.1 hd hi hl hn hL (fun ls1 hl1 => (kk H locs ls1 hl1 hP hA hS))
theorem j_istore {Γ : Cx} {E : Ev} {rm : Room} {cc : ByteArray} {nL : Nat} {own : String} {ad : Nat → Nat} {ρ : Nat → Nat → Nat} {N : Nat} {σ : Sg} {cs sz pc : Nat} {L : List (Nat × Value)} {st : List Value} (X : XC Γ E rm cc nL own) {i : Nat} {x e : Int32} {L' : List (Nat × Value)} (hx : x = e) (hn : i < nL) (hL : (i, Value.int x) :: L.filter (fun q => !(q.1 == i) && !(q.1 + 1 == i && q.2.category == 2)) = L') (hd : decode cc pc = .ok (.istore i, 2)) (kk : J Γ E nL ad ρ N σ cs sz (pc + 2) L' st) : J Γ E nL ad ρ N σ cs sz pc L (.int e :: st) := by
  subst hx
  exact fun H locs ls hl hP hA hS => lv_istore X.1 X.2.1 hd hl hn hL (fun ls1 hl1 => (kk H locs ls1 hl1 hP hA hS))
theorem j_lstore_n {Γ : Cx} {E : Ev} {rm : Room} {cc : ByteArray} {nL : Nat} {own : String} {ad : Nat → Nat} {ρ : Nat → Nat → Nat} {N : Nat} {σ : Sg} {cs sz pc : Nat} {L : List (Nat × Value)} {st : List Value} (X : XC Γ E rm cc nL own) {k : Fin 4} {i : Nat} {x e : Int64} {L' : List (Nat × Value)} (hx : x = e) (hi : (k : Nat) = i) (hn : i + 1 < nL) (hL : (i, Value.long x) :: L.filter (fun q => !(q.1 == i) && (!(q.1 == i + 1) && !(q.1 + 1 == i && q.2.category == 2))) = L') (hd : decode cc pc = .ok (.lstore_n k, 1)) (kk : J Γ E nL ad ρ N σ cs sz (pc + 1) L' st) : J Γ E nL ad ρ N σ cs sz pc L (.long e :: st) := by
  subst hx
  exact fun H locs ls hl hP hA hS => lv_lstore_n X.1 X.2.1 hd hi hl hn hL (fun ls1 hl1 => (kk H locs ls1 hl1 hP hA hS))
theorem j_lstore {Γ : Cx} {E : Ev} {rm : Room} {cc : ByteArray} {nL : Nat} {own : String} {ad : Nat → Nat} {ρ : Nat → Nat → Nat} {N : Nat} {σ : Sg} {cs sz pc : Nat} {L : List (Nat × Value)} {st : List Value} (X : XC Γ E rm cc nL own) {i : Nat} {x e : Int64} {L' : List (Nat × Value)} (hx : x = e) (hn : i + 1 < nL) (hL : (i, Value.long x) :: L.filter (fun q => !(q.1 == i) && (!(q.1 == i + 1) && !(q.1 + 1 == i && q.2.category == 2))) = L') (hd : decode cc pc = .ok (.lstore i, 2)) (kk : J Γ E nL ad ρ N σ cs sz (pc + 2) L' st) : J Γ E nL ad ρ N σ cs sz pc L (.long e :: st) := by
  subst hx
  exact fun H locs ls hl hP hA hS => lv_lstore X.1 X.2.1 hd hl hn hL (fun ls1 hl1 => (kk H locs ls1 hl1 hP hA hS))
theorem j_astore_n {Γ : Cx} {E : Ev} {rm : Room} {cc : ByteArray} {nL : Nat} {own : String} {ad : Nat → Nat} {ρ : Nat → Nat → Nat} {N : Nat} {σ : Sg} {cs sz pc : Nat} {L : List (Nat × Value)} {st : List Value} (X : XC Γ E rm cc nL own) {k : Fin 4} {i : Nat} {x e : Nat} {L' : List (Nat × Value)} (hx : x = e) (hi : (k : Nat) = i) (hn : i < nL) (hL : (i, Value.ref x) :: L.filter (fun q => !(q.1 == i) && !(q.1 + 1 == i && q.2.category == 2)) = L') (hd : decode cc pc = .ok (.astore_n k, 1)) (kk : J Γ E nL ad ρ N σ cs sz (pc + 1) L' st) : J Γ E nL ad ρ N σ cs sz pc L (.ref e :: st) := by
  subst hx
  exact fun H locs ls hl hP hA hS => lv_astore_n X.1 X.2.1 hd hi hl hn hL (fun ls1 hl1 => (kk H locs ls1 hl1 hP hA hS))
theorem j_astore {Γ : Cx} {E : Ev} {rm : Room} {cc : ByteArray} {nL : Nat} {own : String} {ad : Nat → Nat} {ρ : Nat → Nat → Nat} {N : Nat} {σ : Sg} {cs sz pc : Nat} {L : List (Nat × Value)} {st : List Value} (X : XC Γ E rm cc nL own) {i : Nat} {x e : Nat} {L' : List (Nat × Value)} (hx : x = e) (hn : i < nL) (hL : (i, Value.ref x) :: L.filter (fun q => !(q.1 == i) && !(q.1 + 1 == i && q.2.category == 2)) = L') (hd : decode cc pc = .ok (.astore i, 2)) (kk : J Γ E nL ad ρ N σ cs sz (pc + 2) L' st) : J Γ E nL ad ρ N σ cs sz pc L (.ref e :: st) := by
  subst hx
  exact fun H locs ls hl hP hA hS => lv_astore X.1 X.2.1 hd hl hn hL (fun ls1 hl1 => (kk H locs ls1 hl1 hP hA hS))
theorem j_iinc {Γ : Cx} {E : Ev} {rm : Room} {cc : ByteArray} {nL : Nat} {own : String} {ad : Nat → Nat} {ρ : Nat → Nat → Nat} {N : Nat} {σ : Sg} {cs sz pc : Nat} {L : List (Nat × Value)} {st : List Value} (X : XC Γ E rm cc nL own) {i : Nat} {n : Int} {x v : Int32} {L' : List (Nat × Value)} (j : Nat) (hj : L[j]? = some (i, .int x)) (hv : v = x + Int32.ofInt n) (hn : i < nL) (hL : (i, Value.int v) :: L.filter (fun q => !(q.1 == i) && !(q.1 + 1 == i && q.2.category == 2)) = L') (hd : decode cc pc = .ok (.iinc i n, 3)) (kk : J Γ E nL ad ρ N σ cs sz (pc + 3) L' st) : J Γ E nL ad ρ N σ cs sz pc L st :=
  fun H locs ls hl hP hA hS => lv_iinc X.1 X.2.1 hd hl hj hv.symm hn hL (fun ls1 hl1 => (kk H locs ls1 hl1 hP hA hS))
theorem j_iadd {Γ : Cx} {E : Ev} {rm : Room} {cc : ByteArray} {nL : Nat} {own : String} {ad : Nat → Nat} {ρ : Nat → Nat → Nat} {N : Nat} {σ : Sg} {cs sz pc : Nat} {L : List (Nat × Value)} {st : List Value} (X : XC Γ E rm cc nL own) {x y : Int32} (hd : decode cc pc = .ok (.iadd, 1)) (kk : J Γ E nL ad ρ N σ cs sz (pc + 1) L (.int (x + y) :: st)) : J Γ E nL ad ρ N σ cs sz pc L (.int y :: .int x :: st) :=
  fun H locs ls hl hP hA hS => lv_iadd X.1 X.2.1 hd (kk H locs ls hl hP hA hS)
theorem j_isub {Γ : Cx} {E : Ev} {rm : Room} {cc : ByteArray} {nL : Nat} {own : String} {ad : Nat → Nat} {ρ : Nat → Nat → Nat} {N : Nat} {σ : Sg} {cs sz pc : Nat} {L : List (Nat × Value)} {st : List Value} (X : XC Γ E rm cc nL own) {x y : Int32} (hd : decode cc pc = .ok (.isub, 1)) (kk : J Γ E nL ad ρ N σ cs sz (pc + 1) L (.int (x - y) :: st)) : J Γ E nL ad ρ N σ cs sz pc L (.int y :: .int x :: st) :=
  fun H locs ls hl hP hA hS => lv_isub X.1 X.2.1 hd (kk H locs ls hl hP hA hS)
theorem j_imul {Γ : Cx} {E : Ev} {rm : Room} {cc : ByteArray} {nL : Nat} {own : String} {ad : Nat → Nat} {ρ : Nat → Nat → Nat} {N : Nat} {σ : Sg} {cs sz pc : Nat} {L : List (Nat × Value)} {st : List Value} (X : XC Γ E rm cc nL own) {x y : Int32} (hd : decode cc pc = .ok (.imul, 1)) (kk : J Γ E nL ad ρ N σ cs sz (pc + 1) L (.int (x * y) :: st)) : J Γ E nL ad ρ N σ cs sz pc L (.int y :: .int x :: st) :=
  fun H locs ls hl hP hA hS => lv_imul X.1 X.2.1 hd (kk H locs ls hl hP hA hS)
theorem j_iand {Γ : Cx} {E : Ev} {rm : Room} {cc : ByteArray} {nL : Nat} {own : String} {ad : Nat → Nat} {ρ : Nat → Nat → Nat} {N : Nat} {σ : Sg} {cs sz pc : Nat} {L : List (Nat × Value)} {st : List Value} (X : XC Γ E rm cc nL own) {x y : Int32} (hd : decode cc pc = .ok (.iand, 1)) (kk : J Γ E nL ad ρ N σ cs sz (pc + 1) L (.int (x &&& y) :: st)) : J Γ E nL ad ρ N σ cs sz pc L (.int y :: .int x :: st) :=
  fun H locs ls hl hP hA hS => lv_iand X.1 X.2.1 hd (kk H locs ls hl hP hA hS)
theorem j_ior {Γ : Cx} {E : Ev} {rm : Room} {cc : ByteArray} {nL : Nat} {own : String} {ad : Nat → Nat} {ρ : Nat → Nat → Nat} {N : Nat} {σ : Sg} {cs sz pc : Nat} {L : List (Nat × Value)} {st : List Value} (X : XC Γ E rm cc nL own) {x y : Int32} (hd : decode cc pc = .ok (.ior, 1)) (kk : J Γ E nL ad ρ N σ cs sz (pc + 1) L (.int (x ||| y) :: st)) : J Γ E nL ad ρ N σ cs sz pc L (.int y :: .int x :: st) :=
  fun H locs ls hl hP hA hS => lv_ior X.1 X.2.1 hd (kk H locs ls hl hP hA hS)
theorem j_ixor {Γ : Cx} {E : Ev} {rm : Room} {cc : ByteArray} {nL : Nat} {own : String} {ad : Nat → Nat} {ρ : Nat → Nat → Nat} {N : Nat} {σ : Sg} {cs sz pc : Nat} {L : List (Nat × Value)} {st : List Value} (X : XC Γ E rm cc nL own) {x y : Int32} (hd : decode cc pc = .ok (.ixor, 1)) (kk : J Γ E nL ad ρ N σ cs sz (pc + 1) L (.int (x ^^^ y) :: st)) : J Γ E nL ad ρ N σ cs sz pc L (.int y :: .int x :: st) :=
  fun H locs ls hl hP hA hS => lv_ixor X.1 X.2.1 hd (kk H locs ls hl hP hA hS)
theorem j_ishl {Γ : Cx} {E : Ev} {rm : Room} {cc : ByteArray} {nL : Nat} {own : String} {ad : Nat → Nat} {ρ : Nat → Nat → Nat} {N : Nat} {σ : Sg} {cs sz pc : Nat} {L : List (Nat × Value)} {st : List Value} (X : XC Γ E rm cc nL own) {x y : Int32} (hd : decode cc pc = .ok (.ishl, 1)) (kk : J Γ E nL ad ρ N σ cs sz (pc + 1) L (.int (x <<< (y &&& 31)) :: st)) : J Γ E nL ad ρ N σ cs sz pc L (.int y :: .int x :: st) :=
  fun H locs ls hl hP hA hS => lv_ishl X.1 X.2.1 hd (kk H locs ls hl hP hA hS)
theorem j_ishr {Γ : Cx} {E : Ev} {rm : Room} {cc : ByteArray} {nL : Nat} {own : String} {ad : Nat → Nat} {ρ : Nat → Nat → Nat} {N : Nat} {σ : Sg} {cs sz pc : Nat} {L : List (Nat × Value)} {st : List Value} (X : XC Γ E rm cc nL own) {x y : Int32} (hd : decode cc pc = .ok (.ishr, 1)) (kk : J Γ E nL ad ρ N σ cs sz (pc + 1) L (.int (x >>> (y &&& 31)) :: st)) : J Γ E nL ad ρ N σ cs sz pc L (.int y :: .int x :: st) :=
  fun H locs ls hl hP hA hS => lv_ishr X.1 X.2.1 hd (kk H locs ls hl hP hA hS)
theorem j_idiv {Γ : Cx} {E : Ev} {rm : Room} {cc : ByteArray} {nL : Nat} {own : String} {ad : Nat → Nat} {ρ : Nat → Nat → Nat} {N : Nat} {σ : Sg} {cs sz pc : Nat} {L : List (Nat × Value)} {st : List Value} (X : XC Γ E rm cc nL own) {x y : Int32} (hne : ¬ y = 0) (hd : decode cc pc = .ok (.idiv, 1)) (kk : J Γ E nL ad ρ N σ cs sz (pc + 1) L (.int (x / y) :: st)) : J Γ E nL ad ρ N σ cs sz pc L (.int y :: .int x :: st) :=
  fun H locs ls hl hP hA hS => lv_idiv X.1 X.2.1 hd hne (kk H locs ls hl hP hA hS)
theorem j_irem {Γ : Cx} {E : Ev} {rm : Room} {cc : ByteArray} {nL : Nat} {own : String} {ad : Nat → Nat} {ρ : Nat → Nat → Nat} {N : Nat} {σ : Sg} {cs sz pc : Nat} {L : List (Nat × Value)} {st : List Value} (X : XC Γ E rm cc nL own) {x y : Int32} (hne : ¬ y = 0) (hd : decode cc pc = .ok (.irem, 1)) (kk : J Γ E nL ad ρ N σ cs sz (pc + 1) L (.int (x - x / y * y) :: st)) : J Γ E nL ad ρ N σ cs sz pc L (.int y :: .int x :: st) :=
  fun H locs ls hl hP hA hS => lv_irem X.1 X.2.1 hd hne (kk H locs ls hl hP hA hS)
theorem j_ladd {Γ : Cx} {E : Ev} {rm : Room} {cc : ByteArray} {nL : Nat} {own : String} {ad : Nat → Nat} {ρ : Nat → Nat → Nat} {N : Nat} {σ : Sg} {cs sz pc : Nat} {L : List (Nat × Value)} {st : List Value} (X : XC Γ E rm cc nL own) {x y : Int64} (hd : decode cc pc = .ok (.ladd, 1)) (kk : J Γ E nL ad ρ N σ cs sz (pc + 1) L (.long (x + y) :: st)) : J Γ E nL ad ρ N σ cs sz pc L (.long y :: .long x :: st) :=
  fun H locs ls hl hP hA hS => lv_ladd X.1 X.2.1 hd (kk H locs ls hl hP hA hS)
theorem j_lsub {Γ : Cx} {E : Ev} {rm : Room} {cc : ByteArray} {nL : Nat} {own : String} {ad : Nat → Nat} {ρ : Nat → Nat → Nat} {N : Nat} {σ : Sg} {cs sz pc : Nat} {L : List (Nat × Value)} {st : List Value} (X : XC Γ E rm cc nL own) {x y : Int64} (hd : decode cc pc = .ok (.lsub, 1)) (kk : J Γ E nL ad ρ N σ cs sz (pc + 1) L (.long (x - y) :: st)) : J Γ E nL ad ρ N σ cs sz pc L (.long y :: .long x :: st) :=
  fun H locs ls hl hP hA hS => lv_lsub X.1 X.2.1 hd (kk H locs ls hl hP hA hS)
theorem j_lmul {Γ : Cx} {E : Ev} {rm : Room} {cc : ByteArray} {nL : Nat} {own : String} {ad : Nat → Nat} {ρ : Nat → Nat → Nat} {N : Nat} {σ : Sg} {cs sz pc : Nat} {L : List (Nat × Value)} {st : List Value} (X : XC Γ E rm cc nL own) {x y : Int64} (hd : decode cc pc = .ok (.lmul, 1)) (kk : J Γ E nL ad ρ N σ cs sz (pc + 1) L (.long (x * y) :: st)) : J Γ E nL ad ρ N σ cs sz pc L (.long y :: .long x :: st) :=
  fun H locs ls hl hP hA hS => lv_lmul X.1 X.2.1 hd (kk H locs ls hl hP hA hS)
theorem j_ldiv {Γ : Cx} {E : Ev} {rm : Room} {cc : ByteArray} {nL : Nat} {own : String} {ad : Nat → Nat} {ρ : Nat → Nat → Nat} {N : Nat} {σ : Sg} {cs sz pc : Nat} {L : List (Nat × Value)} {st : List Value} (X : XC Γ E rm cc nL own) {x y : Int64} (hne : ¬ y = 0) (hd : decode cc pc = .ok (.ldiv, 1)) (kk : J Γ E nL ad ρ N σ cs sz (pc + 1) L (.long (x / y) :: st)) : J Γ E nL ad ρ N σ cs sz pc L (.long y :: .long x :: st) :=
  fun H locs ls hl hP hA hS => lv_ldiv X.1 X.2.1 hd hne (kk H locs ls hl hP hA hS)
theorem j_lrem {Γ : Cx} {E : Ev} {rm : Room} {cc : ByteArray} {nL : Nat} {own : String} {ad : Nat → Nat} {ρ : Nat → Nat → Nat} {N : Nat} {σ : Sg} {cs sz pc : Nat} {L : List (Nat × Value)} {st : List Value} (X : XC Γ E rm cc nL own) {x y : Int64} (hne : ¬ y = 0) (hd : decode cc pc = .ok (.lrem, 1)) (kk : J Γ E nL ad ρ N σ cs sz (pc + 1) L (.long (x - x / y * y) :: st)) : J Γ E nL ad ρ N σ cs sz pc L (.long y :: .long x :: st) :=
  fun H locs ls hl hP hA hS => lv_lrem X.1 X.2.1 hd hne (kk H locs ls hl hP hA hS)
theorem j_iushr {Γ : Cx} {E : Ev} {rm : Room} {cc : ByteArray} {nL : Nat} {own : String} {ad : Nat → Nat} {ρ : Nat → Nat → Nat} {N : Nat} {σ : Sg} {cs sz pc : Nat} {L : List (Nat × Value)} {st : List Value} (X : XC Γ E rm cc nL own) {x y : Int32} (hd : decode cc pc = .ok (.iushr, 1)) (kk : J Γ E nL ad ρ N σ cs sz (pc + 1) L (.int ((x.toUInt32 >>> (y.toUInt32 &&& Int32.toUInt32 31)).toInt32) :: st)) : J Γ E nL ad ρ N σ cs sz pc L (.int y :: .int x :: st) :=
  fun H locs ls hl hP hA hS => lv_iushr X.1 X.2.1 hd rfl (kk H locs ls hl hP hA hS)
theorem j_lcmp {Γ : Cx} {E : Ev} {rm : Room} {cc : ByteArray} {nL : Nat} {own : String} {ad : Nat → Nat} {ρ : Nat → Nat → Nat} {N : Nat} {σ : Sg} {cs sz pc : Nat} {L : List (Nat × Value)} {st : List Value} (X : XC Γ E rm cc nL own) {x y : Int64} (hd : decode cc pc = .ok (.lcmp, 1)) (kk : J Γ E nL ad ρ N σ cs sz (pc + 1) L (.int (lg_cmp x y) :: st)) : J Γ E nL ad ρ N σ cs sz pc L (.long y :: .long x :: st) :=
  fun H locs ls hl hP hA hS => W.lcmp X.1 X.2.1 hd (kk H locs ls hl hP hA hS)
theorem j_i2l {Γ : Cx} {E : Ev} {rm : Room} {cc : ByteArray} {nL : Nat} {own : String} {ad : Nat → Nat} {ρ : Nat → Nat → Nat} {N : Nat} {σ : Sg} {cs sz pc : Nat} {L : List (Nat × Value)} {st : List Value} (X : XC Γ E rm cc nL own) {x : Int32} (hd : decode cc pc = .ok (.i2l, 1)) (kk : J Γ E nL ad ρ N σ cs sz (pc + 1) L (.long x.toInt64 :: st)) : J Γ E nL ad ρ N σ cs sz pc L (.int x :: st) :=
  fun H locs ls hl hP hA hS => lv_i2l X.1 X.2.1 hd rfl (kk H locs ls hl hP hA hS)
theorem j_l2i {Γ : Cx} {E : Ev} {rm : Room} {cc : ByteArray} {nL : Nat} {own : String} {ad : Nat → Nat} {ρ : Nat → Nat → Nat} {N : Nat} {σ : Sg} {cs sz pc : Nat} {L : List (Nat × Value)} {st : List Value} (X : XC Γ E rm cc nL own) {x : Int64} (hd : decode cc pc = .ok (.l2i, 1)) (kk : J Γ E nL ad ρ N σ cs sz (pc + 1) L (.int x.toInt32 :: st)) : J Γ E nL ad ρ N σ cs sz pc L (.long x :: st) :=
  fun H locs ls hl hP hA hS => lv_l2i X.1 X.2.1 hd rfl (kk H locs ls hl hP hA hS)
theorem j_i2c {Γ : Cx} {E : Ev} {rm : Room} {cc : ByteArray} {nL : Nat} {own : String} {ad : Nat → Nat} {ρ : Nat → Nat → Nat} {N : Nat} {σ : Sg} {cs sz pc : Nat} {L : List (Nat × Value)} {st : List Value} (X : XC Γ E rm cc nL own) {x : Int32} (hd : decode cc pc = .ok (.i2c, 1)) (kk : J Γ E nL ad ρ N σ cs sz (pc + 1) L (.int ((x.toUInt32 % 65536).toInt32) :: st)) : J Γ E nL ad ρ N σ cs sz pc L (.int x :: st) :=
  fun H locs ls hl hP hA hS => lv_i2c X.1 X.2.1 hd rfl (kk H locs ls hl hP hA hS)
theorem j_dup {Γ : Cx} {E : Ev} {rm : Room} {cc : ByteArray} {nL : Nat} {own : String} {ad : Nat → Nat} {ρ : Nat → Nat → Nat} {N : Nat} {σ : Sg} {cs sz pc : Nat} {L : List (Nat × Value)} {st : List Value} (X : XC Γ E rm cc nL own) {v : Value} (hv : v.category = 1) (hd : decode cc pc = .ok (.dup, 1)) (kk : J Γ E nL ad ρ N σ cs sz (pc + 1) L (v :: v :: st)) : J Γ E nL ad ρ N σ cs sz pc L (v :: st) :=
  fun H locs ls hl hP hA hS => lv_dup X.1 X.2.1 hd hv (kk H locs ls hl hP hA hS)
theorem j_pop {Γ : Cx} {E : Ev} {rm : Room} {cc : ByteArray} {nL : Nat} {own : String} {ad : Nat → Nat} {ρ : Nat → Nat → Nat} {N : Nat} {σ : Sg} {cs sz pc : Nat} {L : List (Nat × Value)} {st : List Value} (X : XC Γ E rm cc nL own) {v : Value} (hv : v.category = 1) (hd : decode cc pc = .ok (.pop, 1)) (kk : J Γ E nL ad ρ N σ cs sz (pc + 1) L st) : J Γ E nL ad ρ N σ cs sz pc L (v :: st) :=
  fun H locs ls hl hP hA hS => lv_pop X.1 X.2.1 hd hv (kk H locs ls hl hP hA hS)
theorem j_dup2 {Γ : Cx} {E : Ev} {rm : Room} {cc : ByteArray} {nL : Nat} {own : String} {ad : Nat → Nat} {ρ : Nat → Nat → Nat} {N : Nat} {σ : Sg} {cs sz pc : Nat} {L : List (Nat × Value)} {st : List Value} (X : XC Γ E rm cc nL own) {v w : Value} (hv : v.category = 1) (hw : w.category = 1) (hd : decode cc pc = .ok (.dup2, 1)) (kk : J Γ E nL ad ρ N σ cs sz (pc + 1) L (v :: w :: v :: w :: st)) : J Γ E nL ad ρ N σ cs sz pc L (v :: w :: st) :=
  fun H locs ls hl hP hA hS => lv_dup2_11 X.1 X.2.1 hd hv hw (kk H locs ls hl hP hA hS)
theorem j_goto {Γ : Cx} {E : Ev} {rm : Room} {cc : ByteArray} {nL : Nat} {own : String} {ad : Nat → Nat} {ρ : Nat → Nat → Nat} {N : Nat} {σ : Sg} {cs sz pc : Nat} {L : List (Nat × Value)} {st : List Value} (X : XC Γ E rm cc nL own) {off : Int} {tgt : Nat} (ht : (pc : Int) + off = (tgt : Int)) (hd : decode cc pc = .ok (.goto off, 3)) (kk : J Γ E nL ad ρ N σ cs sz tgt L st) : J Γ E nL ad ρ N σ cs sz pc L st :=
  fun H locs ls hl hP hA hS => lv_goto X.1 X.2.1 hd ht (kk H locs ls hl hP hA hS)
theorem j_ifnonnull {Γ : Cx} {E : Ev} {rm : Room} {cc : ByteArray} {nL : Nat} {own : String} {ad : Nat → Nat} {ρ : Nat → Nat → Nat} {N : Nat} {σ : Sg} {cs sz pc : Nat} {L : List (Nat × Value)} {st : List Value} (X : XC Γ E rm cc nL own) {x : Nat} {off : Int} {tgt : Nat} (ht : (pc : Int) + off = (tgt : Int)) (hd : decode cc pc = .ok (.ifnonnull off, 3)) (kk : J Γ E nL ad ρ N σ cs sz tgt L st) : J Γ E nL ad ρ N σ cs sz pc L (.ref x :: st) :=
  fun H locs ls hl hP hA hS => lv_ifnonnull X.1 X.2.1 hd ht (kk H locs ls hl hP hA hS)
theorem j_if_eq {Γ : Cx} {E : Ev} {rm : Room} {cc : ByteArray} {nL : Nat} {own : String} {ad : Nat → Nat} {ρ : Nat → Nat → Nat} {N : Nat} {σ : Sg} {cs sz pc : Nat} {L : List (Nat × Value)} {st : List Value} (X : XC Γ E rm cc nL own) {x : Int32} {off : Int} {tgt : Nat} (ht : (pc : Int) + off = (tgt : Int)) (hd : decode cc pc = .ok (.ifCond .eq off, 3)) (kt : x = 0 → J Γ E nL ad ρ N σ cs sz tgt L st) (kf : ¬ x = 0 → J Γ E nL ad ρ N σ cs sz (pc + 3) L st) : J Γ E nL ad ρ N σ cs sz pc L (.int x :: st) :=
  fun H locs ls hl hP hA hS => lv_if_eq X.1 X.2.1 hd ht (fun h => kt h H locs ls hl hP hA hS) (fun h => kf h H locs ls hl hP hA hS)
theorem j_if_ne {Γ : Cx} {E : Ev} {rm : Room} {cc : ByteArray} {nL : Nat} {own : String} {ad : Nat → Nat} {ρ : Nat → Nat → Nat} {N : Nat} {σ : Sg} {cs sz pc : Nat} {L : List (Nat × Value)} {st : List Value} (X : XC Γ E rm cc nL own) {x : Int32} {off : Int} {tgt : Nat} (ht : (pc : Int) + off = (tgt : Int)) (hd : decode cc pc = .ok (.ifCond .ne off, 3)) (kt : ¬ x = 0 → J Γ E nL ad ρ N σ cs sz tgt L st) (kf : x = 0 → J Γ E nL ad ρ N σ cs sz (pc + 3) L st) : J Γ E nL ad ρ N σ cs sz pc L (.int x :: st) :=
  fun H locs ls hl hP hA hS => lv_if_ne X.1 X.2.1 hd ht (fun h => kt h H locs ls hl hP hA hS) (fun h => kf h H locs ls hl hP hA hS)
theorem j_if_lt {Γ : Cx} {E : Ev} {rm : Room} {cc : ByteArray} {nL : Nat} {own : String} {ad : Nat → Nat} {ρ : Nat → Nat → Nat} {N : Nat} {σ : Sg} {cs sz pc : Nat} {L : List (Nat × Value)} {st : List Value} (X : XC Γ E rm cc nL own) {x : Int32} {off : Int} {tgt : Nat} (ht : (pc : Int) + off = (tgt : Int)) (hd : decode cc pc = .ok (.ifCond .lt off, 3)) (kt : x < 0 → J Γ E nL ad ρ N σ cs sz tgt L st) (kf : ¬ x < 0 → J Γ E nL ad ρ N σ cs sz (pc + 3) L st) : J Γ E nL ad ρ N σ cs sz pc L (.int x :: st) :=
  fun H locs ls hl hP hA hS => lv_if_lt X.1 X.2.1 hd ht (fun h => kt h H locs ls hl hP hA hS) (fun h => kf h H locs ls hl hP hA hS)
theorem j_if_ge {Γ : Cx} {E : Ev} {rm : Room} {cc : ByteArray} {nL : Nat} {own : String} {ad : Nat → Nat} {ρ : Nat → Nat → Nat} {N : Nat} {σ : Sg} {cs sz pc : Nat} {L : List (Nat × Value)} {st : List Value} (X : XC Γ E rm cc nL own) {x : Int32} {off : Int} {tgt : Nat} (ht : (pc : Int) + off = (tgt : Int)) (hd : decode cc pc = .ok (.ifCond .ge off, 3)) (kt : 0 ≤ x → J Γ E nL ad ρ N σ cs sz tgt L st) (kf : ¬ 0 ≤ x → J Γ E nL ad ρ N σ cs sz (pc + 3) L st) : J Γ E nL ad ρ N σ cs sz pc L (.int x :: st) :=
  fun H locs ls hl hP hA hS => lv_if_ge X.1 X.2.1 hd ht (fun h => kt h H locs ls hl hP hA hS) (fun h => kf h H locs ls hl hP hA hS)
theorem j_if_gt {Γ : Cx} {E : Ev} {rm : Room} {cc : ByteArray} {nL : Nat} {own : String} {ad : Nat → Nat} {ρ : Nat → Nat → Nat} {N : Nat} {σ : Sg} {cs sz pc : Nat} {L : List (Nat × Value)} {st : List Value} (X : XC Γ E rm cc nL own) {x : Int32} {off : Int} {tgt : Nat} (ht : (pc : Int) + off = (tgt : Int)) (hd : decode cc pc = .ok (.ifCond .gt off, 3)) (kt : 0 < x → J Γ E nL ad ρ N σ cs sz tgt L st) (kf : ¬ 0 < x → J Γ E nL ad ρ N σ cs sz (pc + 3) L st) : J Γ E nL ad ρ N σ cs sz pc L (.int x :: st) :=
  fun H locs ls hl hP hA hS => lv_if_gt X.1 X.2.1 hd ht (fun h => kt h H locs ls hl hP hA hS) (fun h => kf h H locs ls hl hP hA hS)
theorem j_if_le {Γ : Cx} {E : Ev} {rm : Room} {cc : ByteArray} {nL : Nat} {own : String} {ad : Nat → Nat} {ρ : Nat → Nat → Nat} {N : Nat} {σ : Sg} {cs sz pc : Nat} {L : List (Nat × Value)} {st : List Value} (X : XC Γ E rm cc nL own) {x : Int32} {off : Int} {tgt : Nat} (ht : (pc : Int) + off = (tgt : Int)) (hd : decode cc pc = .ok (.ifCond .le off, 3)) (kt : x ≤ 0 → J Γ E nL ad ρ N σ cs sz tgt L st) (kf : ¬ x ≤ 0 → J Γ E nL ad ρ N σ cs sz (pc + 3) L st) : J Γ E nL ad ρ N σ cs sz pc L (.int x :: st) :=
  fun H locs ls hl hP hA hS => lv_if_le X.1 X.2.1 hd ht (fun h => kt h H locs ls hl hP hA hS) (fun h => kf h H locs ls hl hP hA hS)
theorem j_icmp_eq {Γ : Cx} {E : Ev} {rm : Room} {cc : ByteArray} {nL : Nat} {own : String} {ad : Nat → Nat} {ρ : Nat → Nat → Nat} {N : Nat} {σ : Sg} {cs sz pc : Nat} {L : List (Nat × Value)} {st : List Value} (X : XC Γ E rm cc nL own) {x y : Int32} {off : Int} {tgt : Nat} (ht : (pc : Int) + off = (tgt : Int)) (hd : decode cc pc = .ok (.if_icmp .eq off, 3)) (kt : x = y → J Γ E nL ad ρ N σ cs sz tgt L st) (kf : ¬ x = y → J Γ E nL ad ρ N σ cs sz (pc + 3) L st) : J Γ E nL ad ρ N σ cs sz pc L (.int y :: .int x :: st) :=
  fun H locs ls hl hP hA hS => lv_icmp_eq X.1 X.2.1 hd ht (fun h => kt h H locs ls hl hP hA hS) (fun h => kf h H locs ls hl hP hA hS)
theorem j_icmp_ne {Γ : Cx} {E : Ev} {rm : Room} {cc : ByteArray} {nL : Nat} {own : String} {ad : Nat → Nat} {ρ : Nat → Nat → Nat} {N : Nat} {σ : Sg} {cs sz pc : Nat} {L : List (Nat × Value)} {st : List Value} (X : XC Γ E rm cc nL own) {x y : Int32} {off : Int} {tgt : Nat} (ht : (pc : Int) + off = (tgt : Int)) (hd : decode cc pc = .ok (.if_icmp .ne off, 3)) (kt : ¬ x = y → J Γ E nL ad ρ N σ cs sz tgt L st) (kf : x = y → J Γ E nL ad ρ N σ cs sz (pc + 3) L st) : J Γ E nL ad ρ N σ cs sz pc L (.int y :: .int x :: st) :=
  fun H locs ls hl hP hA hS => lv_icmp_ne X.1 X.2.1 hd ht (fun h => kt h H locs ls hl hP hA hS) (fun h => kf h H locs ls hl hP hA hS)
theorem j_icmp_lt {Γ : Cx} {E : Ev} {rm : Room} {cc : ByteArray} {nL : Nat} {own : String} {ad : Nat → Nat} {ρ : Nat → Nat → Nat} {N : Nat} {σ : Sg} {cs sz pc : Nat} {L : List (Nat × Value)} {st : List Value} (X : XC Γ E rm cc nL own) {x y : Int32} {off : Int} {tgt : Nat} (ht : (pc : Int) + off = (tgt : Int)) (hd : decode cc pc = .ok (.if_icmp .lt off, 3)) (kt : x < y → J Γ E nL ad ρ N σ cs sz tgt L st) (kf : ¬ x < y → J Γ E nL ad ρ N σ cs sz (pc + 3) L st) : J Γ E nL ad ρ N σ cs sz pc L (.int y :: .int x :: st) :=
  fun H locs ls hl hP hA hS => lv_icmp_lt X.1 X.2.1 hd ht (fun h => kt h H locs ls hl hP hA hS) (fun h => kf h H locs ls hl hP hA hS)
theorem j_icmp_ge {Γ : Cx} {E : Ev} {rm : Room} {cc : ByteArray} {nL : Nat} {own : String} {ad : Nat → Nat} {ρ : Nat → Nat → Nat} {N : Nat} {σ : Sg} {cs sz pc : Nat} {L : List (Nat × Value)} {st : List Value} (X : XC Γ E rm cc nL own) {x y : Int32} {off : Int} {tgt : Nat} (ht : (pc : Int) + off = (tgt : Int)) (hd : decode cc pc = .ok (.if_icmp .ge off, 3)) (kt : y ≤ x → J Γ E nL ad ρ N σ cs sz tgt L st) (kf : ¬ y ≤ x → J Γ E nL ad ρ N σ cs sz (pc + 3) L st) : J Γ E nL ad ρ N σ cs sz pc L (.int y :: .int x :: st) :=
  fun H locs ls hl hP hA hS => lv_icmp_ge X.1 X.2.1 hd ht (fun h => kt h H locs ls hl hP hA hS) (fun h => kf h H locs ls hl hP hA hS)
theorem j_icmp_gt {Γ : Cx} {E : Ev} {rm : Room} {cc : ByteArray} {nL : Nat} {own : String} {ad : Nat → Nat} {ρ : Nat → Nat → Nat} {N : Nat} {σ : Sg} {cs sz pc : Nat} {L : List (Nat × Value)} {st : List Value} (X : XC Γ E rm cc nL own) {x y : Int32} {off : Int} {tgt : Nat} (ht : (pc : Int) + off = (tgt : Int)) (hd : decode cc pc = .ok (.if_icmp .gt off, 3)) (kt : y < x → J Γ E nL ad ρ N σ cs sz tgt L st) (kf : ¬ y < x → J Γ E nL ad ρ N σ cs sz (pc + 3) L st) : J Γ E nL ad ρ N σ cs sz pc L (.int y :: .int x :: st) :=
  fun H locs ls hl hP hA hS => lv_icmp_gt X.1 X.2.1 hd ht (fun h => kt h H locs ls hl hP hA hS) (fun h => kf h H locs ls hl hP hA hS)
theorem j_icmp_le {Γ : Cx} {E : Ev} {rm : Room} {cc : ByteArray} {nL : Nat} {own : String} {ad : Nat → Nat} {ρ : Nat → Nat → Nat} {N : Nat} {σ : Sg} {cs sz pc : Nat} {L : List (Nat × Value)} {st : List Value} (X : XC Γ E rm cc nL own) {x y : Int32} {off : Int} {tgt : Nat} (ht : (pc : Int) + off = (tgt : Int)) (hd : decode cc pc = .ok (.if_icmp .le off, 3)) (kt : x ≤ y → J Γ E nL ad ρ N σ cs sz tgt L st) (kf : ¬ x ≤ y → J Γ E nL ad ρ N σ cs sz (pc + 3) L st) : J Γ E nL ad ρ N σ cs sz pc L (.int y :: .int x :: st) :=
  fun H locs ls hl hP hA hS => lv_icmp_le X.1 X.2.1 hd ht (fun h => kt h H locs ls hl hP hA hS) (fun h => kf h H locs ls hl hP hA hS)
theorem j_tableOut {Γ : Cx} {E : Ev} {rm : Room} {cc : ByteArray} {nL : Nat} {own : String} {ad : Nat → Nat} {ρ : Nat → Nat → Nat} {N : Nat} {σ : Sg} {cs sz pc : Nat} {L : List (Nat × Value)} {st : List Value} (X : XC Γ E rm cc nL own) {dflt lo hi : Int} {offs : Array Int} {len : Nat} {x : Int32} {tgt : Nat} (h : x.toInt < lo ∨ hi < x.toInt) (ht : (pc : Int) + dflt = (tgt : Int)) (hd : decode cc pc = .ok (.tableswitch dflt lo hi offs, len)) (kk : J Γ E nL ad ρ N σ cs sz tgt L st) : J Γ E nL ad ρ N σ cs sz pc L (.int x :: st) :=
  fun H locs ls hl hP hA hS => lv_tableOut X.1 X.2.1 hd h ht (kk H locs ls hl hP hA hS)
theorem j_tableIn {Γ : Cx} {E : Ev} {rm : Room} {cc : ByteArray} {nL : Nat} {own : String} {ad : Nat → Nat} {ρ : Nat → Nat → Nat} {N : Nat} {σ : Sg} {cs sz pc : Nat} {L : List (Nat × Value)} {st : List Value} (X : XC Γ E rm cc nL own) {dflt lo hi : Int} {offs : Array Int} {len : Nat} {x : Int32} {off : Int} {tgt : Nat} (h1 : ¬ x.toInt < lo) (h2 : ¬ hi < x.toInt) (ho : offs[(x.toInt - lo).toNat]? = some off) (ht : (pc : Int) + off = (tgt : Int)) (hd : decode cc pc = .ok (.tableswitch dflt lo hi offs, len)) (kk : J Γ E nL ad ρ N σ cs sz tgt L st) : J Γ E nL ad ρ N σ cs sz pc L (.int x :: st) :=
  fun H locs ls hl hP hA hS => lv_tableIn X.1 X.2.1 hd h1 h2 ho ht (kk H locs ls hl hP hA hS)
end
section
/-! ===== HEAP ROWS: fields, arrays ===== -/
theorem bg_lay {C : String} {T : u_T} {F : Nat} (h : (u_ws C T F).all (fun w => decide (w ∈ lw_tbl) && goodWord w) = true) : ∀ w ∈ u_ws C T F, w ∈ BG := by
  intro w hw
  have h1 := List.all_eq_true.mp h w hw
  rw [Bool.and_eq_true] at h1
  exact List.mem_filter.mpr ⟨of_decide_eq_true h1.1, h1.2⟩
def CFact (ci : Nat) (C : String) (T : u_T) (F : Nat) (ty0 : Nat → FieldType) : Prop :=
  vwCl[ci]? = some (C, T, F) ∧ (∀ w ∈ u_ws C T F, w ∈ BG) ∧ (∀ k, k < F → parseFieldDescriptor (T k).2.2.1 = some (ty0 k)) ∧ (∀ a, a < F → ∀ b, b < F → a ≠ b → (T a).2.1 ≠ (T b).2.1) ∧ (∀ j, j < F → (T j).1 = C) ∧ (fcl ci).length = F ∧ ci < 7
theorem cf0 : CFact 0 RX1 TX1 2 tyX1 := ⟨rfl, bg_lay (by decide +kernel), tyX1_ok, nmX1, by decide +kernel, rfl, by decide⟩
theorem cf1 : CFact 1 RX2 TX2 8 tyX2 := ⟨rfl, bg_lay (by decide +kernel), tyX2_ok, nmX2, by decide +kernel, rfl, by decide⟩
theorem cf2 : CFact 2 RX4 TX4 1 tyX4 := ⟨rfl, bg_lay (by decide +kernel), tyX4_ok, nmX4, by decide +kernel, rfl, by decide⟩
theorem cf3 : CFact 3 RX5 TX5 7 tyX5 := ⟨rfl, bg_lay (by decide +kernel), tyX5_ok, nmX5, by decide +kernel, rfl, by decide⟩
theorem cf4 : CFact 4 RX6 TX6 4 tyX6 := ⟨rfl, bg_lay (by decide +kernel), tyX6_ok, nmX6, by decide +kernel, rfl, by decide⟩
theorem cf5 : CFact 5 RX7 TX7 12 tyX7 := ⟨rfl, bg_lay (by decide +kernel), tyX7_ok, nmX7, by decide +kernel, rfl, by decide⟩
theorem cf6 : CFact 6 RX8 TX8 27 tyX8 := ⟨rfl, bg_lay (by decide +kernel), tyX8_ok, nmX8, by decide +kernel, rfl, by decide⟩
section HEAP
variable {Γ : Cx} {E : Ev} {rm : Room} {cc : ByteArray} {nL : Nat} {own : String} {ad : Nat → Nat} {ρ : Nat → Nat → Nat} {N : Nat} {σ : Sg} {cs sz pc : Nat} {L : List (Nat × Value)} {st : List Value} {ci : Nat} {C : String} {T : u_T} {F : Nat} {ty0 : Nat → FieldType} {k j t index : Nat} {nm dd : String}
theorem wl_obj (hk : k < N) (hl : lay k = ci) (h7 : ci < 7) : (wl E ad ρ N σ)[k]? = some (ad k, .inr (ci, fs ad ρ σ k ci)) := by
  rw [wl_at hk, ent_obj hl h7]
theorem wl_int (hk : k < N) (hl : lay k = 7) : (wl E ad ρ N σ)[k]? = some (ad k, .inl (E.2.1.1, (len k, .inl (σ.1 k)))) := by
  rw [wl_at hk, ent_int hl]
theorem wl_bool (hk : k < N) (hl : lay k = 8) : (wl E ad ρ N σ)[k]? = some (ad k, .inl (E.2.1.2, (len k, .inl (σ.1 k)))) := by
  rw [wl_at hk, ent_bool hl]
theorem fcl_lt (hC : CFact ci C T F ty0) (h : (fcl ci)[j]? = some t) : j < F := by
  rw [← hC.2.2.2.2.2.1]
  exact (List.getElem?_eq_some_iff.mp h).1
theorem j_get0 (X : XC Γ E rm cc nL own) (hC : CFact ci C T F ty0) (hk : k < N) (hl : lay k = ci) (hf : (fcl ci)[j]? = some t) (hn : (T j).2.1 = nm ∧ (T j).2.2.1 = dd) (hw : Cond.fieldLink own index C nm dd ∈ BG) (hd : decode cc pc = .ok (.getfield index, 3)) (kk : J Γ E nL ad ρ N σ cs sz (pc + 3) L (fv ad ρ σ k j t :: st)) : J Γ E nL ad ρ N σ cs sz pc L (.ref (ad k) :: st) := by
  have hj := fcl_lt hC hf
  obtain ⟨h1, h2, h3, h4, h5, h6, h7⟩ := hC
  obtain ⟨rfl, rfl⟩ := hn
  exact fun H locs ls hl' hP hA hS => va_get (D := E.1) (own := own) (ref := C) (C := C) (T := T) (N := F) (ci := ci) X.1 X.2.1 X.2.2.2.2.1 h2 X.2.2.2.1 X.2.2.2.2.2.1.1 hP k (wl_obj hk hl h7) h1 j hj (X.2.2.2.2.1 _ hw) (fun x hx => by rw [h5 j hj] at hx; exact hx) (fs_get hf) hd (kk H locs ls hl' hP hA hS)
theorem j_geti (X : XC Γ E rm cc nL own) (hC : CFact ci C T F ty0) (hk : k < N) (hl : lay k = ci) (j : Nat) (hf : (fcl ci)[j]? = some 0) (hn : (T j).2.1 = nm ∧ (T j).2.2.1 = dd) (hw : Cond.fieldLink own index C nm dd ∈ BG) (hd : decode cc pc = .ok (.getfield index, 3)) (kk : J Γ E nL ad ρ N σ cs sz (pc + 3) L (.int (σ.1 k j) :: st)) : J Γ E nL ad ρ N σ cs sz pc L (.ref (ad k) :: st) := j_get0 X hC hk hl hf hn hw hd kk
theorem j_getl (X : XC Γ E rm cc nL own) (hC : CFact ci C T F ty0) (hk : k < N) (hl : lay k = ci) (j : Nat) (hf : (fcl ci)[j]? = some 1) (hn : (T j).2.1 = nm ∧ (T j).2.2.1 = dd) (hw : Cond.fieldLink own index C nm dd ∈ BG) (hd : decode cc pc = .ok (.getfield index, 3)) (kk : J Γ E nL ad ρ N σ cs sz (pc + 3) L (.long (σ.2 k j) :: st)) : J Γ E nL ad ρ N σ cs sz pc L (.ref (ad k) :: st) := j_get0 X hC hk hl hf hn hw hd kk
theorem j_getr (X : XC Γ E rm cc nL own) (hC : CFact ci C T F ty0) (hk : k < N) (hl : lay k = ci) (j : Nat) (hf : (fcl ci)[j]? = some 2) (hn : (T j).2.1 = nm ∧ (T j).2.2.1 = dd) (p : Nat) (hp : ρ k j = p + 1) (hw : Cond.fieldLink own index C nm dd ∈ BG) (hd : decode cc pc = .ok (.getfield index, 3)) (kk : J Γ E nL ad ρ N σ cs sz (pc + 3) L (.ref (ad p) :: st)) : J Γ E nL ad ρ N σ cs sz pc L (.ref (ad k) :: st) := by
  refine j_get0 X hC hk hl hf hn hw hd ?_
  show J Γ E nL ad ρ N σ cs sz (pc + 3) L (rv ad (ρ k j) :: st)
  rw [hp]
  exact kk
theorem j_put0 {v : Value} {σ' : Sg} {ρ' : Nat → Nat → Nat} (X : XC Γ E rm cc nL own) (hC : CFact ci C T F ty0) (hk : k < N) (hl : lay k = ci) (hf : (fcl ci)[j]? = some t) (hn : (T j).2.1 = nm ∧ (T j).2.2.1 = dd) (hfin : (T j).2.2.2 = false ∨ ((T j).2.2.2 = true ∧ Γ.2.2.2.2.2.2.2.2.1.name = "<init>" ∧ C = own))
    (hnr : narrow (ty0 j) v = v) (hfi : fits (ty0 j) v = true) (hv : v = fv ad ρ' σ' k j t) (ho : ∀ i t', i ≠ j → fv ad ρ' σ' k i t' = fv ad ρ σ k i t') (hs : ∀ i, i ≠ k → σ'.1 i = σ.1 i ∧ σ'.2 i = σ.2 i ∧ ρ' i = ρ i)
    (hw : Cond.fieldLink own index C nm dd ∈ BG) (hd : decode cc pc = .ok (.putfield index, 3)) (kk : J Γ E nL ad ρ' N σ' cs sz (pc + 3) L st) : J Γ E nL ad ρ N σ cs sz pc L (v :: .ref (ad k) :: st) := by
  have hj := fcl_lt hC hf
  obtain ⟨h1, h2, h3, h4, h5, h6, h7⟩ := hC
  obtain ⟨rfl, rfl⟩ := hn
  have e1 : (wl E ad ρ N σ).set k (ad k, .inr (ci, (fs ad ρ σ k ci).set j v)) = wl E ad ρ' N σ' :=
    wl_set (by rw [fs_set hf hv ho, ent_obj hl h7]) (fun i hi => ent_same (hs i hi).1 (hs i hi).2.1 (hs i hi).2.2)
  intro H locs ls hl' hP hA hS
  rcases hfin with hfin | ⟨hfin, hin, rfl⟩
  · refine va_put (D := E.1) (own := own) (ref := C) (C := C) (T := T) (N := F) (ci := ci) X.1 X.2.1 X.2.2.2.2.1 h2 ty0 h3 h4 X.2.2.2.1 X.2.2.2.2.2.1.1 hP hA.D hS k (wl_obj hk hl h7) h1 j hj (X.2.2.2.2.1 _ hw) (fun x hx => by rw [h5 j hj] at hx; exact hx) hfin (h3 j hj) hnr hfi (by rw [fs_len, h6]; exact hj) hd (fun H1 locs1 hP1 hD1 hS1 => ?_)
    rw [e1] at hP1
    exact kk H1 locs1 ls hl' hP1 hA hS1
  · refine va_putF (D := E.1) (own := C) (ref := C) (C := C) (T := T) (N := F) (ci := ci) X.1 X.2.1 X.2.2.2.2.1 h2 ty0 h3 h4 X.2.2.2.1 X.2.2.2.2.2.1.1 hP hA.D hS k (wl_obj hk hl h7) h1 j hj (X.2.2.2.2.1 _ hw) (fun x hx => by rw [h5 j hj] at hx; exact hx) hfin hin (h5 j hj) (h3 j hj) hnr hfi (by rw [fs_len, h6]; exact hj) hd (fun H1 locs1 hP1 hD1 hS1 => ?_)
    rw [e1] at hP1
    exact kk H1 locs1 ls hl' hP1 hA hS1
theorem si_fv {x : Int32} : ∀ i t', i ≠ j → fv ad ρ (si σ k j x) k i t' = fv ad ρ σ k i t' := by
  intro i t' h
  unfold fv si
  split <;> simp [h]
theorem si_off {x : Int32} : ∀ i, i ≠ k → (si σ k j x).1 i = σ.1 i ∧ (si σ k j x).2 i = σ.2 i ∧ ρ i = ρ i := by
  intro i h
  refine ⟨?_, rfl, rfl⟩
  funext b
  simp [si, h]
theorem sl_fv {x : Int64} : ∀ i t', i ≠ j → fv ad ρ (sl σ k j x) k i t' = fv ad ρ σ k i t' := by
  intro i t' h
  unfold fv sl
  split <;> simp [h]
theorem sl_off {x : Int64} : ∀ i, i ≠ k → (sl σ k j x).1 i = σ.1 i ∧ (sl σ k j x).2 i = σ.2 i ∧ ρ i = ρ i := by
  intro i h
  refine ⟨rfl, ?_, rfl⟩
  funext b
  simp [sl, h]
theorem j_puti {x : Int32} {σ' : Sg} (X : XC Γ E rm cc nL own) (hC : CFact ci C T F ty0) (hk : k < N) (hl : lay k = ci) (j : Nat) (hf : (fcl ci)[j]? = some 0) (hn : (T j).2.1 = nm ∧ (T j).2.2.1 = dd) (hfin : (T j).2.2.2 = false ∨ ((T j).2.2.2 = true ∧ Γ.2.2.2.2.2.2.2.2.1.name = "<init>" ∧ C = own)) (hnr : narrow (ty0 j) (.int x) = .int x) (hfi : fits (ty0 j) (.int x) = true) (hσ : σ' = si σ k j x)
    (hw : Cond.fieldLink own index C nm dd ∈ BG) (hd : decode cc pc = .ok (.putfield index, 3)) (kk : J Γ E nL ad ρ N σ' cs sz (pc + 3) L st) : J Γ E nL ad ρ N σ cs sz pc L (.int x :: .ref (ad k) :: st) := by
  subst hσ
  exact j_put0 X hC hk hl hf hn hfin hnr hfi (by simp [fv, si]) si_fv si_off hw hd kk
theorem j_putl {x : Int64} {σ' : Sg} (X : XC Γ E rm cc nL own) (hC : CFact ci C T F ty0) (hk : k < N) (hl : lay k = ci) (j : Nat) (hf : (fcl ci)[j]? = some 1) (hn : (T j).2.1 = nm ∧ (T j).2.2.1 = dd) (hfin : (T j).2.2.2 = false) (hnr : narrow (ty0 j) (.long x) = .long x) (hfi : fits (ty0 j) (.long x) = true) (hσ : σ' = sl σ k j x)
    (hw : Cond.fieldLink own index C nm dd ∈ BG) (hd : decode cc pc = .ok (.putfield index, 3)) (kk : J Γ E nL ad ρ N σ' cs sz (pc + 3) L st) : J Γ E nL ad ρ N σ cs sz pc L (.long x :: .ref (ad k) :: st) := by
  subst hσ
  exact j_put0 X hC hk hl hf hn (.inl hfin) hnr hfi (by simp [fv, sl]) sl_fv sl_off hw hd kk
def rput (ρ : Nat → Nat → Nat) (k j p : Nat) : Nat → Nat → Nat := fun a b => if a = k ∧ b = j then p else ρ a b
theorem j_putr {p : Nat} (X : XC Γ E rm cc nL own) (hC : CFact ci C T F ty0) (hk : k < N) (hl : lay k = ci) (j : Nat) (hf : (fcl ci)[j]? = some 2) (hn : (T j).2.1 = nm ∧ (T j).2.2.1 = dd) (hfin : (T j).2.2.2 = true ∧ Γ.2.2.2.2.2.2.2.2.1.name = "<init>" ∧ C = own) (hnr : narrow (ty0 j) (.ref (ad p)) = .ref (ad p)) (hfi : fits (ty0 j) (.ref (ad p)) = true)
    (hw : Cond.fieldLink own index C nm dd ∈ BG) (hd : decode cc pc = .ok (.putfield index, 3)) (kk : J Γ E nL ad (rput ρ k j (p + 1)) N σ cs sz (pc + 3) L st) : J Γ E nL ad ρ N σ cs sz pc L (.ref (ad p) :: .ref (ad k) :: st) := by
  refine j_put0 X hC hk hl hf hn (.inr hfin) hnr hfi (by simp [fv, rv, rput]) (fun i t' h => ?_) (fun i h => ⟨rfl, rfl, ?_⟩) hw hd kk
  · unfold fv
    split <;> simp [rput, h]
  · funext b
    simp [rput, h]
theorem j_iald {i : Int32} (X : XC Γ E rm cc nL own) (hk : k < N) (hl : lay k = 7) (hin : ¬ (i < 0 ∨ len k ≤ i.toNatClampNeg)) (hd : decode cc pc = .ok (.iaload, 1)) (kk : J Γ E nL ad ρ N σ cs sz (pc + 1) L (.int (σ.1 k i.toNatClampNeg) :: st)) : J Γ E nL ad ρ N σ cs sz pc L (.int i :: .ref (ad k) :: st) :=
  fun H locs ls hl' hP hA hS => va_iald (D := E.1) X.1 X.2.1 X.2.2.2.2.2.1.1 hP k 0 (wl_int hk hl) rfl hin hd (kk H locs ls hl' hP hA hS)
theorem j_zald {i : Int32} (X : XC Γ E rm cc nL own) (hk : k < N) (hl : lay k = 8) (hin : ¬ (i < 0 ∨ len k ≤ i.toNatClampNeg)) (hd : decode cc pc = .ok (.baload, 1)) (kk : J Γ E nL ad ρ N σ cs sz (pc + 1) L (.int (σ.1 k i.toNatClampNeg) :: st)) : J Γ E nL ad ρ N σ cs sz pc L (.int i :: .ref (ad k) :: st) :=
  fun H locs ls hl' hP hA hS => va_zald (D := E.1) X.1 X.2.1 X.2.2.2.2.2.1.1 hP k 1 (wl_bool hk hl) rfl hin hd (kk H locs ls hl' hP hA hS)
theorem arr_set7 {i : Nat} {x : Int32} (hl : lay k = 7) : (wl E ad ρ N σ).set k (ad k, .inl (E.2.1.1, (len k, .inl (upd (σ.1 k) i x)))) = wl E ad ρ N (si σ k i x) := by
  refine wl_set ?_ (fun a ha => ent_same (si_off (ρ := ρ) a ha).1 rfl rfl)
  rw [ent_int hl]
  have : upd (σ.1 k) i x = (si σ k i x).1 k := by
    funext b
    simp [upd, si]
  rw [this]
theorem arr_set8 {i : Nat} {x : Int32} (hl : lay k = 8) : (wl E ad ρ N σ).set k (ad k, .inl (E.2.1.2, (len k, .inl (upd (σ.1 k) i x)))) = wl E ad ρ N (si σ k i x) := by
  refine wl_set ?_ (fun a ha => ent_same (si_off (ρ := ρ) a ha).1 rfl rfl)
  rw [ent_bool hl]
  have : upd (σ.1 k) i x = (si σ k i x).1 k := by
    funext b
    simp [upd, si]
  rw [this]
theorem j_iast {i x : Int32} {σ' : Sg} (X : XC Γ E rm cc nL own) (hk : k < N) (hl : lay k = 7) (hin : ¬ (i < 0 ∨ len k ≤ i.toNatClampNeg)) (hσ : σ' = si σ k i.toNatClampNeg x) (hd : decode cc pc = .ok (.iastore, 1)) (kk : J Γ E nL ad ρ N σ' cs sz (pc + 1) L st) : J Γ E nL ad ρ N σ cs sz pc L (.int x :: .int i :: .ref (ad k) :: st) := by
  subst hσ
  intro H locs ls hl' hP hA hS
  refine va_iast (D := E.1) X.1 X.2.1 X.2.2.2.2.2.1.1 hP hA.D hS k 0 (wl_int hk hl) rfl hin hd (fun H1 locs1 hP1 hD1 hS1 => ?_)
  rw [arr_set7 hl] at hP1
  exact kk H1 locs1 ls hl' hP1 hA hS1
theorem j_zast {i x : Int32} {σ' : Sg} (X : XC Γ E rm cc nL own) (hk : k < N) (hl : lay k = 8) (hin : ¬ (i < 0 ∨ len k ≤ i.toNatClampNeg)) (hx : vp_nar .boolean x = x) (hσ : σ' = si σ k i.toNatClampNeg x) (hd : decode cc pc = .ok (.bastore, 1)) (kk : J Γ E nL ad ρ N σ' cs sz (pc + 1) L st) : J Γ E nL ad ρ N σ cs sz pc L (.int x :: .int i :: .ref (ad k) :: st) := by
  subst hσ
  intro H locs ls hl' hP hA hS
  refine va_zast (D := E.1) X.1 X.2.1 X.2.2.2.2.2.1.1 hP hA.D hS k 1 (wl_bool hk hl) rfl hin hd (fun H1 locs1 hP1 hD1 hS1 => ?_)
  rw [hx, arr_set8 hl] at hP1
  exact kk H1 locs1 ls hl' hP1 hA hS1
theorem j_alen (X : XC Γ E rm cc nL own) (hk : k < N) (hl : lay k = 7) (hd : decode cc pc = .ok (.arraylength, 1)) (kk : J Γ E nL ad ρ N σ cs sz (pc + 1) L (.int (nI (len k)) :: st)) : J Γ E nL ad ρ N σ cs sz pc L (.ref (ad k) :: st) :=
  fun H locs ls hl' hP hA hS => va_alen (D := E.1) X.1 X.2.1 X.2.2.2.2.2.1.1 hP k 0 (wl_int hk hl) rfl rfl hd (kk H locs ls hl' hP hA hS)
end HEAP
end
section
/-! ===== ENDS, STARTS, CALLS ===== -/
section ENDS
variable {Γ : Cx} {E : Ev} {rm : Room} {cc : ByteArray} {nL : Nat} {own : String} {ad : Nat → Nat} {ρ : Nat → Nat → Nat} {N : Nat} {σ : Sg} {cs sz pc : Nat} {L : List (Nat × Value)} {st : List Value} {ret : Option FieldType} {res : Option Value × Sg}
theorem j_iret {v : Int32} {ty : FieldType} (X : XC Γ E rm cc nL own) (Y : XQ Γ E ad (some ty) res) (hn : narrow ty (.int v) = .int v) (hr : (some (.int v), σ) = res) (hd : decode cc pc = .ok (.ireturn, 1)) : J Γ E nL ad RF 85 σ 0 0 pc L [.int v] := by
  subst hr
  intro H locs ls hl hP hA hS
  unfold CW
  rw [Y.2.2]
  exact W.zret (hlocks := Y.2.1) X.1 X.2.1 Y.1 hn (fun t ht hW => ⟨rfl, by rw [ht]; exact hP, hS.F ht⟩) hS.2.2 hd
theorem j_lret {v : Int64} (X : XC Γ E rm cc nL own) (Y : XQ Γ E ad (some .long) res) (hr : (some (.long v), σ) = res) (hd : decode cc pc = .ok (.lreturn, 1)) : J Γ E nL ad RF 85 σ 0 0 pc L [.long v] := by
  subst hr
  intro H locs ls hl hP hA hS
  unfold CW
  rw [Y.2.2]
  exact W.lret (hlocks := Y.2.1) X.1 X.2.1 Y.1 (fun t ht hW => ⟨rfl, by rw [ht]; exact hP, hS.F ht⟩) hS.2.2 hd
theorem j_vret (X : XC Γ E rm cc nL own) (Y : XQ Γ E ad none res) (hr : (none, σ) = res) (hd : decode cc pc = .ok (.return_, 1)) : J Γ E nL ad RF 85 σ 0 0 pc L [] := by
  subst hr
  intro H locs ls hl hP hA hS
  unfold CW
  rw [Y.2.2]
  exact W.vret (hlocks := Y.2.1) X.1 X.2.1 Y.1 (fun t ht hW => ⟨rfl, by rw [ht]; exact hP, hS.F ht⟩) hS.2.2 hd
theorem met_gen {l : Launch} {y : MethodName} {av : List Value} {L0 : List (Nat × Value)} {Qc : Array Value → State → Outcome → State → Prop} {mc ms : Nat} (hy : plainName y.cls = true) (hL : (lg_sl av).length ≤ nL) (hA : lv_args 0 av = L0)
    (body : ∀ Γ : Cx, XC Γ E rm cc nL y.cls → Γ.2.2.2.2.2.2.2.2.1.sig.returnType = ret → Γ.2.2.2.2.2.2.2.2.1.locks = false → Γ.2.2.2.2.2.2.2.2.1.name = y.name → Γ.2.2.2.2.2.2.2.2.2.2 = MQ Γ.2.2.2.2.2.2.2.1 Qc Γ.args Γ.s mc ms (EA E) → J Γ E nL ad ρ N σ 0 0 0 L0 []) :
    Met l y (wY y cc nL ret) rm (va_Pc av (PreU E ad ρ N σ)) Qc mc ms (EA E) := by
  refine Met.ofW (cc := cc) (maxL := nL) (ret := ret) hy rfl ?_
  intro p e s m args below meth c s₁ B hml hv
  obtain ⟨rfl, hP, hAD, hVM⟩ := hv
  have hts := atoms_spec (ws := wY y cc nL ret) B.pre
  have hown : s.vm.findClass y.cls = some m.cls := findClass_of_methodNamed B.named
  rw [lg_entry_eq]
  have hl := lv_entry av (n := nL) hL
  rw [hA] at hl
  exact body (p, l, e, rm, s, m, av.toArray, below, meth, c, MQ below Qc av.toArray s mc ms (EA E)) ⟨B.exec, B.bytes, hml, hown, fun w hw => hts w (List.mem_cons_of_mem _ hw), hVM, rfl⟩ B.returns B.notSynchronized (name_of_methodNamed B.named B.method).1 rfl s.heap [] _ hl hP hAD va_S.rf
theorem met_of {l : Launch} {y : MethodName} {av : List Value} {L0 : List (Nat × Value)} (hy : plainName y.cls = true) (hL : (lg_sl av).length ≤ nL) (hA : lv_args 0 av = L0)
    (body : ∀ Γ : Cx, XC Γ E rm cc nL y.cls → XQ Γ E ad ret res → J Γ E nL ad RF 85 σ 0 0 0 L0 []) : Met l y (wY y cc nL ret) rm (va_Pc av (PreU E ad RF 85 σ)) (QcN E ad res) 0 0 (EA E) :=
  met_gen hy hL hA (fun Γ X h1 h2 _ h4 => body Γ X ⟨h1, h2, h4⟩)
end ENDS
/-- what the tables say of a method: its code, its class, its arguments -/
def MFact (y : MethodName) (cc : ByteArray) (n : Nat) (ret : Option FieldType) (na : Nat) : Prop :=
  Cond.code y cc n ret ∈ BG ∧ Cond.initialized y.cls ∈ BG ∧ (y.cls ≠ "java/lang/invoke/MethodHandle" ∧ y.cls ≠ "java/lang/invoke/VarHandle" ∧ (parseMethodDescriptor y.desc).map (fun d => d.parameters.length) = some na) ∧ plainName y.cls = true
section CALLS
variable {Γ : Cx} {E : Ev} {rm rm' : Room} {cc cc' : ByteArray} {nL nL' na : Nat} {own : String} {ad : Nat → Nat} {σ : Sg} {pc : Nat} {L : List (Nat × Value)} {st rest As : List Value} {ret : Option FieldType} {res : Option Value × Sg} {y : MethodName} {index k ci : Nat} {C : String} {T : u_T} {F : Nat} {ty0 : Nat → FieldType}
theorem j_ofrun {a : Array Value} (hr : ∀ (H : Heap) (locs : List Loc) (ls : Array Slot), lv_has ls nL L → va_P E.1 vwCl (wl E ad RF 85 σ) H → AD ad 85 E.2.2.2.2 → va_S (EA E) Γ.s.heap H locs → va_Run Γ.1 Γ.2.1 Γ.2.2.1 Γ.2.2.2.1 Γ.2.2.2.2.1 Γ.2.2.2.2.2.1 Γ.2.2.2.2.2.2.1 Γ.2.2.2.2.2.2.2.1 Γ.2.2.2.2.2.2.2.2.1 Γ.2.2.2.2.2.2.2.2.2.1 H locs 0 0 0 0 (F0 Γ.m pc ls st) rest (QcN E ad res a) (EA E))
    (kk : J Γ E nL ad RF 85 res.2 0 0 (pc + 3) L (res.1.toList ++ rest)) : J Γ E nL ad RF 85 σ 0 0 pc L st := by
  intro H locs ls hl hP hA hS T hT X
  obtain ⟨v, st₀, t, T', L', h0, X', hL, e1, e2, ⟨hv, hP1, hF⟩, hst⟩ := hr H locs ls hl hP hA hS T hT X
  cases hv
  have hz : H.size ≤ T'.heap.size := by rw [e1, ← h0]; exact hF.1
  have hk : ∀ q : Nat, q < H.size → ¬ EA E q → T'.heap[q]? = H[q]? := fun q h1 h2 => by rw [e1, ← h0]; exact hF.2 q (by rw [h0]; exact h1) h2
  obtain ⟨t2, a1, b1⟩ := kk T'.heap (locs ++ L') ls hl (by rw [e1]; exact hP1) hA ⟨Nat.le_trans hS.1 hz, fun q h1 h2 => (hk q (Nat.lt_of_lt_of_le h1 hS.1) h2).trans (hS.2.1 q h1 h2), fun q hq => (List.mem_append.mp hq).elim (hS.2.2 q) (hL q)⟩ T' rfl X'
  exact ⟨t2, hst t2 a1, b1⟩
theorem vm_next {ρ : Nat → Nat → Nat} {N : Nat} {H : Heap} {locs : List Loc} {U : State} (X : XC Γ E rm cc nL own) (hP : va_P E.1 vwCl (wl E ad ρ N σ) H) (hA : AD ad N E.2.2.2.2) (hS : va_S (EA E) Γ.s.heap H locs) (hU : U.heap = H) (hW : Γ.s.WarmedH U.vm) : PreU E ad ρ N σ U :=
  ⟨by rw [hU]; exact hP, hA, VmOK.next X.2.2.2.2.2.1 hW (fun q h1 h2 => by rw [hU]; exact hS.2.1 q h1 h2) (by rw [hU]; exact hS.1)⟩
theorem call_b (X : XC Γ E rm cc nL own) (mf : MFact y cc' nL' ret na) (hr0 : rm'.cells = 0 ∧ rm'.slots = 0) (hR : rm'.frames + 1 ≤ rm.frames ∧ 8 + (nL' + 11) + rm'.locals ≤ rm.locals) (hw : Cond.methodLink own index y ∈ BG) : CallB Γ.2.2.2.1 Γ.s Γ.args own index y cc' nL' ret (wY y cc' nL' ret) rm' 0 0 na := by
  rw [X.2.2.2.2.2.2]
  exact callB_of na X.2.2.2.2.1 (good_wY mf.1) rfl hr0.1 hr0.2 (X.2.2.2.2.1 _ mf.2.1) (X.2.2.2.2.1 _ hw) mf.2.2.1 hR
theorem j_callV0 (X : XC Γ E rm cc nL own) (mf : MFact y cc' nL' ret na) (hw : Cond.methodLink own index y ∈ BG) (hi : Cond.instanceMethod y ∈ BG) (hse : Cond.selects C y y ∈ BG) (hr0 : rm'.cells = 0 ∧ rm'.slots = 0) (hR : rm'.frames + 1 ≤ rm.frames ∧ 8 + (nL' + 11) + rm'.locals ≤ rm.locals)
    (hC : CFact ci C T F ty0) (hk : k < 85) (hl : lay k = ci) (hM : Met Γ.2.1 y (wY y cc' nL' ret) rm' (va_Pc (.ref (ad k) :: As) (PreU E ad RF 85 σ)) (QcN E ad res) 0 0 (EA E)) (hn : As.length = na) (hst : st = As.reverse ++ .ref (ad k) :: rest) (hsm : (rest.map fun v => v.category).sum ≤ 8) (hd : decode cc pc = .ok (.invokevirtual index, 3))
    (kk : J Γ E nL ad RF 85 res.2 0 0 (pc + 3) L (res.1.toList ++ rest)) : J Γ E nL ad RF 85 σ 0 0 pc L st := by
  refine j_ofrun (a := (Value.ref (ad k) :: As).toArray) (fun H locs ls hlv hP hA hS => ?_) kk
  subst hst
  have hrc := va_recv X.2.2.2.2.2.1.1 hP hC.1 (wl_obj hk hl hC.2.2.2.2.2.2)
  exact va_runV ⟨X.1, X.2.1, X.2.2.1, X.2.2.2.1, X.2.2.2.2.1⟩ hM ⟨call_b X mf hr0 hR hw, X.2.2.2.2.1 _ hi, X.2.2.2.2.1 _ hse⟩ ⟨blindU, hrc, fun U hU hW => ⟨rfl, vm_next X hP hA hS hU hW⟩⟩ rfl hn hlv.1 rfl (lv_room hsm) hd ⟨Nat.zero_le _, Nat.zero_le _⟩
theorem j_callS0 (X : XC Γ E rm cc nL own) (mf : MFact y cc' nL' ret na) (hw : Cond.methodLink own index y ∈ BG) (hi : Cond.static y ∈ BG) (hr0 : rm'.cells = 0 ∧ rm'.slots = 0) (hR : rm'.frames + 1 ≤ rm.frames ∧ 8 + (nL' + 11) + rm'.locals ≤ rm.locals)
    (hM : Met Γ.2.1 y (wY y cc' nL' ret) rm' (va_Pc As (PreU E ad RF 85 σ)) (QcN E ad res) 0 0 (EA E)) (hn : As.length = na) (hst : st = As.reverse ++ rest) (hsm : (rest.map fun v => v.category).sum ≤ 8) (hd : decode cc pc = .ok (.invokestatic index, 3))
    (kk : J Γ E nL ad RF 85 res.2 0 0 (pc + 3) L (res.1.toList ++ rest)) : J Γ E nL ad RF 85 σ 0 0 pc L st := by
  refine j_ofrun (a := As.toArray) (fun H locs ls hlv hP hA hS => ?_) kk
  subst hst
  exact va_runS ⟨X.1, X.2.1, X.2.2.1, X.2.2.2.1, X.2.2.2.2.1⟩ hM ⟨call_b X mf hr0 hR hw, X.2.2.2.2.1 _ hi⟩ ⟨blindU, fun U hU hW => ⟨rfl, vm_next X hP hA hS hU hW⟩⟩ rfl hn hlv.1 rfl (lv_room hsm) hd ⟨Nat.zero_le _, Nat.zero_le _⟩
theorem j_callSN0 (X : XC Γ E rm cc nL own) (mf : MFact y cc' nL' ret na) (hw : Cond.methodLinkNest own index y RX7 ∈ nestL) (hi : Cond.static y ∈ BG) (hr0 : rm'.cells = 0 ∧ rm'.slots = 0) (hR : rm'.frames + 1 ≤ rm.frames ∧ 8 + (nL' + 11) + rm'.locals ≤ rm.locals)
    (hM : Met Γ.2.1 y (wY y cc' nL' ret) rm' (va_Pc As (PreU E ad RF 85 σ)) (QcN E ad res) 0 0 (EA E)) (hn : As.length = na) (hst : st = As.reverse ++ rest) (hsm : (rest.map fun v => v.category).sum ≤ 8) (hd : decode cc pc = .ok (.invokestatic index, 3))
    (kk : J Γ E nL ad RF 85 res.2 0 0 (pc + 3) L (res.1.toList ++ rest)) : J Γ E nL ad RF 85 σ 0 0 pc L st := by
  refine j_ofrun (a := As.toArray) (fun H locs ls hlv hP hA hS => ?_) kk
  subst hst
  have cb : va_CN Γ.2.2.2.1 Γ.s Γ.args own index y RX7 cc' nL' ret (wY y cc' nL' ret) rm' 0 0 na := by
    rw [X.2.2.2.2.2.2]
    exact va_cnB na X.2.2.2.2.1 (good_wY mf.1) rfl hr0.1 hr0.2 (X.2.2.2.2.2.1.2.1 _ hw) (X.2.2.2.2.1 _ mf.2.1) mf.2.2.1 hR
  exact va_runSN ⟨X.1, X.2.1, X.2.2.1, X.2.2.2.1, X.2.2.2.2.1⟩ hM ⟨cb, X.2.2.2.2.1 _ hi, trivial⟩ ⟨blindU, fun U hU hW => ⟨rfl, vm_next X hP hA hS hU hW⟩⟩ rfl hn hlv.1 rfl (lv_room hsm) hd ⟨Nat.zero_le _, Nat.zero_le _⟩
theorem j_mmax {a b : Int32} (X : XC Γ E rm cc nL own) (hw : Cond.methodLink own index Lib.Math.max.name ∈ BG) (h2 : Cond.static Lib.Math.max.name ∈ BG) (h3 : Cond.initialized "java/lang/Math" ∈ BG) (h4 : Cond.code Lib.Math.max.name Lib.Math.max.code 2 (some .int) ∈ BG) (hR : 1 ≤ rm.frames ∧ (rest.map fun v => v.category).sum + 13 ≤ rm.locals) (hd : decode cc pc = .ok (.invokestatic index, 3))
    (kk : J Γ E nL ad RF 85 σ 0 0 (pc + 3) L (.int (if a < b then b else a) :: rest)) : J Γ E nL ad RF 85 σ 0 0 pc L (.int b :: .int a :: rest) := by
  intro H locs ls hl hP hA hS
  have hR' : 1 ≤ Γ.2.2.2.1.frames ∧ (rest.map fun v => v.category).sum + 13 ≤ Γ.2.2.2.1.locals := by rw [X.2.2.2.2.2.2]; exact hR
  exact va_mmax X.1 X.2.1 (X.2.2.1.trans hl.1.symm) X.2.2.2.1 (X.2.2.2.2.1 _ hw) (X.2.2.2.2.1 _ h2) (X.2.2.2.2.1 _ h3) (X.2.2.2.2.1 _ h4) hR'.1 hR'.2 (Nat.zero_le _) (Nat.zero_le _) hd (kk H locs ls hl hP hA hS)
theorem j_mmin {a b : Int32} (X : XC Γ E rm cc nL own) (hw : Cond.methodLink own index Lib.Math.min.name ∈ BG) (h2 : Cond.static Lib.Math.min.name ∈ BG) (h3 : Cond.initialized "java/lang/Math" ∈ BG) (h4 : Cond.code Lib.Math.min.name Lib.Math.min.code 2 (some .int) ∈ BG) (hR : 1 ≤ rm.frames ∧ (rest.map fun v => v.category).sum + 13 ≤ rm.locals) (hd : decode cc pc = .ok (.invokestatic index, 3))
    (kk : J Γ E nL ad RF 85 σ 0 0 (pc + 3) L (.int (if b < a then b else a) :: rest)) : J Γ E nL ad RF 85 σ 0 0 pc L (.int b :: .int a :: rest) := by
  intro H locs ls hl hP hA hS
  have hR' : 1 ≤ Γ.2.2.2.1.frames ∧ (rest.map fun v => v.category).sum + 13 ≤ Γ.2.2.2.1.locals := by rw [X.2.2.2.2.2.2]; exact hR
  exact va_mmin X.1 X.2.1 (X.2.2.1.trans hl.1.symm) X.2.2.2.1 (X.2.2.2.2.1 _ hw) (X.2.2.2.2.1 _ h2) (X.2.2.2.2.1 _ h3) (X.2.2.2.2.1 _ h4) hR'.1 hR'.2 (Nat.zero_le _) (Nat.zero_le _) hd (kk H locs ls hl hP hA hS)
end CALLS
end
